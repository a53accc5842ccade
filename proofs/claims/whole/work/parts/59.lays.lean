/-! debts: the reference -/
def StR (τ : Hp) (H : Nat) (kd mu en rt w : Nat → Nat) : Prop := (H ≤ 8 ∧ τ 0 2 = nI H) ∧ (∀ i, i < H → (τ 3 i = nI (kd i) ∧ kd i < 4) ∧ (τ 4 i = nI (mu i) ∧ mu i ≤ 9) ∧ (τ 5 i = nI (en i) ∧ en i < 4)) ∧ (∀ k, k < 3 → τ 7 k = nI (rt k)) ∧ ∀ i, i < 7 → τ 8 i = nI (w i) ∧ w i < 10
theorem StR.bt {σ ρ : Hp} {H : Nat} {kd mu en rt w : Nat → Nat} {cs : List Nat} (hs : StR σ H kd mu en rt w) (hB : Bt cs σ ρ) (h0 : ρ 0 2 = σ 0 2) (hc : ∀ o, 3 ≤ o ∧ o ≤ 8 → o ∉ cs) : StR ρ H kd mu en rt w := by
  unfold StR at *
  rw [h0, hB 3 (hc 3 (by omega)), hB 4 (hc 4 (by omega)), hB 5 (hc 5 (by omega)), hB 7 (hc 7 (by omega)), hB 8 (hc 8 (by omega))]
  exact hs
theorem sp_R_throughOf {τ : Hp} {H x y : Nat} {kd mu en rt w : Nat → Nat} {P : Int32 → Hp → Prop} (hs : StR τ H kd mu en rt w) (hx : x < H) (hy : y < H) (hxy : x ≠ y) (h : P (nI (thrN w (kd x) (mu x) x y)) τ) : wp_R_throughOf τ (nI x) (nI y) P := by
  obtain ⟨⟨hH, -⟩, ha, -, hw⟩ := hs
  obtain ⟨⟨e3, hk⟩, ⟨e4, hm⟩, -⟩ := ha x hx
  have go : ∀ lo hi, lo = min x y → hi = max x y → j_R_throughOf_21 P τ (nI x) (nI lo) (nI hi) := by
    intro lo hi elo ehi v16 e16
    have hlh : lo < hi := by omega
    have hhi : hi ≤ 7 := by omega
    have e16 : v16 = nI (hi - lo - 1) := by rw [e16, pk_sub (by omega)]; exact pk_sub (b := 1) (by omega)
    subst e16
    intro I hI
    have key : ∀ m k, k + m = hi - lo → I τ (nI x) (nI hi) (nI (hi - lo - 1)) (nI (sumN w lo k)) (nI (sumN (fun i => w i / 2) lo k)) (nI (lo + k)) := by
      intro m
      induction m with
      | zero =>
        intro k hk0
        have hk2 : k = hi - lo := by omega
        subst hk2
        have s1 : sumN w lo (hi - lo) ≤ (hi - lo) * 9 := sumN_le _ (fun i hi2 => by have := (hw (lo + i) (by omega)).2; omega)
        have s2 : sumN (fun i => w i / 2) lo (hi - lo) ≤ (hi - lo) * 9 := sumN_le _ (fun i hi2 => by have := (hw (lo + i) (by omega)).2; omega)
        have s1' : sumN w lo (hi - lo) < 100 := by omega
        have s2' : sumN (fun i => w i / 2) lo (hi - lo) < 100 := by omega
        -- the end
        have fin : ∀ b, b < 1000 → thrN w (kd x) (mu x) x y = (if kd x = 3 then 0 else mu x - b) → j_R_throughOf_132 P τ (nI x) (nI (kd x)) (nI b) := by
          intro b hb e
          rw [e] at h
          refine pk_ne (kd x) 3 (fun c => ⟨pk_in x 9 (by omega), ?_⟩) (fun c => ?_)
          · rw [if_neg c] at h
            rw [ixn (show x < 2 ^ 31 by omega), e4]
            by_cases c2 : b < mu x
            · rw [pk_sub (by omega)]
              exact pk_le (mu x - b) 0 (fun z => absurd z (by omega)) (fun _ => h)
            · rw [show mu x - b = 0 by omega] at h
              refine ⟨fun _ => h, fun z => absurd ?_ z⟩
              rw [Int32.le_iff_toInt_le, pk_sub_toInt (by omega) (by omega)]
              simp; omega
          · rw [if_pos c] at h
            exact ⟨fun _ => h, fun z => absurd (by decide) z⟩
        have et : thrN w (kd x) (mu x) x y = (let n := hi - lo; if kd x = 0 then mu x - (2 * (n - 1) + sumN w lo n) else if kd x = 1 then mu x - ((n - 1) + sumN (fun i => w i / 2) lo n) else if kd x = 2 then (if n - 1 = 0 ∧ sumN w lo n = 0 then mu x else 0) else 0) := by
          unfold thrN; rw [elo, ehi]
        simp only [] at et
        apply hI
        refine pk_le hi (lo + (hi - lo)) (fun _ => ⟨pk_in x 9 (by omega), fun v6 e6 => ?_⟩) (fun c => absurd c (by omega))
        rw [ixn (show x < 2 ^ 31 by omega), e3] at e6
        subst e6
        have big : j_R_throughOf_126 P τ (nI x) (nI (kd x)) ∨ True := Or.inr trivial
        have b99 : (kd x ≠ 0 → kd x ≠ 1 → ¬ (hi - lo - 1 = 0 ∧ sumN w lo (hi - lo) = 0) → j_R_throughOf_126 P τ (nI x) (nI (kd x))) := by
          intro c0 c1 hno
          refine fin 99 (by omega) ?_
          rw [et, if_neg c0, if_neg c1, if_neg hno]
          by_cases c3 : kd x = 3
          · simp [c3]
          · simp [c3]; omega
        refine pk_ne (kd x) 0 (fun c0 => ?_) (fun c0 => ?_)
        · refine pk_ne (kd x) 1 (fun c1 => ?_) (fun c1 => ?_)
          · refine pk_lt 0 (hi - lo - 1) (fun c2 => b99 c0 c1 (fun z => by omega)) (fun c2 => ?_)
            refine pk_le (sumN w lo (hi - lo)) 0 (fun c4 => ?_) (fun c4 => b99 c0 c1 (fun z => by omega))
            refine fin 0 (by omega) ?_
            have c5 : hi - lo - 1 = 0 ∧ sumN w lo (hi - lo) = 0 := ⟨by omega, by omega⟩
            rw [et, if_neg c0, if_neg c1]
            by_cases c3 : kd x = 3
            · simp [c3]
            · have : kd x = 2 := by omega
              rw [if_pos this, if_pos c5, if_neg c3]; rfl
          · rw [nI_add]
            refine fin _ (by omega) ?_
            rw [et, if_neg c0, if_pos c1, if_neg (by omega)]
        · rw [show (2 : Int32) = nI 2 from rfl, pk_mul, nI_add]
          refine fin _ (by omega) ?_
          rw [et, if_pos c0, if_neg (by omega)]
      | succ m ih =>
        intro k hk0
        have hk31 : lo + k < 2 ^ 31 := by omega
        apply hI
        refine pk_le hi (lo + k) (fun c => absurd c (by omega)) (fun _ => ⟨pk_in (lo + k) 7 (by omega), fun v6 e6 => ⟨pk_in (lo + k) 7 (by omega), fun v8 e8 v9 e9 => ?_⟩⟩)
        obtain ⟨w1, w2⟩ := hw (lo + k) (by omega)
        rw [ixn hk31, w1, nI_add] at e6
        rw [ixn hk31, w1, show nI (w (lo + k)) / 2 = nI (w (lo + k) / 2) from pk_div (d := 2) (by omega) (by omega) (by omega), nI_add] at e8
        rw [e6, e8, e9, show nI (lo + k) + 1 = nI (lo + (k + 1)) from nI_1 _]
        exact ih (k + 1) (by omega)
    exact key (hi - lo) 0 (by omega)
  refine pk_le y x (fun c => ?_) (fun c => ?_)
  · refine pk_le y x (fun _ => ?_) (fun z => absurd z (by omega))
    exact go y x (by omega) (by omega)
  · refine pk_le y x (fun z => absurd z (by omega)) (fun _ => ?_)
    exact go x y (by omega) (by omega)
/-- behind lays -/
def PR (τ : Hp) (γ : Dc) : Prop := τ 0 2 = nI (gH γ) ∧ (∀ x y, x < gH γ → y < gH γ → (x ≠ y → τ 15 (8 * x + y) = nI (gU γ y x)) ∧ τ 16 (8 * x + y) = nI (sinN γ y x (gS γ))) ∧ ∀ y d, y < 8 → d < 30 → τ 14 (30 * y + d) = if gC γ y d = true then 1 else 0
theorem br_le {a b : Nat} {A B : Prop} (ha : a < 2 ^ 31) (hb : b < 2 ^ 31) (f : a ≤ b → A) (g : b < a → B) : (nI a ≤ nI b → A) ∧ (¬ nI a ≤ nI b → B) := pk_le a b f g
theorem sp_R_isIn {τ : Hp} {l k : Nat} {P : Int32 → Hp → Prop} (hl : l < 2 ^ 31) (hk : k < 32) (h1 : l.testBit k = true → P 1 τ) (h0 : l.testBit k = false → P 0 τ) : wp_R_isIn τ (nI l) (nI k) P := tb_1n hl hk h1 h0
theorem pair_eq {x y x' y' : Nat} (hy : y < 8) (hy' : y' < 8) : 8 * x + y = 8 * x' + y' ↔ x = x' ∧ y = y' := by omega
theorem sp_R_lays {τ : Hp} {γ : Dc} {kd mu en rt w : Nat → Nat} {dr : Nat} {P : Hp → Prop} (hw : WD γ) (hs : StR τ (gH γ) kd mu en rt w) (hU : ∀ y x, y < gH γ → x < gH γ → y ≠ x → gU γ y x = dueN (gH γ) kd mu en rt w y x) (hk : τ 0 10 = nI (gS γ) ∧ ∀ i, i < gS γ → τ 9 i = nI (gD γ i) ∧ τ 10 i = nI (gY γ i) ∧ τ 11 i = nI (gX γ i)) (hdr : τ 0 17 = nI dr ∧ dr < 2 ^ 31 ∧ ∀ k, k < gS γ → dr.testBit k = !gT γ k) (hc : ∀ y d, y < 8 → d < 30 → τ 14 (30 * y + d) = if gC γ y d = true then 1 else 0) (h : ∀ ρ, Bt [15, 16] τ ρ → PR ρ γ → P ρ) : wp_R_lays τ P := by
  have hH := hw.1.1
  have hS := hw.1.2
  have e02 := hs.1.2
  -- the suits
  have three : ∀ ρ, Bt [15, 16] τ ρ → (∀ x y, x < gH γ → y < gH γ → (x ≠ y → ρ 15 (8 * x + y) = nI (gU γ y x)) ∧ ρ 16 (8 * x + y) = nI 99) → j_R_lays_120 P ρ 0 := by
    intro ρ0 hB0 h0 I hI
    have key : ∀ (m k : Nat) (ρ : Hp), k + m = gS γ → Bt [15, 16] τ ρ → (∀ x y, x < gH γ → y < gH γ → (x ≠ y → ρ 15 (8 * x + y) = nI (gU γ y x)) ∧ ρ 16 (8 * x + y) = nI (sinN γ y x k)) → I ρ (nI k) := by
      intro m
      induction m with
      | zero =>
        intro k ρ hkm hB hi
        have : k = gS γ := by omega
        subst this
        apply hI
        unfold b_R_lays_120_
        rw [hB 0 (by decide), hk.1]
        refine pk_le (gS γ) (gS γ) (fun _ => h ρ hB ⟨?_, hi, ?_⟩) (fun c => absurd c (by omega))
        · rw [hB 0 (by decide)]; exact e02
        · rw [hB 14 (by decide)]; exact hc
      | succ m ih =>
        intro k ρ hkm hB hi
        obtain ⟨f1, f2, f3⟩ := hk.2 k (by omega)
        obtain ⟨u1, u2, u3, u4⟩ := hw.2.1 k (by omega)
        apply hI
        unfold b_R_lays_120_
        rw [hB 0 (by decide), hB 10 (by decide), hB 11 (by decide), hk.1, ixn (show k < 2 ^ 31 by omega), f2, f3]
        refine pk_le (gS γ) k (fun c => absurd c (by omega)) (fun _ => ⟨pk_in k 12 (by omega), pk_in k 12 (by omega), fun v17 e17 => ?_⟩)
        rw [show (8 : Int32) = nI 8 from rfl, pk_mul, nI_add] at e17
        subst e17
        have hix : ix (nI (8 * gX γ k + gY γ k)) = 8 * gX γ k + gY γ k := ixn (by omega)
        have hin : vp_in (nI (8 * gX γ k + gY γ k)) 64 := pk_in (8 * gX γ k + gY γ k) 64 (by omega)
        have stay : ¬ (gT γ k = true ∧ gY γ k < gH γ ∧ gX γ k < gH γ ∧ gD γ k < sinN γ (gY γ k) (gX γ k) k) → I (st ρ 16 (8 * gX γ k + gY γ k) (ρ 16 (8 * gX γ k + gY γ k))) (nI (k + 1)) := by
          intro hno
          refine ih (k + 1) _ (by omega) (hB.st (by decide)) (fun x y hx hy => ⟨fun hne => ?_, ?_⟩)
          · rw [st_ne _ _ _ (by decide)]; exact (hi x y hx hy).1 hne
          · have e1 : st ρ 16 (8 * gX γ k + gY γ k) (ρ 16 (8 * gX γ k + gY γ k)) 16 (8 * x + y) = ρ 16 (8 * x + y) := by
              rw [st_at]; unfold upd
              split
              · rename_i e; rw [e]
              · rfl
            rw [e1, (hi x y hx hy).2]
            congr 1
            show _ = (if _ then _ else _)
            by_cases hq : gT γ k = true ∧ gY γ k = y ∧ gX γ k = x
            · rw [if_pos hq]
              obtain ⟨q1, q2, q3⟩ := hq
              have : ¬ gD γ k < sinN γ y x k := fun z => hno ⟨q1, by omega, by omega, by rw [q2, q3]; exact z⟩
              omega
            · rw [if_neg hq]
        have no87 : ¬ (gT γ k = true ∧ gY γ k < gH γ ∧ gX γ k < gH γ) → j_R_lays_187 P I ρ (nI k) (nI (8 * gX γ k + gY γ k)) 0 := by
          intro hno
          refine br_t rfl ⟨hin, hin, fun v4 e4 => ?_⟩
          rw [e4, hix, show nI k + 1 = nI (k + 1) from nI_1 k]
          exact stay (fun z => hno ⟨z.1, z.2.1, z.2.2.1⟩)
        rw [hdr.1]
        refine sp_R_isIn hdr.2.1 (by omega) (fun q => br_nt one0 (no87 (fun z => ?_))) (fun q => br_nf rfl ⟨pk_in k 12 (by omega), ?_⟩)
        · rw [hdr.2.2 k (by omega), z.1] at q; cases q
        · rw [hdr.2.2 k (by omega)] at q
          have hT : gT γ k = true := by cases hh : gT γ k with
            | true => rfl
            | false => rw [hh] at q; cases q
          rw [hB 0 (by decide), e02, hB 10 (by decide), hB 11 (by decide), f2, f3]
          refine pk_le (gH γ) (gY γ k) (fun c => no87 (fun z => by omega)) (fun c => ⟨pk_in k 12 (by omega), ?_⟩)
          refine pk_le (gH γ) (gX γ k) (fun c2 => no87 (fun z => by omega)) (fun c2 => br_f one0 ⟨pk_in k 12 (by omega), hin, ?_⟩)
          have h99 : sinN γ (gY γ k) (gX γ k) k = 99 ∨ sinN γ (gY γ k) (gX γ k) k < 30 := sin_99 k (fun j hj => (hw.2.1 j (by omega)).1)
          rw [hix, ixn (show k < 2 ^ 31 by omega), (hi (gX γ k) (gY γ k) c2 c).2, hB 9 (by decide), f1]
          refine pk_le (sinN γ (gY γ k) (gX γ k) k) (gD γ k) (fun c3 => ⟨hin, hin, fun v10 e10 => ?_⟩) (fun c3 => ⟨pk_in k 12 (by omega), hin, fun v13 e13 => ?_⟩)
          · rw [e10, show nI k + 1 = nI (k + 1) from nI_1 k]
            have := stay (fun z => by omega)
            rw [(hi (gX γ k) (gY γ k) c2 c).2] at this
            exact this
          · rw [e13, show nI k + 1 = nI (k + 1) from nI_1 k]
            refine ih (k + 1) _ (by omega) (hB.st (by decide)) (fun x y hx hy => ⟨fun hne => ?_, ?_⟩)
            · rw [st_ne _ _ _ (by decide)]; exact (hi x y hx hy).1 hne
            · rw [st_at]; unfold upd
              show _ = nI (if _ then _ else _)
              by_cases e : 8 * x + y = 8 * gX γ k + gY γ k
              · rw [pair_eq (by omega) u2] at e
                rw [if_pos (by omega), if_pos ⟨hT, e.2.symm, e.1.symm⟩]
                congr 1
                rw [e.1, e.2]; omega
              · rw [if_neg e, (hi x y hx hy).2, if_neg]
                rintro ⟨-, z1, z2⟩
                exact e (by rw [z1, z2])
    exact key (gS γ) 0 ρ0 (by omega) hB0 h0
  intro I hI
  have key : ∀ (m x : Nat) (ρ : Hp), x + m = gH γ → Bt [15, 16] τ ρ → (∀ x' y, x' < x → y < gH γ → (x' ≠ y → ρ 15 (8 * x' + y) = nI (gU γ y x')) ∧ ρ 16 (8 * x' + y) = nI 99) → I ρ (nI x) := by
    intro m
    induction m with
    | zero =>
      intro x ρ hx hB hi
      have : x = gH γ := by omega
      subst this
      apply hI
      unfold b_R_lays_2_
      rw [hB 0 (by decide), e02]
      exact pk_le (gH γ) (gH γ) (fun _ => three ρ hB hi) (fun c => absurd c (by omega))
    | succ m ih =>
      intro x ρ hx hB hi
      apply hI
      unfold b_R_lays_2_
      rw [hB 0 (by decide), e02]
      refine pk_le (gH γ) x (fun c => absurd c (by omega)) (fun _ => ?_)
      intro J hJ
      have key2 : ∀ (m2 y : Nat) (ρ : Hp), y + m2 = gH γ → Bt [15, 16] τ ρ → (∀ x' y', (x' < x ∨ (x' = x ∧ y' < y)) → y' < gH γ → (x' ≠ y' → ρ 15 (8 * x' + y') = nI (gU γ y' x')) ∧ ρ 16 (8 * x' + y') = nI 99) → J ρ (nI x) (nI y) := by
        intro m2
        induction m2 with
        | zero =>
          intro y ρ hy hB hi
          have : y = gH γ := by omega
          subst this
          apply hJ
          unfold b_R_lays_12_
          rw [hB 0 (by decide), e02]
          refine pk_le (gH γ) (gH γ) (fun _ v34 e34 => ?_) (fun c => absurd c (by omega))
          rw [e34, show nI x + 1 = nI (x + 1) from nI_1 x]
          exact ih (x + 1) ρ (by omega) hB (fun x' y' h1 h2 => hi x' y' (by omega) h2)
        | succ m2 ih2 =>
          intro y ρ hy hB hi
          apply hJ
          unfold b_R_lays_12_
          rw [hB 0 (by decide), e02, ixn (show y < 2 ^ 31 by omega), ixn (show x < 2 ^ 31 by omega), hB 3 (by decide), hB 5 (by decide)]
          obtain ⟨⟨ky, ky2⟩, ⟨my, my2⟩, -⟩ := hs.2.1 y (by omega)
          obtain ⟨-, -, ⟨ex, ex2⟩⟩ := hs.2.1 x (by omega)
          rw [ky, ex]
          have last : ∀ v : Nat, (x ≠ y → gU γ y x = v) → j_R_lays_92 P I J ρ (nI x) (nI y) (8 * nI x + nI y) (nI v) := by
            intro v hv
            have e8 : (8 : Int32) * nI x + nI y = nI (8 * x + y) := by rw [show (8 : Int32) = nI 8 from rfl, pk_mul, nI_add]
            unfold j_R_lays_92
            rw [e8, ixn (show 8 * x + y < 2 ^ 31 by omega)]
            refine ⟨pk_in (8 * x + y) 64 (by omega), pk_in (8 * x + y) 64 (by omega), fun v27 e27 => ?_⟩
            rw [e27, show nI y + 1 = nI (y + 1) from nI_1 y]
            refine ih2 (y + 1) _ (by omega) ((hB.st (by decide)).st (by decide)) (fun x' y' h1 h2 => ⟨fun hne => ?_, ?_⟩)
            · rw [st_ne _ _ _ (by decide), st_at]; unfold upd
              by_cases e : 8 * x' + y' = 8 * x + y
              · rw [pair_eq (by omega) (by omega)] at e
                rw [if_pos (by omega), e.1, e.2, hv (by omega)]
              · rw [if_neg e]
                exact (hi x' y' (by omega) h2).1 hne
            · rw [st_at]; unfold upd
              by_cases e : 8 * x' + y' = 8 * x + y
              · rw [if_pos e]; rfl
              · rw [if_neg e, st_ne _ _ _ (by decide)]
                exact (hi x' y' (by omega) h2).2
          have zero : (x ≠ y → gU γ y x = 0) → j_R_lays_54 P I J ρ (nI x) (nI y) := fun hv => br_t rfl (last 0 hv)
          refine pk_le (gH γ) y (fun c => absurd c (by omega)) (fun _ => ?_)
          refine pk_eq x y (fun c => zero (fun z => absurd c z)) (fun c => ⟨pk_in y 9 (by omega), ?_⟩)
          have hdu := hU y x (by omega) (by omega) (fun z => c z.symm)
          unfold dueN at hdu
          refine pk_le 3 (kd y) (fun c2 => zero (fun _ => by rw [hdu, if_neg (by omega)])) (fun c2 => ⟨pk_in x 9 (by omega), pk_in y 9 (by omega), ?_⟩)
          refine pk_ne (en x) (kd y) (fun c3 => zero (fun _ => by rw [hdu, if_neg (fun z => c3 z.2.2.2)])) (fun c3 => br_f one0 ?_)
          have hs2 : StR ρ (gH γ) kd mu en rt w := hs.bt hB (by rw [hB 0 (by decide)]) (by simp; omega)
          refine sp_R_throughOf hs2 (x := y) (y := x) (by omega) (by omega) (fun z => c z.symm) ⟨pk_in y 9 (by omega), ?_⟩
          rw [ixn (show y < 2 ^ 31 by omega), (hs2.2.1 y (by omega)).1.1, ixn (show kd y < 2 ^ 31 by omega), hs2.2.2.1 (kd y) c2, pk_mul]
          refine ⟨pk_in (kd y) 3 c2, last _ (fun _ => ?_)⟩
          rw [hdu, if_pos ⟨by omega, by omega, c2, c3⟩]
      exact key2 (gH γ) 0 ρ (by omega) hB (fun x' y' h1 h2 => hi x' y' (by omega) h2)
  exact key (gH γ) 0 τ (by omega) (Bt.rf _ _) (fun x' y h1 => by omega)
theorem sp_R_owesNow {τ : Hp} {γ : Dc} {last x y : Nat} {P : Int32 → Hp → Prop} (hw : WD γ) (hP : PR τ γ) (hl : last < 30) (hx : x < gH γ) (hy : y < gH γ) (hxy : x ≠ y) (h : P (nI (wonN γ last y x)) τ) : wp_R_owesNow τ (nI last) (nI x) (nI y) P := by
  have hH := hw.1.1
  obtain ⟨p1, p2, p3⟩ := hP
  obtain ⟨q1, q2⟩ := p2 x y hx hy
  have q1 := q1 hxy
  have e8 : (8 : Int32) * nI x + nI y = nI (8 * x + y) := by rw [show (8 : Int32) = nI 8 from rfl, pk_mul, nI_add]
  have hs : sinN γ y x (gS γ) = 99 ∨ sinN γ y x (gS γ) < 30 := sin_99 _ (fun k hk => (hw.2.1 k hk).1)
  unfold wp_R_owesNow
  rw [e8, ixn (show 8 * x + y < 2 ^ 31 by omega), q2]
  refine ⟨pk_in (8 * x + y) 64 (by omega), fun v10 e10 => ?_⟩
  subst e10
  unfold wonN at h
  generalize hse : sinN γ y x (gS γ) = s at h hs ⊢
  intro I hI
  have fin : ∀ n, n = opn (gC γ y) s last → P (nI n * τ 15 (8 * x + y)) τ := by
    intro n e
    rw [q1, pk_mul, Nat.mul_comm, e]; exact h
  have key : ∀ m d, d + m = last + 1 → s ≤ d → I τ (nI last) (nI x) (nI y) (nI (fb_ct (fun i => decide (s ≤ i) && (decide (i ≤ last) && !gC γ y i)) d)) (nI d) := by
    intro m
    induction m with
    | zero =>
      intro d hd hsd
      have : d = last + 1 := by omega
      subst this
      apply hI
      unfold b_R_owesNow_16_
      rw [e8, ixn (show 8 * x + y < 2 ^ 31 by omega)]
      refine pk_lt last (last + 1) (fun _ => ⟨pk_in (8 * x + y) 64 (by omega), fin _ ?_⟩) (fun c => absurd c (by omega))
      have : fb_ct (fun k => decide (s ≤ last + 1 + k) && (decide (last + 1 + k ≤ last) && !gC γ y (last + 1 + k))) (31 - last) = 0 := by
        rw [fb_ct_zero]
        intro k _
        have : ¬ last + 1 + k ≤ last := by omega
        simp [this]
      have e := fb_ct_split (fun i => decide (s ≤ i) && (decide (i ≤ last) && !gC γ y i)) (last + 1) (31 - last)
      rw [this, Nat.add_zero, show last + 1 + (31 - last) = 32 by omega] at e
      exact e.symm
    | succ m ih =>
      intro d hd hsd
      apply hI
      unfold b_R_owesNow_16_
      have e30 : (30 : Int32) * nI y + nI d = nI (30 * y + d) := by rw [show (30 : Int32) = nI 30 from rfl, pk_mul, nI_add]
      rw [e30, ixn (show 30 * y + d < 2 ^ 31 by omega), p3 y d (by omega) (by omega)]
      refine pk_lt last d (fun c => absurd c (by omega)) (fun _ => ⟨pk_in (30 * y + d) 240 (by omega), ?_⟩)
      have ih := ih (d + 1) (by omega) (by omega)
      rw [fb_ct_succ] at ih
      have hd1 : decide (s ≤ d) = true := by simp [hsd]
      have hd2 : decide (d ≤ last) = true := by simp; omega
      cases hc : gC γ y d with
      | true =>
        rw [if_pos rfl]
        refine br_f one0 (fun v ev v2 ev2 => ?_)
        rw [hd1, hd2, hc] at ih
        rw [ev, ev2, show nI d + 1 = nI (d + 1) from nI_1 d, Int32.add_zero]
        exact ih
      | false =>
        rw [if_neg (by simp)]
        refine br_t rfl (fun v ev v2 ev2 => ?_)
        rw [hd1, hd2, hc] at ih
        rw [ev, ev2, show nI d + 1 = nI (d + 1) from nI_1 d, show nI (fb_ct (fun i => decide (s ≤ i) && (decide (i ≤ last) && !gC γ y i)) d) + 1 = nI (fb_ct (fun i => decide (s ≤ i) && (decide (i ≤ last) && !gC γ y i)) d + 1) from nI_1 _]
        exact ih
  by_cases hsl : s ≤ last
  · have e0 : fb_ct (fun i => decide (s ≤ i) && (decide (i ≤ last) && !gC γ y i)) s = 0 := by
      rw [fb_ct_zero]
      intro k hk
      have : ¬ s ≤ k := by omega
      simp [this]
    have := key (last + 1 - s) s (by omega) (Nat.le_refl _)
    rw [e0] at this; exact this
  · apply hI
    unfold b_R_owesNow_16_
    rw [e8, ixn (show 8 * x + y < 2 ^ 31 by omega)]
    refine pk_lt last s (fun _ => ⟨pk_in (8 * x + y) 64 (by omega), fin 0 ?_⟩) (fun c => absurd c (by omega))
    symm
    unfold opn
    rw [fb_ct_zero]
    intro k hk
    by_cases h1 : s ≤ k
    · have : ¬ k ≤ last := by omega
      simp [this]
    · simp [h1]
theorem sp_R_balanceNow {τ : Hp} {γ : Dc} {last h : Nat} {P : Int32 → Hp → Prop} (hw : WD γ) (hP : PR τ γ) (hl : last < 30) (hh : h < gH γ) (k1 : P (Int32.ofInt (balZ γ last h)) τ) : wp_R_balanceNow τ (nI last) (nI h) P := by
  have hH := hw.1.1
  intro I hI
  have key : ∀ m k, k + m = gH γ → I τ (nI last) (nI h) (Int32.ofInt (fb_si (fun k => if k = h then 0 else (wonN γ last h k : Int) - wonN γ last k h) k)) (nI k) := by
    intro m
    induction m with
    | zero =>
      intro k hk
      have : k = gH γ := by omega
      subst this
      apply hI
      unfold b_R_balanceNow_5_
      rw [hP.1]
      exact pk_le (gH γ) (gH γ) (fun _ => k1) (fun c => absurd c (by omega))
    | succ m ih =>
      intro k hk
      apply hI
      unfold b_R_balanceNow_5_
      rw [hP.1]
      have ih := ih (k + 1) (by omega)
      rw [fb_si_succ] at ih
      refine pk_le (gH γ) k (fun c => absurd c (by omega)) (fun _ => ?_)
      refine pk_ne k h (fun c => ?_) (fun c => fun v ev v2 ev2 => ?_)
      · rw [if_neg c] at ih
        refine sp_R_owesNow hw hP hl (by omega) hh c (sp_R_owesNow hw hP hl hh (by omega) (fun z => c z.symm) (fun v ev v2 ev2 => ?_))
        rw [ev, ev2, show nI k + 1 = nI (k + 1) from nI_1 k, ofI_nI (wonN γ last h k), ofI_nI (wonN γ last k h), ← Int32.ofInt_sub, ← Int32.ofInt_add]
        exact ih
      · rw [if_pos c, Int.add_zero] at ih
        rw [ev, ev2, show nI k + 1 = nI (k + 1) from nI_1 k, Int32.add_zero]
        exact ih
  exact key (gH γ) 0 (by omega)
