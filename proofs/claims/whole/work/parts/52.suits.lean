theorem i_bit : ∀ d, d < 31 → (1 : Int32) <<< (nI d &&& 31) = nI (2 ^ d) := by decide +kernel
/-- days told for a house by the first k shut days -/
def cldN (zd zh : Nat → Nat) (k h d : Nat) : Bool := (List.range k).any (fun i => zh i == h && zd i == d)
theorem cldN_succ (zd zh : Nat → Nat) (k h d : Nat) : cldN zd zh (k + 1) h d = (cldN zd zh k h d || (zh k == h && zd k == d)) := by
  unfold cldN
  rw [List.range_succ, List.any_append]
  simp
theorem sp_K_closeAsTold {σ : Hp} {Z : Nat} {zd zh : Nat → Nat} {P : Hp → Prop} (hZ : Z ≤ 8) (h7 : σ 5 7 = nI Z) (hl : ∀ i, i < Z → (σ 30 i = nI (zd i) ∧ zd i < 30) ∧ (σ 31 i = nI (zh i) ∧ zh i < 8)) (h : ∀ ρ, Bt [32] σ ρ → (∀ q, q < 8 → ∃ m : Nat, ρ 32 q = nI m ∧ m < 2 ^ 30 ∧ ∀ d, d < 30 → m.testBit d = cldN zd zh Z q d) → P ρ) : wp_K_closeAsTold σ P := by
  refine sp_JA_fill rfl (by decide) ?_
  generalize hρ0 : (fun q => if q = 32 then fun i => if i < 8 then (0 : Int32) else σ 32 i else σ q : Hp) = ρ0
  have B0 : Bt [32] σ ρ0 := by
    intro q hq
    rw [← hρ0]
    exact if_neg (fun e => hq (by rw [e]; decide))
  intro I hI
  have key : ∀ (m k : Nat) (ρ : Hp), k + m = Z → Bt [32] σ ρ → (∀ q, q < 8 → ∃ b : Nat, ρ 32 q = nI b ∧ b < 2 ^ 30 ∧ ∀ d, d < 30 → b.testBit d = cldN zd zh k q d) → I ρ (nI k) := by
    intro m
    induction m with
    | zero =>
      intro k ρ hk hB hi
      have : k = Z := by omega
      subst this
      apply hI
      unfold b_K_closeAsTold_10_
      rw [hB 5 (by decide), h7]
      exact pk_le k k (fun _ => h ρ hB hi) (fun c => absurd c (by omega))
    | succ m ih =>
      intro k ρ hk hB hi
      obtain ⟨⟨l1, l2⟩, l3, l4⟩ := hl k (by omega)
      apply hI
      unfold b_K_closeAsTold_10_
      rw [hB 5 (by decide), h7, hB 31 (by decide), hB 30 (by decide), ixn (show k < 2 ^ 31 by omega), l1, l3, ixn (show zh k < 2 ^ 31 by omega)]
      refine pk_le Z k (fun c => absurd c (by omega)) (fun _ => ⟨pk_in k 8 (by omega), pk_in _ 8 l4 (by rfl), pk_in k 8 (by omega), pk_in _ 8 l4 (by rfl), fun v6 e6 => ?_⟩)
      rw [e6, show nI k + 1 = nI (k + 1) from nI_1 k]
      refine ih (k + 1) _ (by omega) (hB.st (by decide)) (fun q hq => ?_)
      obtain ⟨b, b1, b2, b3⟩ := hi (zh k) l4
      obtain ⟨b', b1', b2', b3'⟩ := hi q hq
      rw [st_at]
      unfold upd
      by_cases e : q = zh k
      · rw [if_pos e, b1, i_bit _ (by omega), i_or]
        refine ⟨_, rfl, Nat.or_lt_two_pow b2 (Nat.pow_lt_pow_right (by decide) l2), fun d hd => ?_⟩
        rw [Nat.testBit_or, b3 d hd, Nat.testBit_two_pow, cldN_succ, e]
        by_cases h9 : zd k = d <;> simp [h9]
      · rw [if_neg e]
        refine ⟨b', b1', b2', fun d hd => ?_⟩
        rw [b3' d hd, cldN_succ]
        have : (zh k == q) = false := by simp; exact fun z => e z.symm
        rw [this]; simp
  refine key Z 0 ρ0 (by omega) B0 (fun q hq => ⟨0, ?_, by decide, fun d hd => by simp [cldN]⟩)
  rw [← hρ0]
  show (if 32 = 32 then _ else _ : Nat → Int32) q = 0
  rw [if_pos rfl]
  exact if_pos hq
theorem h_wall : H_wall Rel := by
  intro σ τ x1 x2 hrel
  obtain ⟨α, hw, hC, hR⟩ := hrel
  have keep : Rel σ τ := ⟨α, hw, hC, hR⟩
  unfold wp_P_wall wp_R_wall
  have bad : ¬ (isD x1 7 ∧ isD x2 10) → wp_R_in τ x1 0 6 (fun r1 t2 => (r1 = 0 → (fun r2 τ1 => (-2 : Int32) = r2 ∧ Rel σ τ1) (-2) t2) ∧ (¬ r1 = 0 → wp_R_in t2 x2 0 9 (fun r4 t5 => (¬ r4 = 0 → (vp_in x1 7) ∧ (∀ v8 : Int32, v8 = t5 8 (ix x1) → (vp_in x1 7) ∧ (fun r2 τ1 => (-2 : Int32) = r2 ∧ Rel σ τ1) v8 (st t5 8 (ix x1) x2))) ∧ (r4 = 0 → (fun r2 τ1 => (-2 : Int32) = r2 ∧ Rel σ τ1) (-2) t5)))) := by
    intro hb
    refine sp_R_in 6 rfl (by decide) (fun q => br_f one0 (sp_R_in 9 rfl (by decide) (fun q2 => absurd ⟨q, q2⟩ hb) (fun _ => br_nf rfl ⟨rfl, keep⟩))) (fun q => br_t rfl ⟨rfl, keep⟩)
  refine rg_ge (A := wp_R_in τ x1 0 6 _) 7 rfl (by decide) (fun q => ?_) (fun q => bad (fun z => q z.1))
  have tst : ∀ {A B : Prop}, (isD x2 10 → B) → (¬ isD x2 10 → A) → (x2 < 0 → A) ∧ (¬ x2 < 0 → ((x2 < 10 → B) ∧ (¬ x2 < 10 → A))) := by
    intro A B f g
    refine ⟨fun c => g (fun z => ((isD_iff (by decide)).mp z).1 c), fun c => ⟨fun c2 => f ((isD_iff (by decide)).mpr ⟨c, ?_⟩), fun c2 => g (fun z => ((isD_iff (by decide)).mp z).2 ?_)⟩⟩
    · exact nle_lt.mpr c2
    · exact nlt_le.mp c2
  refine tst (fun q2 => ?_) (fun q2 => bad (fun z => q2 z.2))
  obtain ⟨i, hi, rfl⟩ := q
  obtain ⟨v, hv, rfl⟩ := q2
  refine ⟨pk_in i 7 hi, fun v6 e6 => ⟨pk_in i 7 hi, ?_⟩⟩
  rw [ixn (by omega), hC.2.1.2.2.1 i hi] at e6
  subst e6
  obtain ⟨c1, ⟨d1, d2, d3, d4, d5⟩, c3, c4, c5, c6⟩ := hC
  obtain ⟨r1, r2, r3, r4, r5, r6, r7⟩ := hR
  have hB : Bt [26] σ (st σ 26 (ix (nI i)) (nI v)) := (Bt.rf _ σ).st (by decide)
  obtain ⟨α', ea⟩ : ∃ α' : Abs, α' = (α.1, (fun j => if j = i then v else aW α j), α.2.2) := ⟨_, rfl⟩
  have hw2 : WF α' := by
    subst ea
    refine ⟨hw.1, fun j hj => ?_, hw.2.2⟩
    show (if j = i then v else aW α j) < 10
    by_cases e : j = i
    · rw [if_pos e]; exact hv
    · rw [if_neg e]; exact hw.2.1 j hj
  have hW2 : RCw (st σ 26 (ix (nI i)) (nI v)) α' := by
    subst ea
    intro j hj
    rw [st_ix (by omega)]
    show _ = nI (if j = i then v else aW α j)
    by_cases e : j = i
    · rw [if_pos e, if_pos e]
    · rw [if_neg e, if_neg e]; exact d3 j hj
  have s2 : RCs (st σ 26 (ix (nI i)) (nI v)) α' := by subst ea; exact RCs.bt (α := α) d1 hB (by simp; omega)
  have r2' : RCr (st σ 26 (ix (nI i)) (nI v)) α' := by subst ea; exact RCr.bt (α := α) d2 hB (by simp)
  have k2 : RCk (st σ 26 (ix (nI i)) (nI v)) α' := by subst ea; exact RCk.bt (α := α) d4 hB (by simp; omega)
  refine sp_D_priceSuits hw2 k2 (StC_of hw2 s2 r2' hW2) (fun ρ hB2 hd => ?_)
  have hB3 : Bt [17, 26] σ ρ := by
    intro o ho
    simp at ho
    rw [hB2 o (by simp; omega), hB o (by simp; omega)]
  refine sp_R_in 6 rfl (by decide) (fun _ => br_f one0 (sp_R_in 9 rfl (by decide) (fun _ => br_nt one0 ⟨pk_in i 7 hi, fun v8 e8 => ⟨pk_in i 7 hi, ?_, α', hw2, ⟨?_, ⟨s2.bt hB2 (by simp; omega), r2'.bt hB2 (by simp), hW2.bt hB2 (by decide), k2.bt hB2 (by simp; omega), hd⟩, ?_, ?_, ?_, ?_⟩, ⟨?_, ?_, ?_, ?_, ?_, ?_, ?_⟩⟩⟩) (fun z => absurd ⟨v, hv, rfl⟩ z))) (fun z => absurd ⟨i, hi, rfl⟩ z)
  · rw [e8, ixn (by omega)]; exact (r2 i hi).symm
  · subst ea; exact RCt.bt (α := α) c1 hB3 (by simp)
  · subst ea; exact RCz.bt (α := α) c3 hB3 (by simp; omega)
  · subst ea; exact RCe.bt (α := α) c4 hB3 (by simp; omega)
  · subst ea; exact RCh.bt (α := α) c5 hB3 (by simp; omega)
  · rw [hB3 0 (by decide)]; subst ea; exact c6
  · subst ea; exact r1
  · subst ea
    intro j hj
    rw [st_ix (by omega)]
    show _ = nI (if j = i then v else aW α j)
    by_cases e : j = i
    · rw [if_pos e, if_pos e]
    · rw [if_neg e, if_neg e]; exact r2 j hj
  · subst ea; exact r3
  · subst ea; exact r4
  · subst ea; exact r5
  · subst ea; exact r6
  · subst ea; exact r7
