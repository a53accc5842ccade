theorem sp_R_readsHouses {τ : Hp} {α : Abs} {P : Int32 → Hp → Prop} (hw : WF α) (hr : RRt τ α) (h : ∀ ρ, BtR τ ρ → ρ 0 7 = τ 0 7 → ρ 7 = τ 7 → RdH ρ α → P (faultT 5 4 (aB0 α) (aN0 α)) ρ) : wp_R_readsHouses τ P := by
  have hN := hw.1.1.1
  unfold wp_R_readsHouses
  intro I hI
  have key : ∀ (m n : Nat) (ρ : Hp), n + m = 9 → BtR τ ρ → ρ 0 7 = τ 0 7 → ρ 7 = τ 7 → ρ 0 2 = 0 → 5 * n ≤ aN0 α → (∀ i, i < 5 * n → goes 5 4 (aB0 α) i = true) → (∀ i, i < n → ρ 3 i = nI (hK α i) ∧ ρ 4 i = nI (hM α i) ∧ ρ 5 i = nI (hJ α i) ∧ ρ 6 i = nI (hCo α i)) → I ρ (nI n) (nI (5 * n)) := by
    intro m
    induction m with
    | zero => intro n ρ hm _ _ _ _ hle; omega
    | succ m ih =>
      intro n ρ hm hB h7 h77 h2 hle hg hi
      have hrr := hB.rt hr
      have e1 : ρ 1 (ix 0) = nI (aN0 α) := by
        have := hrr.1
        exact this
      apply hI
      unfold b_R_readsHouses_9_
      rw [e1]
      have go : ¬ aN0 α = 0 → j_R_readsHouses_23 P I ρ (nI n) (nI (5 * n)) := by
        intro hz
        refine pk_ne n 8 (fun c => ?_) (fun c => absurd c (by omega))
        refine sp_R_readsHouse hw hrr (by omega) (fun q => ?_) (fun q => ?_)
        · obtain ⟨g1, g2⟩ := g4_spec α n q hle hg hz
          have g3 := g4_le α n
          refine pk_le 4 (g4 α n) (fun c2 => absurd c2 (by omega)) (fun _ => ?_)
          rw [nI_add]
          have hbad : faultT 5 4 (aB0 α) (aN0 α) = nI (5 * n + g4 α n) := by
            unfold faultT; rw [g1, if_neg (by simp), g2]
          rw [← hbad]
          refine h ρ hB h7 h77 ⟨?_, fun i hi2 => ?_⟩
          · rw [h2]; unfold nH hOk; rw [g1]; rfl
          · unfold nH hOk at hi2; rw [g1] at hi2; simp at hi2
        · obtain ⟨f1, f2⟩ := g4_four α n q
          have hk31 : n < 2 ^ 31 := by omega
          refine ⟨fun _ => ?_, fun c2 => absurd (by decide) c2⟩
          intro v2 ev2 v3 ev3
          have ev2 : v2 = nI (n + 1) := by rw [ev2]; exact nI_1 n
          have ev3 : v3 = nI (5 * n + 4) := by rw [ev3]; exact nI_add _ 4
          subst ev2; subst ev3
          generalize hρ1 : st (st (st (st ρ 3 (ix (nI n)) (nI (hK α n))) 4 (ix (nI n)) (nI (hM α n))) 5 (ix (nI n)) (nI (hJ α n))) 6 (ix (nI n)) (nI (hCo α n)) = ρ1
          have B1 : BtR τ ρ1 := by rw [← hρ1]; exact (((hB.arr (by omega)).arr (by omega)).arr (by omega)).arr (by omega)
          have n0 : ∀ j, ρ1 0 j = ρ 0 j := by
            intro j
            rw [← hρ1, st_ne _ _ _ (by decide), st_ne _ _ _ (by decide), st_ne _ _ _ (by decide), st_ne _ _ _ (by decide)]
          have n7 : ρ1 7 = ρ 7 := by
            rw [← hρ1, st_ne _ _ _ (by decide), st_ne _ _ _ (by decide), st_ne _ _ _ (by decide), st_ne _ _ _ (by decide)]
          have hi1 : ∀ i, i < n + 1 → ρ1 3 i = nI (hK α i) ∧ ρ1 4 i = nI (hM α i) ∧ ρ1 5 i = nI (hJ α i) ∧ ρ1 6 i = nI (hCo α i) := by
            intro i hi2
            rw [← hρ1]
            refine ⟨?_, ?_, ?_, ?_⟩
            · rw [st_ne _ _ _ (by decide), st_ne _ _ _ (by decide), st_ne _ _ _ (by decide), st_ix hk31]
              by_cases e : i = n
              · rw [if_pos e, e]
              · rw [if_neg e]; exact (hi i (by omega)).1
            · rw [st_ne _ _ _ (by decide), st_ne _ _ _ (by decide), st_ix hk31, st_ne _ _ _ (by decide)]
              by_cases e : i = n
              · rw [if_pos e, e]
              · rw [if_neg e]; exact (hi i (by omega)).2.1
            · rw [st_ne _ _ _ (by decide), st_ix hk31, st_ne _ _ _ (by decide), st_ne _ _ _ (by decide)]
              by_cases e : i = n
              · rw [if_pos e, e]
              · rw [if_neg e]; exact (hi i (by omega)).2.2.1
            · rw [st_ix hk31, st_ne _ _ _ (by decide), st_ne _ _ _ (by decide), st_ne _ _ _ (by decide)]
              by_cases e : i = n
              · rw [if_pos e, e]
              · rw [if_neg e]; exact (hi i (by omega)).2.2.2
          have hr1 := B1.rt hr
          have e11 : ρ1 1 (ix 0) = nI (aN0 α) := hr1.1
          have hg4 : ∀ i, i < 5 * n + 4 → goes 5 4 (aB0 α) i = true := by
            intro i hi2
            by_cases h5 : i < 5 * n
            · exact hg i h5
            · have := f2 (i - 5 * n) (by omega)
              rw [show 5 * n + (i - 5 * n) = i by omega] at this; exact this
          refine ⟨pk_in 0 2 (by omega), ?_⟩
          rw [e11]
          refine pk_ne (5 * n + 4) (aN0 α) (fun c3 => ?_) (fun c3 => ?_)
          · refine sp_R_byteAt (t := 0) hw hr1 (by omega) (by omega) (fun c4 => ?_) (fun c4 => absurd (show 5 * n + 4 < aN0 α by omega) c4)
            refine pk_eq (aB α 0 (5 * n + 4)) 59 (fun c5 => ?_) (fun c5 => ?_) (by rfl) (by rfl) (by have := aB_lt hw c4; omega) (by omega)
            · intro v9 e9
              rw [e9, show nI (5 * n + 4) + 1 = nI (5 * (n + 1)) from nI_1 _]
              refine ih (n + 1) ρ1 (by omega) B1 ((n0 7).trans h7) (n7.trans h77) ((n0 2).trans h2) (by omega) (fun i hi2 => ?_) hi1
              by_cases h5 : i < 5 * n + 4
              · exact hg4 i h5
              · have : i = 5 * n + 4 := by omega
                subst this
                unfold goes
                rw [show (5 * n + 4) % 5 = 5 - 1 by omega, if_pos rfl]
                simp; exact c5
            · have hgf : goes 5 4 (aB0 α) (5 * n + 4) = false := by
                unfold goes
                rw [show (5 * n + 4) % 5 = 5 - 1 by omega, if_pos rfl]
                simp; exact c5
              have hbad := badP_at 5 4 (aB0 α) (aN0 α) (5 * n + 4) c4 hg4 hgf
              have c4' : 5 * n + 4 < aN0 α := c4
              have hwf : wellT 5 4 (aB0 α) (aN0 α) = false := by unfold wellT; rw [hbad]; simp; omega
              have hf : faultT 5 4 (aB0 α) (aN0 α) = nI (5 * n + 4) := by unfold faultT; rw [hwf, if_neg (by simp), hbad]
              rw [← hf]
              refine h ρ1 B1 ((n0 7).trans h7) (n7.trans h77) ⟨?_, fun i hi2 => ?_⟩
              · rw [n0 2, h2]; unfold nH hOk; rw [hwf]; rfl
              · unfold nH hOk at hi2; rw [hwf] at hi2; simp at hi2
          · have hbad : badP 5 4 (aB0 α) (aN0 α) = aN0 α := badP_all _ _ _ _ (by rw [← c3]; exact hg4)
            have hwt : wellT 5 4 (aB0 α) (aN0 α) = true := by unfold wellT; rw [hbad]; simp; omega
            have hf : faultT 5 4 (aB0 α) (aN0 α) = -1 := by unfold faultT; rw [if_pos hwt]
            have hH : nH α = n + 1 := by unfold nH hOk; rw [if_pos hwt]; omega
            rw [← hf]
            refine h _ (B1.obj (Or.inl rfl)) ?_ ?_ ⟨?_, fun i hi2 => ?_⟩
            · rw [st_at]; unfold upd; rw [if_neg (by decide)]; exact (n0 7).trans h7
            · rw [st_ne _ _ _ (by decide)]; exact n7.trans h77
            · rw [st_at, hH]; unfold upd; rw [if_pos rfl]
            · rw [st_ne _ _ _ (by decide), st_ne _ _ _ (by decide), st_ne _ _ _ (by decide), st_ne _ _ _ (by decide)]
              exact hi1 i (by omega)
      refine ⟨pk_in 0 2 (by omega), ?_⟩
      refine pk_lt (5 * n) (aN0 α) (fun c => go (by omega)) (fun c => ?_)
      refine pk_le (5 * n) 0 (fun c2 => ?_) (fun c2 => go (by omega))
      have hz : aN0 α = 0 := by omega
      have hwt : wellT 5 4 (aB0 α) (aN0 α) = true := by rw [hz]; rfl
      have hf : faultT 5 4 (aB0 α) (aN0 α) = -1 := by unfold faultT; rw [if_pos hwt]
      have hH : nH α = 0 := by unfold nH hOk; rw [if_pos hwt, hz]
      rw [← hf]
      refine h ρ hB h7 h77 ⟨by rw [h2, hH]; rfl, fun i hi2 => by omega⟩
  refine key 9 0 _ (by omega) ((BtR.rf τ).obj (Or.inl rfl)) ?_ ?_ ?_ (by omega) (fun i hi => by omega) (fun i hi => by omega)
  · rw [st_at]; rfl
  · rw [st_ne _ _ _ (by decide)]
  · rw [st_at]; rfl
theorem sp_R_noRates {τ : Hp} {P : Hp → Prop} (h : ∀ ρ, Bt [0, 7] τ ρ → (∀ j, j ≠ 7 → ρ 0 j = τ 0 j) → ρ 0 7 = 0 → (∀ k, k < 3 → ρ 7 k = 0) → P ρ) : wp_R_noRates τ P := by
  unfold wp_R_noRates
  intro I hI
  have key : ∀ (m k : Nat) (ρ : Hp), k + m = 3 → Bt [0, 7] τ ρ → (∀ j, j ≠ 7 → ρ 0 j = τ 0 j) → ρ 0 7 = 0 → (∀ i, i < k → ρ 7 i = 0) → I ρ (nI k) := by
    intro m
    induction m with
    | zero =>
      intro k ρ hk hB h0 h7 hi
      have : k = 3 := by omega
      subst this
      apply hI
      exact pk_le 3 3 (fun _ => h ρ hB h0 h7 hi) (fun c => absurd c (by omega))
    | succ m ih =>
      intro k ρ hk hB h0 h7 hi
      apply hI
      refine pk_le 3 k (fun c => absurd c (by omega)) (fun _ => ⟨pk_in k 3 (by omega), fun v3 e3 => ?_⟩)
      rw [e3, show nI k + 1 = nI (k + 1) from nI_1 k]
      refine ih (k + 1) _ (by omega) (hB.st (by decide)) (fun j hj => by rw [st_ne _ _ _ (by decide)]; exact h0 j hj) (by rw [st_ne _ _ _ (by decide)]; exact h7) (fun i hi2 => ?_)
      rw [st_ix (by omega)]
      by_cases e : i = k
      · rw [if_pos e]
      · rw [if_neg e]; exact hi i (by omega)
  refine key 3 0 _ (by omega) ((Bt.rf _ τ).st (by decide)) (fun j hj => ?_) ?_ (fun i hi => by omega)
  · rw [st_at]; unfold upd; rw [if_neg hj]
  · rw [st_at]; rfl
theorem BtR.nr {τ ρ ρ' : Hp} (h : BtR τ ρ) (hB : Bt [0, 7] ρ ρ') (h0 : ∀ j, j ≠ 7 → ρ' 0 j = ρ 0 j) : BtR τ ρ' := ⟨fun o ho => by
  simp at ho
  rw [hB o (by simp; omega), h.1 o (by simp; omega)], fun j h1 h2 => (h0 j h2).trans (h.2 j h1 h2)⟩
def RdR (ρ : Hp) (α : Abs) : Prop := ρ 0 7 = nI (nR α) ∧ ∀ k, k < 3 → ρ 7 k = nI (rT α k)
theorem RdR_bad {ρ : Hp} {α : Abs} (hb : rOk α = false) (h1 : ρ 0 7 = 0) (h2 : ∀ k, k < 3 → ρ 7 k = 0) : RdR ρ α := by
  have hn : nR α = 0 := by unfold nR; rw [hb]; rfl
  refine ⟨by rw [h1, hn]; rfl, fun k hk => ?_⟩
  rw [h2 k hk]; unfold rT; rw [hn]; rfl
theorem sp_R_readsRulings {τ : Hp} {α : Abs} {P : Int32 → Hp → Prop} (hw : WF α) (hr : RRt τ α) (h : ∀ ρ, BtR τ ρ → ρ 0 2 = τ 0 2 → (∀ o, 3 ≤ o → o ≤ 6 → ρ o = τ o) → RdR ρ α → P (faultT 3 3 (aB1 α) (aN1 α)) ρ) : wp_R_readsRulings τ P := by
  have hN := hw.1.2.1
  have eN : aN α 1 = aN1 α := rfl
  have eB : aB α 1 = aB1 α := rfl
  unfold wp_R_readsRulings
  refine sp_R_noRates (fun ρ0 hB0 h00 h07 h7z => ?_)
  have C0 : BtR τ ρ0 := (BtR.rf τ).nr hB0 h00
  have D0 : ∀ o, 3 ≤ o → o ≤ 6 → ρ0 o = τ o := fun o h1 h2 => hB0 o (by simp; omega)
  intro I hI
  have key : ∀ (m n : Nat) (ρ : Hp), n + m = 7 → BtR τ ρ → ρ 0 2 = τ 0 2 → (∀ o, 3 ≤ o → o ≤ 6 → ρ o = τ o) → ρ 0 7 = 0 → 3 * n ≤ aN1 α → (∀ i, i < 3 * n → goes 3 3 (aB1 α) i = true) → (∀ k, k < 3 → ρ 7 k = nI (rtN (aB1 α) k n)) → I ρ (nI n) (nI (3 * n)) := by
    intro m
    induction m with
    | zero => intro n ρ hm _ _ _ _ hle; omega
    | succ m ih =>
      intro n ρ hm hB h2 hD h7 hle hg hi
      have hrr := hB.rt hr
      have e1 : ρ 1 (ix 1) = nI (aN1 α) := hrr.2.1
      -- a fault: all rates are taken back
      have bad : ∀ (ρ2 : Hp) (p : Nat) (v : Int32), BtR τ ρ2 → ρ2 0 2 = τ 0 2 → (∀ o, 3 ≤ o → o ≤ 6 → ρ2 o = τ o) → v = nI p → badP 3 3 (aB1 α) (aN1 α) = p → rOk α = false → wp_R_noRates ρ2 (fun t => P v t) := by
        intro ρ2 p v b1 b2 b3 ev hp hf
        refine sp_R_noRates (fun ρ3 hB3 h03 h73 hz3 => ?_)
        have hfa : faultT 3 3 (aB1 α) (aN1 α) = v := by
          unfold faultT; unfold rOk at hf; rw [hf, if_neg (by simp), hp, ev]
        rw [← hfa]
        exact h ρ3 (b1.nr hB3 h03) ((h03 2 (by decide)).trans b2) (fun o h1 h2 => (hB3 o (by simp; omega)).trans (b3 o h1 h2)) (RdR_bad hf h73 hz3)
      apply hI
      unfold b_R_readsRulings_8_
      rw [e1]
      have go : ¬ aN1 α = 0 → j_R_readsRulings_22 P I ρ (nI n) (nI (3 * n)) := by
        intro hz
        refine pk_ne n 6 (fun c => ?_) (fun c => absurd c (by omega))
        refine sp_R_kb (t := 1) hw hrr (by omega) (by omega) ?_
        unfold j_R_readsRulings_41
        rw [show nI (3 * n) + 1 = nI (3 * n + 1) from nI_1 _]
        refine sp_R_fb (t := 1) hw hrr (by omega) (by omega) ?_
        -- the kind
        have kin : isD (kbI α 1 (3 * n)) 3 ↔ (3 * n < aN1 α ∧ kindN (aB1 α (3 * n)) < 3) := by
          constructor
          · rintro ⟨k, hk, e⟩
            by_cases hc : 3 * n < aN α 1 ∧ kindN (aB α 1 (3 * n)) < 4
            · unfold kbI at e
              rw [if_pos hc] at e
              have := (nI_eq (by omega) (by omega)).mp e
              exact ⟨hc.1, by rw [← eB]; omega⟩
            · rw [kb_m1.mpr hc] at e
              have e5 : ((-1 : Int32)).toInt = -1 := by decide
              rw [e, nI_toInt (by omega)] at e5; omega
          · rintro ⟨h1, h2⟩
            refine ⟨kindN (aB1 α (3 * n)), h2, ?_⟩
            unfold kbI
            rw [eN, eB, if_pos ⟨h1, by omega⟩]
        have bad67 : ∀ s0 : Int32, (isD s0 3 → badP 3 3 (aB1 α) (aN1 α) = 3 * n + 1) → (¬ isD s0 3 → badP 3 3 (aB1 α) (aN1 α) = 3 * n) → rOk α = false → j_R_readsRulings_67 P ρ (nI (3 * n)) s0 := by
          intro s0 f1 f2 hf
          unfold j_R_readsRulings_67
          refine sp_R_noRates (fun ρ3 hB3 h03 h73 hz3 => ?_)
          have fin : ∀ p, badP 3 3 (aB1 α) (aN1 α) = p → P (nI p) ρ3 := by
            intro p hp
            have hfa : faultT 3 3 (aB1 α) (aN1 α) = nI p := by
              unfold faultT; unfold rOk at hf; rw [hf, if_neg (by simp), hp]
            rw [← hfa]
            exact h ρ3 (hB.nr hB3 h03) ((h03 2 (by decide)).trans h2) (fun o h1 h2 => (hB3 o (by simp; omega)).trans (hD o h1 h2)) (RdR_bad hf h73 hz3)
          refine sp_R_in 2 rfl (by decide) (fun q => ?_) (fun q => ?_)
          · refine br_f one0 ?_
            rw [show nI (3 * n) + 1 = nI (3 * n + 1) from nI_1 _]
            exact fin _ (f1 q)
          · exact br_t rfl (fin _ (f2 q))
        -- where it doesn't go on
        have stop : ∀ j, j < 2 → (∀ i, i < 3 * n + j → goes 3 3 (aB1 α) i = true) → 3 * n + j ≤ aN1 α → (3 * n + j < aN1 α → goes 3 3 (aB1 α) (3 * n + j) = false) → badP 3 3 (aB1 α) (aN1 α) = 3 * n + j ∧ rOk α = false := by
          intro j hj ha hle2 hb
          by_cases hlt : 3 * n + j < aN1 α
          · have hbad := badP_at 3 3 (aB1 α) (aN1 α) (3 * n + j) hlt ha (hb hlt)
            refine ⟨hbad, ?_⟩
            unfold rOk wellT; rw [hbad]; simp; omega
          · have hNe : aN1 α = 3 * n + j := by omega
            have hbad : badP 3 3 (aB1 α) (aN1 α) = aN1 α := badP_all _ _ _ _ (by rw [hNe]; exact ha)
            refine ⟨by rw [hbad]; exact hNe, ?_⟩
            unfold rOk wellT; rw [hbad, hNe]; simp; omega
        have gk0 : goes 3 3 (aB1 α) (3 * n) = decide (kindN (aB1 α (3 * n)) < 3) := by
          unfold goes; rw [show 3 * n % 3 = 0 by omega]; simp
        have gk1 : goes 3 3 (aB1 α) (3 * n + 1) = decide (48 ≤ aB1 α (3 * n + 1) ∧ aB1 α (3 * n + 1) ≤ 57) := by
          unfold goes; rw [show (3 * n + 1) % 3 = 1 by omega]; simp
        refine sp_R_in 2 rfl (by decide) (fun q => ?_) (fun q => ?_)
        · obtain ⟨q1, q2⟩ := kin.mp q
          have hg1 : ∀ i, i < 3 * n + 1 → goes 3 3 (aB1 α) i = true := by
            intro i hi2
            by_cases h5 : i < 3 * n
            · exact hg i h5
            · rw [show i = 3 * n by omega, gk0]; simp [q2]
          have ekb : kbI α 1 (3 * n) = nI (kindN (aB1 α (3 * n))) := by
            unfold kbI; rw [eN, eB, if_pos ⟨q1, by omega⟩]
          refine br_f one0 ?_
          refine br_ne (fun c2 => ?_) (fun c2 => ?_)
          · rw [fb_m1, eN, eB, Classical.not_not] at c2
            have efb : fbI α 1 (3 * n + 1) = nI (aB1 α (3 * n + 1) - 48) := by
              unfold fbI; rw [eN, eB, if_pos c2]
            rw [ekb, efb]
            generalize hρ1 : st ρ 7 (ix (nI (kindN (aB1 α (3 * n))))) (nI (aB1 α (3 * n + 1) - 48)) = ρ1
            have B1 : BtR τ ρ1 := by rw [← hρ1]; exact hB.arr (by omega)
            have n0 : ∀ j, ρ1 0 j = ρ 0 j := by intro j; rw [← hρ1, st_ne _ _ _ (by decide)]
            have D1 : ∀ o, 3 ≤ o → o ≤ 6 → ρ1 o = τ o := by
              intro o h1 h2; rw [← hρ1, st_ne _ _ _ (by omega)]; exact hD o h1 h2
            have hi1 : ∀ k, k < 3 → ρ1 7 k = nI (rtN (aB1 α) k (n + 1)) := by
              intro k hk
              rw [← hρ1, st_ix (by omega)]
              unfold rtN
              by_cases e : k = kindN (aB1 α (3 * n))
              · rw [if_pos e, if_pos e.symm]
              · rw [if_neg e, if_neg (fun z => e z.symm)]; exact hi k hk
            have hr1 := B1.rt hr
            have e11 : ρ1 1 (ix 1) = nI (aN1 α) := hr1.2.1
            have hg2 : ∀ i, i < 3 * n + 2 → goes 3 3 (aB1 α) i = true := by
              intro i hi2
              by_cases h5 : i < 3 * n + 1
              · exact hg1 i h5
              · rw [show i = 3 * n + 1 by omega, gk1]; simp [c2.2]
            refine ⟨pk_in _ 3 q2 (by rfl), ?_⟩
            intro v13 ev13 v14 ev14
            have ev13 : v13 = nI (n + 1) := by rw [ev13]; exact nI_1 n
            have ev14 : v14 = nI (3 * n + 2) := by rw [ev14]; exact nI_add _ 2
            subst ev13; subst ev14
            refine ⟨pk_in 1 2 (by omega), ?_⟩
            rw [e11]
            refine pk_ne (3 * n + 2) (aN1 α) (fun c3 => ?_) (fun c3 => ?_)
            · refine sp_R_byteAt (t := 1) hw hr1 (by omega) (by omega) (fun c4 => ?_) (fun c4 => absurd (show 3 * n + 2 < aN1 α by omega) c4)
              refine pk_eq (aB α 1 (3 * n + 2)) 59 (fun c5 => ?_) (fun c5 => ?_) (by rfl) (by rfl) (by have := aB_lt hw c4; omega) (by omega)
              · intro v20 e20
                rw [e20, show nI (3 * n + 2) + 1 = nI (3 * (n + 1)) from nI_1 _]
                refine ih (n + 1) ρ1 (by omega) B1 ((n0 2).trans h2) D1 ((n0 7).trans h7) (by omega) (fun i hi2 => ?_) hi1
                by_cases h5 : i < 3 * n + 2
                · exact hg2 i h5
                · have : i = 3 * n + 2 := by omega
                  subst this
                  unfold goes
                  rw [show (3 * n + 2) % 3 = 3 - 1 by omega, if_pos rfl]
                  simp; exact c5
              · have hgf : goes 3 3 (aB1 α) (3 * n + 2) = false := by
                  unfold goes
                  rw [show (3 * n + 2) % 3 = 3 - 1 by omega, if_pos rfl]
                  simp; exact c5
                have hbad := badP_at 3 3 (aB1 α) (aN1 α) (3 * n + 2) c4 hg2 hgf
                have c4' : 3 * n + 2 < aN1 α := c4
                have hwf : rOk α = false := by unfold rOk wellT; rw [hbad]; simp; omega
                exact bad ρ1 _ _ B1 ((n0 2).trans h2) D1 rfl hbad hwf
            · have hbad : badP 3 3 (aB1 α) (aN1 α) = aN1 α := badP_all _ _ _ _ (by rw [← c3]; exact hg2)
              have hwt : wellT 3 3 (aB1 α) (aN1 α) = true := by unfold wellT; rw [hbad]; simp; omega
              have hf : faultT 3 3 (aB1 α) (aN1 α) = -1 := by unfold faultT; rw [if_pos hwt]
              have hH : nR α = n + 1 := by unfold nR rOk; rw [if_pos hwt]; omega
              rw [← hf]
              refine h _ (B1.obj (Or.inr rfl)) ?_ ?_ ⟨?_, fun k hk => ?_⟩
              · rw [st_at]; unfold upd; rw [if_neg (by decide)]; exact (n0 2).trans h2
              · intro o h1 h2; rw [st_ne _ _ _ (by omega)]; exact D1 o h1 h2
              · rw [st_at, hH]; unfold upd; rw [if_pos rfl]
              · rw [st_ne _ _ _ (by decide)]; unfold rT; rw [hH]; exact hi1 k hk
          · rw [fb_m1, eN, eB] at c2
            obtain ⟨s1, s2⟩ := stop 1 (by omega) hg1 (by omega) (fun hlt => by
              rw [gk1]; simp only [decide_eq_false_iff_not]; exact fun z => c2 ⟨hlt, z⟩)
            exact bad67 _ (fun _ => s1) (fun z => absurd q z) s2
        · obtain ⟨s1, s2⟩ := stop 0 (by omega) (fun i hi2 => hg i (by omega)) (by omega) (fun hlt => by
            rw [Nat.add_zero, gk0]; simp only [decide_eq_false_iff_not]; exact fun z => q (kin.mpr ⟨by omega, z⟩))
          exact br_t rfl (bad67 _ (fun z => absurd z q) (fun _ => s1) s2)
      refine ⟨pk_in 1 2 (by omega), ?_⟩
      refine pk_lt (3 * n) (aN1 α) (fun c => go (by omega)) (fun c => ?_)
      refine pk_le (3 * n) 0 (fun c2 => ?_) (fun c2 => go (by omega))
      have hz : aN1 α = 0 := by omega
      have hwt : wellT 3 3 (aB1 α) (aN1 α) = true := by rw [hz]; rfl
      have hf : faultT 3 3 (aB1 α) (aN1 α) = -1 := by unfold faultT; rw [if_pos hwt]
      have hn0 : n = 0 := by omega
      have hH : nR α = 0 := by unfold nR rOk; rw [if_pos hwt, hz]
      rw [← hf]
      refine h ρ hB h2 hD ⟨by rw [h7, hH]; rfl, fun k hk => ?_⟩
      rw [hi k hk, hn0]; unfold rT; rw [hH]
  refine key 7 0 ρ0 (by omega) C0 (h00 2 (by decide)) D0 h07 (by omega) (fun i hi => by omega) (fun k hk => by rw [h7z k hk]; rfl)
/-- the reference reads both texts -/
def Rd (ρ : Hp) (α : Abs) : Prop := RdH ρ α ∧ RdR ρ α
theorem sp_R_faultOf {τ : Hp} {α : Abs} {t : Nat} {P : Int32 → Hp → Prop} (hw : WF α) (hr : RRt τ α) (ht : t < 2) (h : ∀ ρ, BtR τ ρ → Rd ρ α → P (if t = 0 then faultT 5 4 (aB0 α) (aN0 α) else faultT 3 3 (aB1 α) (aN1 α)) ρ) : wp_R_faultOf τ (nI t) P := by
  unfold wp_R_faultOf
  refine sp_R_readsHouses hw hr (fun ρ hB h7 h77 hd => ?_)
  refine sp_R_readsRulings hw (hB.rt hr) (fun ρ2 hB2 h2 hD hd2 => ?_)
  have hd3 : RdH ρ2 α := by
    unfold RdH at *
    rw [h2, hD 3 (by omega) (by omega), hD 4 (by omega) (by omega), hD 5 (by omega) (by omega), hD 6 (by omega) (by omega)]; exact hd
  have := h ρ2 (hB.tr hB2) ⟨hd3, hd2⟩
  refine pk_ne t 0 (fun c => ?_) (fun c => ?_)
  · rw [if_neg c] at this; exact this
  · rw [if_pos c] at this; exact this
theorem sp_R_reads {τ : Hp} {α : Abs} {P : Hp → Prop} (hw : WF α) (hr : RRt τ α) (h : ∀ ρ, BtR τ ρ → Rd ρ α → P ρ) : wp_R_reads τ P :=
  sp_R_faultOf (t := 0) hw hr (by omega) (fun ρ hB hd => h ρ hB hd)
theorem sp_R_isHouse {τ : Hp} {α : Abs} {a : Int32} {P : Int32 → Hp → Prop} (hw : WF α) (hr : RRt τ α) (h1 : ∀ ρ, BtR τ ρ → Rd ρ α → isD a (nH α) → P 1 ρ) (h0 : ∀ ρ, BtR τ ρ → Rd ρ α → ¬ isD a (nH α) → P 0 ρ) : wp_R_isHouse τ a P := by
  have hH := nH_le hw
  unfold wp_R_isHouse
  refine sp_R_reads hw hr (fun ρ hB hd => ?_)
  have e := hd.1.1
  rw [e]
  by_cases hz : nH α = 0
  · rw [hz]
    have nd : ¬ isD a (nH α) := by rw [hz]; rintro ⟨k, hk, -⟩; omega
    refine ⟨fun c => ⟨z0, h0 ρ hB hd nd⟩, fun c => ⟨fun c2 => ⟨z0, h0 ρ hB hd nd⟩, fun c2 => ?_⟩⟩
    exfalso
    have e5 : (nI 0 - 1).toInt = -1 := by decide
    rw [Int32.lt_iff_toInt_lt] at c c2
    rw [e5] at c2
    have e6 : (0 : Int32).toInt = 0 := by decide
    rw [e6] at c
    omega
  · rw [show nI (nH α) - 1 = nI (nH α - 1) from pk_sub (b := 1) (by omega)]
    refine sp_R_in (nH α - 1) rfl (by omega) (fun q => ⟨z1, h1 ρ hB hd ?_⟩) (fun q => ⟨z0, h0 ρ hB hd ?_⟩)
    · rw [show nH α = nH α - 1 + 1 by omega]; exact q
    · rw [show nH α = nH α - 1 + 1 by omega]; exact q
