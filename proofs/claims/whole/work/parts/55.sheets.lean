/-! sheet, lose, put, get, copy -/
def setS (α : Abs) (s : Nat) (t : Bool) (f l : Nat) (it : Nat → Int32) : Abs := (α.1, α.2.1, α.2.2.1, α.2.2.2.1, α.2.2.2.2.1, (upN (aT α) s t, upN (aF α) s f, upN (aL α) s l, upN (aI α) s it), aQ α)
theorem WF_setS {α : Abs} {s f l : Nat} {t : Bool} {it : Nat → Int32} (hw : WF α) (hf : f < 3) (hl : l ≤ 60) : WF (setS α s t f l it) := by
  refine ⟨hw.1, hw.2.1, hw.2.2.1, hw.2.2.2.1, hw.2.2.2.2.1, fun s' hs' => ?_⟩
  show upN (aF α) s f s' < 3 ∧ upN (aL α) s l s' ≤ 60
  unfold upN
  by_cases e : s' = s
  · rw [if_pos e, if_pos e]; exact ⟨hf, hl⟩
  · rw [if_neg e, if_neg e]; exact hw.2.2.2.2.2 s' hs'
theorem RC_setS {σ ρ : Hp} {α : Abs} {s f l : Nat} {t : Bool} {it : Nat → Int32} (h : RC σ α) (hs : s < 4) (hB : Bt [10 + s, 38 + s] σ ρ) (e1 : ρ (10 + s) 1 = if t then nI f else -1) (e2 : t = true → ρ (10 + s) 2 = nI l) (e3 : ∀ i, i < 60 → ρ (38 + s) i = it i) : RC ρ (setS α s t f l it) := by
  obtain ⟨c1, ⟨d1, d2, d3, d4, d5⟩, c3, c4, c5, c6⟩ := h
  have nin : ∀ o, (o < 10 ∨ (13 < o ∧ o < 38)) → o ∉ [10 + s, 38 + s] := by
    intro o ho; simp; omega
  refine ⟨RCt.bt (α := α) c1 hB (fun o ho => nin o (by omega)), ⟨RCs.bt (α := α) d1 hB (fun o ho => nin o (by omega)), RCr.bt (α := α) d2 hB (fun o ho => nin o (by omega)), RCw.bt (α := α) d3 hB (nin _ (by omega)), RCk.bt (α := α) d4 hB (fun o ho => nin o (by omega)), RCd.bt (α := α) d5 hB (nin _ (by omega))⟩, RCz.bt (α := α) c3 hB (fun o ho => nin o (by omega)), RCe.bt (α := α) c4 hB (fun o ho => nin o (by omega)), fun s' hs' => ?_, ?_⟩
  · show (ρ (10 + s') 1 = if upN (aT α) s t s' then nI (upN (aF α) s f s') else -1) ∧ (upN (aT α) s t s' = true → ρ (10 + s') 2 = nI (upN (aL α) s l s')) ∧ ∀ i, i < 60 → ρ (38 + s') i = upN (aI α) s it s' i
    unfold upN
    by_cases e : s' = s
    · subst e; simp only [if_true]; exact ⟨e1, e2, e3⟩
    · simp only [if_neg e]
      rw [hB (10 + s') (by simp; omega), hB (38 + s') (by simp; omega)]; exact c5 s' hs'
  · rw [hB 0 (nin _ (by omega))]; exact c6
theorem RR_setS {τ ρ : Hp} {α : Abs} {s f l : Nat} {t : Bool} {it : Nat → Int32} (h : RR τ α) (hs : s < 4) (hB : Bt [24, 25, 26, 27, 28] τ ρ) (h4 : ∀ q, q ≠ s → ρ 24 q = τ 24 q ∧ ρ 25 q = τ 25 q ∧ ρ 26 q = τ 26 q) (h5 : ∀ k, k < 60 * s ∨ 60 * s + 60 ≤ k → ρ 27 k = τ 27 k) (e1 : ρ 24 s = if t then 1 else 0) (e2 : t = true → ρ 25 s = nI f ∧ ρ 26 s = nI l) (e3 : ∀ i, i < 60 → ρ 27 (60 * s + i) = it i) : RR ρ (setS α s t f l it) := by
  obtain ⟨r1, r2, r3, r4, r5, r6, r7⟩ := h
  refine ⟨?_, ?_, ?_, ?_, ?_, fun s' hs' => ?_, ?_⟩
  · have : RRt ρ α := by unfold RRt at *; rw [hB 1 (by decide), hB 2 (by decide)]; exact r1
    exact this
  · have : RRw ρ α := by unfold RRw at *; rw [hB 8 (by decide)]; exact r2
    exact this
  · have : RRk ρ α := by unfold RRk at *; rw [hB 0 (by decide), hB 9 (by decide), hB 10 (by decide), hB 11 (by decide)]; exact r3
    exact this
  · have : RRz ρ α := by unfold RRz at *; rw [hB 0 (by decide), hB 12 (by decide), hB 13 (by decide)]; exact r4
    exact this
  · have : RRe ρ α := by unfold RRe at *; rw [hB 0 (by decide), hB 20 (by decide), hB 21 (by decide), hB 22 (by decide)]; exact r5
    exact this
  · show (ρ 24 s' = if upN (aT α) s t s' then 1 else 0) ∧ (upN (aT α) s t s' = true → ρ 25 s' = nI (upN (aF α) s f s') ∧ ρ 26 s' = nI (upN (aL α) s l s')) ∧ ∀ i, i < 60 → ρ 27 (60 * s' + i) = upN (aI α) s it s' i
    unfold upN
    by_cases e : s' = s
    · subst e; simp only [if_true]; exact ⟨e1, e2, e3⟩
    · simp only [if_neg e]
      obtain ⟨g1, g2, g3⟩ := h4 s' e
      rw [g1, g2, g3]
      refine ⟨(r6 s' hs').1, (r6 s' hs').2.1, fun i hi => ?_⟩
      rw [h5 _ (by omega)]; exact (r6 s' hs').2.2 i hi
  · rw [hB 0 (by decide)]; exact r7
theorem found_rel {σ τ : Hp} {α : Abs} (v : Int32) (hw : WF α) (hC : RC σ α) (hR : RR τ α) : wp_P_found σ v (fun r1 σ1 => wp_R_meets τ v (fun r2 τ1 => r1 = r2 ∧ Rel σ1 τ1)) := ⟨rfl, find_R hw hC hR⟩
theorem h_lose : H_lose Rel := by
  intro σ τ x1 hrel
  obtain ⟨α, hw, hC, hR⟩ := hrel
  have keep : Rel σ τ := ⟨α, hw, hC, hR⟩
  refine sp_P_isSheet (fun q => br_nt one0 ?_) (fun q => br_nf rfl (sp_R_isSheet (fun z => absurd z q) (fun _ => br_nf rfl ⟨rfl, keep⟩)))
  obtain ⟨s, hs, rfl⟩ := q
  have f12 := hw.2.2.2.2.2 s hs
  refine ⟨pk_in s 4 hs, fun o e => ?_⟩
  rw [ixn (by omega)] at e
  subst e
  refine ⟨isS_s hs, sp_S_isLost hw hC hs (fun hT => br_f one0 ?_) (fun hT => br_t rfl ?_)⟩
  · unfold wp_P_found wp_R_lose
    refine sp_R_isSheet (fun _ => br_nt one0 ⟨pk_in s 4 hs, ?_⟩) (fun z => absurd ⟨s, hs, rfl⟩ z)
    exact sp_R_there hR hs (fun _ => ⟨rfl, find_R hw hC hR⟩) (fun z => by rw [hT] at z; cases z)
  · rw [ixn (show s < 2 ^ 31 by omega)]
    refine ⟨pk_in s 4 hs, fun o e => ?_⟩
    subst e
    refine ⟨isS_s hs, fun v13 e13 => ⟨pk_in s 4 hs, fun o e => ?_⟩⟩
    subst e
    rw [(hC.2.2.2.2.1 s hs).2.1 hT] at e13
    refine ⟨isS_s hs, isS_s hs, ?_⟩
    unfold wp_R_lose
    refine sp_R_isSheet (fun _ => br_nt one0 ⟨pk_in s 4 hs, ?_⟩) (fun z => absurd ⟨s, hs, rfl⟩ z)
    refine sp_R_there hR hs (fun z => by rw [hT] at z; cases z) (fun _ => ⟨pk_in s 4 hs, pk_in s 4 hs, ?_, setS α s false (aF α s) (aL α s) (aI α s), WF_setS hw f12.1 f12.2, RC_setS hC hs ?_ ?_ (fun z => by cases z) (fun i hi => ?_), RR_setS hR hs ?_ (fun q hq => ⟨?_, ?_, ?_⟩) (fun k hk => ?_) ?_ (fun z => by cases z) (fun i hi => ?_)⟩)
    · rw [e13, st_ne _ _ _ (by decide), ixn (by omega), ((hR.2.2.2.2.2.1 s hs).2.1 hT).2]
    · exact ((Bt.rf _ σ).st (by simp)).st (by simp)
    · rw [st_at]; unfold upd; rw [if_neg (by decide), st_at]; rfl
    · rw [st_ne _ _ _ (by omega), st_ne _ _ _ (by omega)]; exact (hC.2.2.2.2.1 s hs).2.2 i hi
    · exact (Bt.rf _ τ).st (by decide)
    · rw [st_ix (by omega), if_neg hq]
    · rw [st_ne _ _ _ (by decide)]
    · rw [st_ne _ _ _ (by decide)]
    · rw [st_ne _ _ _ (by decide)]
    · rw [st_ix (by omega), if_pos rfl]; rfl
    · rw [st_ne _ _ _ (by decide)]; exact (hR.2.2.2.2.2.1 s hs).2.2 i hi
theorem R_sheet_loop {s : Nat} {τ : Hp} {v : Int32} {P : Int32 → Hp → Prop} (hs : s < 4) {I : Hp → Int32 → Int32 → Int32 → Prop} (hI : ∀ σ x1 x3 x4, b_R_sheet_59_ P I σ x1 x3 x4 → I σ x1 x3 x4) (h : ∀ ρ, Bt [27] τ ρ → (∀ k, k < 60 * s ∨ 60 * s + 60 ≤ k → ρ 27 k = τ 27 k) → (∀ i, i < 60 → ρ 27 (60 * s + i) = 0) → P v ρ) : ∀ (m k : Nat) (ρ : Hp), k + m = 60 → Bt [27] τ ρ → (∀ k, k < 60 * s ∨ 60 * s + 60 ≤ k → ρ 27 k = τ 27 k) → (∀ i, i < k → ρ 27 (60 * s + i) = 0) → I ρ (nI s) v (nI k) := by
  intro m
  induction m with
  | zero =>
    intro k ρ hk hB h5 hi
    have : k = 60 := by omega
    subst this
    apply hI
    exact pk_le 60 60 (fun _ => h ρ hB h5 hi) (fun c => absurd c (by omega))
  | succ m ih =>
    intro k ρ hk hB h5 hi
    apply hI
    unfold b_R_sheet_59_
    rw [show (60 : Int32) = nI 60 from rfl, pk_mul, nI_add]
    refine pk_le 60 k (fun c => absurd c (by omega)) (fun _ => ⟨pk_in (60 * s + k) 240 (by omega), fun v3 e3 => ?_⟩)
    rw [e3, show nI k + 1 = nI (k + 1) from nI_1 _]
    refine ih (k + 1) _ (by omega) (hB.st (by decide)) (fun q hq => ?_) (fun i hi2 => ?_)
    · rw [st_ix (by omega), if_neg (by omega)]; exact h5 q hq
    · rw [st_ix (by omega)]
      by_cases e : i = k
      · rw [if_pos (by omega)]
      · rw [if_neg (by omega)]; exact hi i (by omega)
theorem h_sheet : H_sheet Rel := by
  intro σ τ x1 x2 x3 hrel
  obtain ⟨α, hw, hC, hR⟩ := hrel
  have keep : Rel σ τ := ⟨α, hw, hC, hR⟩
  have bad : ¬ (isD x1 4 ∧ isD x2 3 ∧ x3 ≤ 60) → wp_R_sheet τ x1 x2 x3 (fun r2 τ1 => (-2 : Int32) = r2 ∧ Rel σ τ1) := fun n =>
    sp_R_isSheet (fun q1 => br_f one0 (sp_R_in 2 rfl (by decide) (fun q2 => br_f one0 ⟨fun q3 => absurd ⟨q1, q2, q3⟩ n, fun _ => ⟨rfl, keep⟩⟩) (fun _ => br_t rfl ⟨rfl, keep⟩))) (fun _ => br_t rfl ⟨rfl, keep⟩)
  refine sp_P_isSheet (fun q1 => br_f one0 (sp_P_isForm (fun q2 => br_f one0 ⟨fun q3 => ?_, fun q3 => bad (fun z => q3 z.2.2)⟩) (fun q => br_t rfl (bad (fun z => q z.2.1))))) (fun q => br_t rfl (bad (fun z => q z.1)))
  refine ⟨fun q4 => ?_, fun q4 => ?_⟩
  · obtain ⟨s, hs, rfl⟩ := q1
    obtain ⟨f, hf, rfl⟩ := q2
    obtain ⟨l, hl, rfl⟩ : ∃ l, l ≤ 60 ∧ x3 = nI l := by
      rcases sw_cases x3 60 with c | c
      · exfalso
        rw [Int32.le_iff_toInt_le] at q3 q4
        have e0 : (0 : Int32).toInt = 0 := by decide
        have e60 : (60 : Int32).toInt = 60 := by decide
        omega
      · exact c
    refine ⟨pk_in s 4 hs, fun o e => ?_⟩
    rw [ixn (by omega)] at e
    subst e
    refine ⟨isS_s hs, isS_s hs, sp_JA_fill ?_ (by decide) ?_⟩
    · rcases (show s = 0 ∨ s = 1 ∨ s = 2 ∨ s = 3 by omega) with rfl | rfl | rfl | rfl <;> rfl
    generalize hσ : (fun q => if q = 10 + s + 28 then fun i => if i < 60 then (0 : Int32) else σ (10 + s + 28) i else σ q : Hp) = σ1
    have B1 : Bt [10 + s, 38 + s] σ σ1 := by
      intro q hq
      rw [← hσ]
      simp at hq
      exact if_neg (by omega)
    have f3 : ∀ i, i < 60 → σ1 (38 + s) i = 0 := by
      intro i hi
      rw [← hσ]
      show (if 38 + s = 10 + s + 28 then _ else _ : Nat → Int32) i = 0
      rw [if_pos (by omega)]
      exact if_pos hi
    unfold wp_R_sheet
    refine sp_R_isSheet (fun _ => br_f one0 (sp_R_in 2 rfl (by decide) (fun _ => br_f one0 ⟨fun _ => ⟨fun _ => ⟨pk_in s 4 hs, pk_in s 4 hs, pk_in s 4 hs, ?_⟩, fun z => absurd q4 z⟩, fun z => absurd q3 z⟩) (fun z => absurd ⟨f, hf, rfl⟩ z))) (fun z => absurd ⟨s, hs, rfl⟩ z)
    intro I hI
    refine R_sheet_loop (τ := st (st (st τ 24 (ix (nI s)) 1) 25 (ix (nI s)) (nI f)) 26 (ix (nI s)) (nI l)) hs hI (fun ρ hB h5 h0 => ⟨rfl, setS α s true f l (fun _ => 0), WF_setS hw hf hl, RC_setS hC hs ?_ ?_ (fun _ => ?_) (fun i hi => ?_), RR_setS hR hs ?_ (fun q hq => ⟨?_, ?_, ?_⟩) (fun k hk => ?_) ?_ (fun _ => ⟨?_, ?_⟩) (fun i hi => ?_)⟩) 60 0 _ rfl (Bt.rf _ _) (fun _ _ => rfl) (fun i hi => by omega)
    · exact (B1.st (by simp)).st (by simp)
    · rw [st_at]; unfold upd; rw [if_neg (by decide), st_at]; rfl
    · rw [st_at]; rfl
    · rw [st_ne _ _ _ (by omega), st_ne _ _ _ (by omega)]; exact f3 i hi
    · intro o ho
      simp at ho
      rw [hB o (by simp; omega), st_ne _ _ _ (by omega), st_ne _ _ _ (by omega), st_ne _ _ _ (by omega)]
    · rw [hB 24 (by decide), st_ne _ _ _ (by decide), st_ne _ _ _ (by decide), st_ix (by omega), if_neg hq]
    · rw [hB 25 (by decide), st_ne _ _ _ (by decide), st_ix (by omega), if_neg hq, st_ne _ _ _ (by decide)]
    · rw [hB 26 (by decide), st_ix (by omega), if_neg hq, st_ne _ _ _ (by decide), st_ne _ _ _ (by decide)]
    · rw [h5 k hk, st_ne _ _ _ (by decide), st_ne _ _ _ (by decide), st_ne _ _ _ (by decide)]
    · rw [hB 24 (by decide), st_ne _ _ _ (by decide), st_ne _ _ _ (by decide), st_ix (by omega), if_pos rfl]; rfl
    · rw [hB 25 (by decide), st_ne _ _ _ (by decide), st_ix (by omega), if_pos rfl]
    · rw [hB 26 (by decide), st_ix (by omega), if_pos rfl]
    · exact h0 i hi
  · unfold wp_P_found wp_R_sheet
    refine sp_R_isSheet (fun _ => br_f one0 (sp_R_in 2 rfl (by decide) (fun _ => br_f one0 ⟨fun _ => ⟨fun z => absurd z q4, fun _ => ⟨rfl, find_R hw hC hR⟩⟩, fun z => absurd q3 z⟩) (fun z => absurd q2 z))) (fun z => absurd q1 z)
theorem sp_R_inL {τ : Hp} {a : Int32} {P : Int32 → Hp → Prop} (n : Nat) (hn : n < 2 ^ 30) (h1 : isD a n → P 1 τ) (h0 : ¬ isD a n → P 0 τ) : wp_R_in τ a 0 (nI n - 1) P := by
  by_cases hz : n = 0
  · subst hz
    have nd : ¬ isD a 0 := by rintro ⟨k, hk, -⟩; omega
    refine ⟨fun c => h0 nd, fun c => ⟨fun c2 => h0 nd, fun c2 => ?_⟩⟩
    exfalso
    have e5 : (nI 0 - 1).toInt = -1 := by decide
    rw [Int32.lt_iff_toInt_lt] at c c2
    rw [e5] at c2
    have e6 : (0 : Int32).toInt = 0 := by decide
    rw [e6] at c
    omega
  · rw [show nI n - 1 = nI (n - 1) from pk_sub (b := 1) (by omega)]
    refine sp_R_in (n - 1) rfl (by omega) (fun q => h1 ?_) (fun q => h0 ?_)
    · rw [show n = n - 1 + 1 by omega]; exact q
    · rw [show n - 1 + 1 = n by omega] at q; exact q
/-- what is wrong with item x3 of sheet s, asked for in form x2 -/
theorem sp_P_wrong {σ : Hp} {α : Abs} {s : Nat} {x2 x3 : Int32} {P : Int32 → Hp → Prop} (hw : WF α) (hC : RC σ α) (hs : s < 4) (hN : aT α s = false → P 1 σ) (hF : aT α s = true → nI (aF α s) ≠ x2 → P 3 σ) (hX : aT α s = true → nI (aF α s) = x2 → ¬ isD x3 (aL α s) → P 2 σ) (h0 : aT α s = true → nI (aF α s) = x2 → isD x3 (aL α s) → P 0 σ) : wp_P_wrongWithItem σ (10 + s) x2 x3 P := by
  have f12 := hw.2.2.2.2.2 s hs
  refine ⟨isS_s hs, sp_S_isLost hw hC hs (fun hT => br_f one0 (hN hT)) (fun hT => br_t rfl ?_)⟩
  obtain ⟨e1, e2, e3⟩ := hC.2.2.2.2.1 s hs
  rw [e1, if_pos hT, e2 hT]
  refine ⟨fun q => ?_, fun q => hF hT q⟩
  have hl : aL α s < 2 ^ 31 := by omega
  refine ⟨fun c => hX hT q (fun z => ((isD_iff hl).mp z).1 c), fun c => ⟨fun c2 => h0 hT q ((isD_iff hl).mpr ⟨c, fun z => ?_⟩), fun c2 => hX hT q (fun z => ((isD_iff hl).mp z).2 (nlt_le.mp c2))⟩⟩
  exact absurd c2 (nlt_le.mpr z)
theorem sp_R_lacks {τ : Hp} {α : Abs} {s : Nat} {x2 x3 : Int32} {P : Int32 → Hp → Prop} (hw : WF α) (hR : RR τ α) (hs : s < 4) (hN : aT α s = false → P 1 τ) (hF : aT α s = true → nI (aF α s) ≠ x2 → P 3 τ) (hX : aT α s = true → nI (aF α s) = x2 → ¬ isD x3 (aL α s) → P 2 τ) (h0 : aT α s = true → nI (aF α s) = x2 → isD x3 (aL α s) → P 0 τ) : wp_R_lacks τ (nI s) x2 x3 P := by
  have f12 := hw.2.2.2.2.2 s hs
  refine ⟨pk_in s 4 hs, sp_R_there hR hs (fun hT => hN hT) (fun hT => ⟨pk_in s 4 hs, ?_⟩)⟩
  obtain ⟨e1, e2, e3⟩ := hR.2.2.2.2.2.1 s hs
  rw [ixn (show s < 2 ^ 31 by omega), (e2 hT).1, (e2 hT).2]
  refine ⟨fun q => ⟨pk_in s 4 hs, sp_R_inL (aL α s) (by omega) (fun z => br_f one0 (h0 hT q z)) (fun z => br_t rfl (hX hT q z))⟩, fun q => hF hT q⟩
def kp (f : Nat) (v : Int32) : Int32 := if f = 0 then v.toInt8.toInt32 else if f = 1 then v.toInt16.toInt32 else v
theorem sp_S_store {σ : Hp} {s i f : Nat} {v : Int32} {P : Hp → Prop} (hs : s < 4) (hi : i < 60) (hf : f < 3) (e1 : σ (10 + s) 1 = nI f) (h : P (st σ (38 + s) i (kp f v))) : wp_S_store σ (10 + s) (nI i) v P := by
  refine ⟨isS_s hs, ?_⟩
  rw [e1, ixn (by omega), show 10 + s + 28 = 38 + s by omega]
  unfold kp at h
  refine pk_ne f 0 (fun c => ?_) (fun c => ⟨pk_in i 60 hi, ?_⟩)
  · rw [if_neg c] at h
    refine pk_ne f 1 (fun c2 => ⟨pk_in i 60 hi, ?_⟩) (fun c2 => ⟨pk_in i 60 hi, ?_⟩)
    · rw [if_neg c2] at h; exact h
    · rw [if_pos c2] at h; exact h
  · rw [if_pos c] at h; exact h
theorem sp_R_keep {τ : Hp} {s i f : Nat} {v : Int32} {P : Hp → Prop} (hs : s < 4) (hi : i < 60) (hf : f < 3) (e1 : τ 25 s = nI f) (h : P (st τ 27 (60 * s + i) (kp f v))) : wp_R_keep τ (nI s) (nI i) v P := by
  refine ⟨pk_in s 4 hs, ?_⟩
  rw [ixn (show s < 2 ^ 31 by omega), e1, show (60 : Int32) = nI 60 from rfl, pk_mul, nI_add, ixn (show 60 * s + i < 2 ^ 31 by omega)]
  unfold kp at h
  refine pk_ne f 0 (fun c => ⟨pk_in s 4 hs, ?_⟩) (fun c => ⟨pk_in (60 * s + i) 240 (by omega), ?_⟩)
  · rw [if_neg c] at h
    refine pk_ne f 1 (fun c2 => ⟨pk_in (60 * s + i) 240 (by omega), ?_⟩) (fun c2 => ⟨pk_in (60 * s + i) 240 (by omega), ?_⟩)
    · rw [if_neg c2] at h; exact h
    · rw [if_pos c2] at h; exact h
  · rw [if_pos c] at h; exact h
/-- an item is written: both pictures -/
def putA (α : Abs) (s i : Nat) (v : Int32) : Abs := setS α s (aT α s) (aF α s) (aL α s) (upN (aI α s) i (kp (aF α s) v))
theorem putC {σ : Hp} {α : Abs} {s i : Nat} {v : Int32} (hC : RC σ α) (hs : s < 4) : RC (st σ (38 + s) i (kp (aF α s) v)) (putA α s i v) := by
  obtain ⟨e1, e2, e3⟩ := hC.2.2.2.2.1 s hs
  refine RC_setS hC hs ((Bt.rf _ σ).st (by simp)) ?_ (fun hT => ?_) (fun j hj => ?_)
  · rw [st_ne _ _ _ (by omega)]; exact e1
  · rw [st_ne _ _ _ (by omega)]; exact e2 hT
  · rw [st_at]; unfold upd upN
    by_cases e : j = i
    · rw [if_pos e, if_pos e]
    · rw [if_neg e, if_neg e]; exact e3 j hj
theorem putR {τ : Hp} {α : Abs} {s i : Nat} {v : Int32} (hR : RR τ α) (hs : s < 4) (hi : i < 60) : RR (st τ 27 (60 * s + i) (kp (aF α s) v)) (putA α s i v) := by
  obtain ⟨e1, e2, e3⟩ := hR.2.2.2.2.2.1 s hs
  refine RR_setS hR hs ((Bt.rf _ τ).st (by decide)) (fun q _ => ⟨?_, ?_, ?_⟩) (fun k hk => ?_) ?_ (fun hT => ⟨?_, ?_⟩) (fun j hj => ?_)
  · rw [st_ne _ _ _ (by decide)]
  · rw [st_ne _ _ _ (by decide)]
  · rw [st_ne _ _ _ (by decide)]
  · rw [st_at]; unfold upd; rw [if_neg (by omega)]
  · rw [st_ne _ _ _ (by decide)]; exact e1
  · rw [st_ne _ _ _ (by decide)]; exact (e2 hT).1
  · rw [st_ne _ _ _ (by decide)]; exact (e2 hT).2
  · rw [st_at]; unfold upd upN
    by_cases e : j = i
    · rw [if_pos (by omega), if_pos e]
    · rw [if_neg (by omega), if_neg e]; exact e3 j hj
theorem WF_putA {α : Abs} {s i : Nat} {v : Int32} (hw : WF α) (hs : s < 4) : WF (putA α s i v) := WF_setS hw (hw.2.2.2.2.2 s hs).1 (hw.2.2.2.2.2 s hs).2
theorem h_put : H_put Rel := by
  intro σ τ x1 x2 x3 x4 hrel
  obtain ⟨α, hw, hC, hR⟩ := hrel
  have keep : Rel σ τ := ⟨α, hw, hC, hR⟩
  have bad : ¬ (isD x1 4 ∧ isD x2 3) → wp_R_put τ x1 x2 x3 x4 (fun r2 τ1 => (-2 : Int32) = r2 ∧ Rel σ τ1) := fun n =>
    sp_R_isSheet (fun q1 => br_f one0 (sp_R_in 2 rfl (by decide) (fun q2 => absurd ⟨q1, q2⟩ n) (fun _ => br_nf rfl ⟨rfl, keep⟩))) (fun _ => br_t rfl ⟨rfl, keep⟩)
  refine sp_P_isSheet (fun q1 => br_f one0 (sp_P_isForm (fun q2 => br_nt one0 ?_) (fun q => br_nf rfl (bad (fun z => q z.2))))) (fun q => br_t rfl (bad (fun z => q z.1)))
  obtain ⟨s, hs, rfl⟩ := q1
  have f12 := hw.2.2.2.2.2 s hs
  refine ⟨pk_in s 4 hs, fun o e => ?_⟩
  rw [ixn (by omega)] at e
  subst e
  have rr : ∀ P, wp_R_lacks τ (nI s) x2 x3 (fun r7 t8 => ((r7 ≤ 0 → wp_R_keep t8 (nI s) x3 x4 (fun t11 : Hp => P 1 t11)) ∧ (¬ r7 ≤ 0 → wp_R_meets t8 r7 (fun r12 t13 => P r12 t13)))) → wp_R_put τ (nI s) x2 x3 x4 P := fun P h =>
    sp_R_isSheet (fun _ => br_f one0 (sp_R_in 2 rfl (by decide) (fun _ => br_nt one0 h) (fun z => absurd q2 z))) (fun z => absurd ⟨s, hs, rfl⟩ z)
  refine ⟨isS_s hs, sp_P_wrong hw hC hs (fun hT => br_f (by decide) ?_) (fun hT hF => br_f (by decide) ?_) (fun hT hF hX => br_f (by decide) ?_) (fun hT hF hX => br_t rfl ?_)⟩
  · unfold wp_P_found
    exact rr _ (sp_R_lacks hw hR hs (fun _ => br_f (by decide) ⟨rfl, find_R hw hC hR⟩) (fun z => by rw [hT] at z; cases z) (fun z => by rw [hT] at z; cases z) (fun z => by rw [hT] at z; cases z))
  · unfold wp_P_found
    exact rr _ (sp_R_lacks hw hR hs (fun z => by rw [hT] at z; cases z) (fun _ _ => br_f (by decide) ⟨rfl, find_R hw hC hR⟩) (fun _ z => absurd z hF) (fun _ z => absurd z hF))
  · unfold wp_P_found
    exact rr _ (sp_R_lacks hw hR hs (fun z => by rw [hT] at z; cases z) (fun _ z => absurd hF z) (fun _ _ _ => br_f (by decide) ⟨rfl, find_R hw hC hR⟩) (fun _ _ z => absurd z hX))
  · refine ⟨pk_in s 4 hs, fun o e => ?_⟩
    rw [ixn (show s < 2 ^ 31 by omega)] at e
    subst e
    obtain ⟨i, hi, rfl⟩ := hX
    refine ⟨isS_s hs, sp_S_store hs (by omega) f12.1 (by rw [(hC.2.2.2.2.1 s hs).1, if_pos hT]) ?_⟩
    refine rr _ (sp_R_lacks hw hR hs (fun z => by rw [hT] at z; cases z) (fun _ z => absurd hF z) (fun _ _ z => absurd ⟨i, hi, rfl⟩ z) (fun _ _ _ => br_t (by decide) (sp_R_keep hs (by omega) f12.1 ((hR.2.2.2.2.2.1 s hs).2.1 hT).1 ⟨rfl, putA α s i x4, WF_putA hw hs, putC hC hs, putR hR hs (by omega)⟩)))
theorem h_get : H_get Rel := by
  intro σ τ x1 x2 x3 hrel
  obtain ⟨α, hw, hC, hR⟩ := hrel
  have keep : Rel σ τ := ⟨α, hw, hC, hR⟩
  have bad : ¬ (isD x1 4 ∧ isD x2 3) → wp_R_get τ x1 x2 x3 (fun r2 τ1 => (-2147483648 : Int32) = r2 ∧ Rel σ τ1) := fun n =>
    sp_R_isSheet (fun q1 => br_f one0 (sp_R_in 2 rfl (by decide) (fun q2 => absurd ⟨q1, q2⟩ n) (fun _ => br_nf rfl ⟨rfl, keep⟩))) (fun _ => br_t rfl ⟨rfl, keep⟩)
  refine sp_P_isSheet (fun q1 => br_f one0 (sp_P_isForm (fun q2 => br_nt one0 ?_) (fun q => br_nf rfl (bad (fun z => q z.2))))) (fun q => br_t rfl (bad (fun z => q z.1)))
  obtain ⟨s, hs, rfl⟩ := q1
  have f12 := hw.2.2.2.2.2 s hs
  refine ⟨pk_in s 4 hs, fun o e => ?_⟩
  rw [ixn (by omega)] at e
  subst e
  have rr : ∀ P, wp_R_lacks τ (nI s) x2 x3 (fun r7 t8 => ((r7 ≤ 0 → (vp_in ((60 * nI s) + x3) 240) ∧ P (t8 27 (ix ((60 * nI s) + x3))) t8) ∧ (¬ r7 ≤ 0 → P (-2147483648) (st t8 0 34 r7)))) → wp_R_get τ (nI s) x2 x3 P := fun P h =>
    sp_R_isSheet (fun _ => br_f one0 (sp_R_in 2 rfl (by decide) (fun _ => br_nt one0 h) (fun z => absurd q2 z))) (fun z => absurd ⟨s, hs, rfl⟩ z)
  refine ⟨isS_s hs, sp_P_wrong hw hC hs (fun hT => br_f (by decide) ?_) (fun hT hF => br_f (by decide) ?_) (fun hT hF hX => br_f (by decide) ?_) (fun hT hF hX => br_t rfl ?_)⟩
  · exact rr _ (sp_R_lacks hw hR hs (fun _ => br_f (by decide) ⟨rfl, find_R hw hC hR⟩) (fun z => by rw [hT] at z; cases z) (fun z => by rw [hT] at z; cases z) (fun z => by rw [hT] at z; cases z))
  · exact rr _ (sp_R_lacks hw hR hs (fun z => by rw [hT] at z; cases z) (fun _ _ => br_f (by decide) ⟨rfl, find_R hw hC hR⟩) (fun _ z => absurd z hF) (fun _ z => absurd z hF))
  · exact rr _ (sp_R_lacks hw hR hs (fun z => by rw [hT] at z; cases z) (fun _ z => absurd hF z) (fun _ _ _ => br_f (by decide) ⟨rfl, find_R hw hC hR⟩) (fun _ _ z => absurd z hX))
  · refine ⟨pk_in s 4 hs, fun o e => ?_⟩
    rw [ixn (show s < 2 ^ 31 by omega)] at e
    subst e
    obtain ⟨i, hi, rfl⟩ := hX
    refine ⟨isS_s hs, pk_in i 60 (by omega), rr _ (sp_R_lacks hw hR hs (fun z => by rw [hT] at z; cases z) (fun _ z => absurd hF z) (fun _ _ z => absurd ⟨i, hi, rfl⟩ z) (fun _ _ _ => br_t (by decide) ?_))⟩
    rw [show (60 : Int32) = nI 60 from rfl, pk_mul, nI_add, ixn (show 60 * s + i < 2 ^ 31 by omega), ixn (show i < 2 ^ 31 by omega), show 10 + s + 28 = 38 + s by omega]
    exact ⟨pk_in (60 * s + i) 240 (by omega), by rw [(hC.2.2.2.2.1 s hs).2.2 i (by omega), (hR.2.2.2.2.2.1 s hs).2.2 i (by omega)], keep⟩
