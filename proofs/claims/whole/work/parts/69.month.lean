/-! month -/
def lq (x : Int32) : Nat := x.toBitVec.toNat / 65536
theorem ush_q (x : Int32) : (x.toUInt32 >>> ((16 : Int32).toUInt32 &&& Int32.toUInt32 31)).toInt32 = nI (lq x) := by
  have hx : x = nI x.toBitVec.toNat := by
    apply Int32.toBitVec_inj.1
    show x.toBitVec = BitVec.ofNat 32 x.toBitVec.toNat
    simp
  have h : (nI x.toBitVec.toNat).toUInt32 >>> ((16 : Int32).toUInt32 &&& Int32.toUInt32 31) = (nI x.toBitVec.toNat).toUInt32 >>> ((nI 16).toUInt32 &&& Int32.toUInt32 31) := rfl
  have e := pk_ushrN (n := x.toBitVec.toNat) x.toBitVec.isLt (nI 16) 16 (us_sh 16 (by decide))
  rw [← hx] at e
  exact e
theorem lq_lt (x : Int32) : lq x < 65536 := by
  have := x.toBitVec.isLt
  unfold lq; omega
def ltS (seed : Int32) : Nat → Int32
  | 0 => seed
  | d + 1 => 1103515245 * ltS seed d + 12345
def ltH (seed : Int32) (H d : Nat) : Nat := lq (ltS seed (d + 1)) % H
def lotC (seed : Int32) (H n : Nat) (y d : Nat) : Bool := decide (0 < H ∧ d < n ∧ ltH seed H d = y)
theorem lot_rem {x : Int32} {H : Nat} (h0 : 0 < H) (hH : H ≤ 8) : nI (lq x) - nI (lq x) / nI H * nI H = nI (lq x % H) := pk_rem (by have := lq_lt x; omega) h0 (by omega)
theorem sp_K_closeByLots {σ : Hp} {seed : Int32} {day H : Nat} {P : Hp → Prop} (hd : day < 30) (hH : H ≤ 8) (h : ∀ ρ, Bt [32] σ ρ → (∀ q, q < 8 → ∃ m : Nat, ρ 32 q = nI m ∧ m < 2 ^ 30 ∧ ∀ d, d < 30 → m.testBit d = lotC seed H (day + 1) q d) → P ρ) : wp_K_closeByLots σ seed (nI day) (nI H) P := by
  refine sp_JA_fill rfl (by decide) ?_
  generalize hρ0 : (fun q => if q = 32 then fun i => if i < 8 then (0 : Int32) else σ 32 i else σ q : Hp) = ρ0
  have B0 : Bt [32] σ ρ0 := by
    intro q hq
    rw [← hρ0]
    exact if_neg (fun e => hq (by rw [e]; decide))
  have z0 : ∀ j, j < 8 → ρ0 32 j = 0 := by
    intro j hj
    rw [← hρ0]
    show (if 32 = 32 then _ else _ : Nat → Int32) j = 0
    rw [if_pos rfl]
    exact if_pos hj
  refine pk_lt 0 H (fun h0 => ?_) (fun h0 => h ρ0 B0 (fun q hq => ⟨0, z0 q hq, by decide, fun d _ => ?_⟩))
  · intro I hI
    have key : ∀ (m d : Nat) (ρ : Hp), d + m = day + 1 → Bt [32] σ ρ → (∀ q, q < 8 → ∃ b : Nat, ρ 32 q = nI b ∧ b < 2 ^ d ∧ ∀ i, i < 30 → b.testBit i = lotC seed H d q i) → I ρ (nI day) (nI H) (ltS seed d) (nI d) := by
      intro m
      induction m with
      | zero =>
        intro d ρ hdm hB hi
        have : d = day + 1 := by omega
        subst this
        apply hI
        refine pk_lt day (day + 1) (fun _ => h ρ hB (fun q hq => ?_)) (fun c => absurd c (by omega))
        obtain ⟨b, b1, b2, b3⟩ := hi q hq
        exact ⟨b, b1, Nat.lt_of_lt_of_le b2 (Nat.pow_le_pow_right (by decide) (by omega)), b3⟩
      | succ m ih =>
        intro d ρ hdm hB hi
        apply hI
        refine pk_lt day d (fun c => absurd c (by omega)) (fun _ v2 e2 => ?_)
        have e2 : v2 = ltS seed (d + 1) := e2
        subst e2
        have hm : lq (ltS seed (d + 1)) % H < 8 := by have := Nat.mod_lt (lq (ltS seed (d + 1))) h0; omega
        rw [ush_q, lot_rem h0 hH, ixn (show lq (ltS seed (d + 1)) % H < 2 ^ 31 by omega)]
        refine ⟨nI_ne0 (by omega) (by omega), pk_in _ 8 hm (by rfl), pk_in _ 8 hm (by rfl), fun v6 e6 => ?_⟩
        rw [e6, show nI d + 1 = nI (d + 1) from nI_1 d]
        refine ih (d + 1) _ (by omega) (hB.st (by decide)) (fun q hq => ?_)
        obtain ⟨b, b1, b2, b3⟩ := hi q hq
        have b22 : b < 2 ^ (d + 1) := by rw [Nat.pow_succ]; omega
        rw [st_at]; unfold upd
        by_cases e : q = lq (ltS seed (d + 1)) % H
        · rw [if_pos e, ← e, b1, i_bit d (by omega), i_or]
          refine ⟨_, rfl, Nat.or_lt_two_pow b22 (Nat.pow_lt_pow_right (by decide) (by omega)), fun i hi2 => ?_⟩
          rw [or_two, b3 i hi2]
          unfold lotC
          by_cases ei : d = i
          · subst ei
            rw [decide_eq_true rfl, Bool.or_true]
            exact (decide_eq_true ⟨h0, by omega, e.symm⟩).symm
          · rw [decide_eq_false ei, Bool.or_false]
            congr 1
            apply propext
            constructor
            · rintro ⟨a1, a2, a3⟩; exact ⟨a1, by omega, a3⟩
            · rintro ⟨a1, a2, a3⟩; exact ⟨a1, by omega, a3⟩
        · rw [if_neg e]
          refine ⟨b, b1, b22, fun i hi2 => ?_⟩
          rw [b3 i hi2]
          unfold lotC
          congr 1
          apply propext
          constructor
          · rintro ⟨a1, a2, a3⟩; exact ⟨a1, by omega, a3⟩
          · rintro ⟨a1, a2, a3⟩
            refine ⟨a1, ?_, a3⟩
            by_cases ei : i = d
            · subst ei; exact absurd a3.symm e
            · omega
    refine key (day + 1) 0 ρ0 (by omega) B0 (fun q hq => ⟨0, z0 q hq, by decide, fun i hi => ?_⟩)
    rw [Nat.zero_testBit]
    exact (decide_eq_false (fun z => by have := z.2.1; omega)).symm
  · rw [Nat.zero_testBit]
    exact (decide_eq_false (fun z => by have := z.1; omega)).symm
def lc (α : Abs) (seed : Int32) (day : Nat) : Dc := ctU α (dueA α) T1 (lotC seed (nH α) (day + 1))
theorem WD_lc {α : Abs} (hw : WF α) (seed : Int32) (day : Nat) : WD (lc α seed day) := WD_ctU hw (hM α) (rT α) (aW α) (fun i hi => hM_le hi) (fun k _ => rT_le k) _ _
def moA (α : Abs) (seed : Int32) (day : Nat) (x : Int32) : Int32 := if x = -1 then coinV (balI (lc α seed day) day) (nH α) else balI (lc α seed day) day (tN x)
theorem RC.rez {σ ρ : Hp} {α : Abs} (hC : RC σ α) (hB : Bt [16, 32] σ ρ) (hz : ∀ h, h < 8 → ∃ m : Nat, ρ 32 h = nI m ∧ m < 2 ^ 30 ∧ ∀ d, d < 30 → m.testBit d = cld α h d) : RC ρ α := by
  obtain ⟨c1, ⟨d1, d2, d3, d4, d5⟩, c3, c4, c5, c6⟩ := hC
  refine ⟨c1.bt hB (fun o ho => by simp; omega), ⟨d1.bt hB (by simp; omega), d2.bt hB (by simp), d3.bt hB (by simp), d4.bt hB (by simp; omega), d5.bt hB (by simp)⟩, ⟨?_, ?_, hz⟩, c4.bt hB (by simp; omega), c5.bt hB (by simp; omega), ?_⟩
  · rw [hB 5 (by decide)]; exact c3.1
  · rw [hB 30 (by decide), hB 31 (by decide)]; exact c3.2.1
  · rw [hB 0 (by decide)]; exact c6
theorem sp_P_month23 {σ : Hp} {α : Abs} {seed x : Int32} {day : Nat} {P : Int32 → Hp → Prop} (hw : WF α) (hC : RC σ α) (hd : day < 30) (hx : x = -1 ∨ isD x (nH α)) (h : ∀ ρ, RC ρ α → P (moA α seed day x) ρ) : j_P_month_23 P σ seed (nI day) x := by
  have hH := nH_le hw
  have hZ := hw.2.2.2.1
  have hwd := WD_lc hw seed day
  unfold j_P_month_23
  rw [hC.2.1.1.1]
  refine sp_K_closeByLots hd hH (fun ρ hB hl => ?_)
  have hP : PC ρ (lc α seed day) := by
    obtain ⟨p1, p2, p3, p4⟩ := PC_ctx hC T1
    refine ⟨?_, ?_, ?_, hl⟩
    · rw [hB 4 (by decide), hB 5 (by decide)]; exact p1
    · rw [hB 27 (by decide), hB 28 (by decide), hB 29 (by decide)]; exact p2
    · rw [hB 17 (by decide)]; exact p3
  have back : ∀ (v : Int32) ρ2, Bt [16, 32] σ ρ2 → v = moA α seed day x → j_P_month_71 P ρ2 v := by
    intro v ρ2 hB2 ev
    refine sp_K_closeAsTold (Z := aZ α) (zd := aZd α) (zh := aZh α) hZ.1 ?_ (fun i hi => ?_) (fun ρ3 hB3 hz => ?_)
    · rw [hB2 5 (by decide)]; exact hC.2.2.1.1
    · rw [hB2 30 (by decide), hB2 31 (by decide)]
      exact ⟨⟨(hC.2.2.1.2.1 i hi).1, (hZ.2 i hi).1⟩, ⟨(hC.2.2.1.2.1 i hi).2, (hZ.2 i hi).2⟩⟩
    · rw [ev]
      exact h ρ3 (hC.rez (hB2.tr (hB3.mono (by decide))) hz)
  refine ⟨fun c => ?_, fun c => ?_⟩
  · obtain ⟨k, hk, rfl⟩ := hx.resolve_left c
    refine sp_K_leadingOfAll (γ := lc α seed day) hwd hP (fun _ _ => rfl) (fun l hL => sp_D_balanceOf hwd hP hL hd hk (back _ ρ (hB.mono (by decide)) ?_))
    unfold moA
    rw [if_neg c, tN_nI (by omega)]; rfl
  · refine sp_D_coinDue (γ := lc α seed day) hwd hP (fun _ _ => rfl) hd (fun ρ2 hB2 => back _ ρ2 (hB.mono (by decide) |>.tr (hB2.mono (by decide))) ?_)
    unfold moA
    rw [if_pos c]; rfl
theorem sp_P_month {σ : Hp} {α : Abs} {seed d x : Int32} {P : Int32 → Hp → Prop} (hw : WF α) (hC : RC σ α) (h1 : ∀ day ρ, day < 30 → d = nI day → (x = -1 ∨ isD x (nH α)) → RC ρ α → P (moA α seed day x) ρ) (h0 : ¬ (isD d 30 ∧ (x = -1 ∨ isD x (nH α))) → P (-100002) σ) : wp_P_month σ seed d x P := by
  refine sp_P_isDay (fun q0 => br_f one0 ?_) (fun q => br_t rfl (h0 (fun z => q z.1)))
  obtain ⟨day, hd, rfl⟩ := q0
  refine ⟨fun c => sp_P_month23 hw hC hd (Or.inl c) (fun ρ hC2 => h1 day ρ hd rfl (Or.inl c) hC2), fun c => ?_⟩
  exact sp_P_isHouse hw hC.2.1.1 (fun q1 => br_nt one0 (sp_P_month23 hw hC hd (Or.inr q1) (fun ρ hC2 => h1 day ρ hd rfl (Or.inr q1) hC2))) (fun q => br_nf rfl (h0 (fun z => z.2.elim c q)))
theorem RR.fr14 {τ ρ : Hp} {α : Abs} (h : RR τ α) (hB : Bt [14, 15, 16, 17] τ ρ) : RR ρ α := by
  refine h.ps ⟨⟨hB 1 (by decide), hB 2 (by decide), hB 8 (by decide), hB 9 (by decide), hB 10 (by decide), hB 11 (by decide), hB 12 (by decide), hB 13 (by decide)⟩, ⟨hB 20 (by decide), hB 21 (by decide), hB 22 (by decide), hB 24 (by decide), hB 25 (by decide), hB 26 (by decide), hB 27 (by decide)⟩, ⟨?_, ?_, ?_, ?_⟩⟩
  all_goals rw [hB 0 (by decide)]
theorem Rd.fr14 {τ ρ : Hp} {α : Abs} (h : Rd τ α) (hB : Bt [14, 15, 16, 17] τ ρ) : Rd ρ α := by
  unfold Rd RdH RdR at *
  rw [hB 0 (by decide), hB 3 (by decide), hB 4 (by decide), hB 5 (by decide), hB 6 (by decide), hB 7 (by decide)]; exact h
theorem sp_R_monthOf {τ : Hp} {α : Abs} {seed x : Int32} {day : Nat} {P : Int32 → Hp → Prop} (hw : WF α) (hR : RR τ α) (hd : day < 30) (hx : x = -1 ∨ isD x (nH α)) (h : ∀ ρ, RR ρ α → Rd ρ α → P (moA α seed day x) ρ) : wp_R_monthOf τ seed (nI day) x P := by
  have hH := nH_le hw
  have hwd := WD_lc hw seed day
  refine sp_R_asTold hw hR (fun τ0 hT0 e17 => ?_)
  have e02 : ∀ ρ, Bt [14] τ0 ρ → ρ 0 2 = nI (nH α) := fun ρ hB => by rw [hB 0 (by decide)]; exact hT0.2.1.1.1
  have hSR := StR_of hw hT0.1 hT0.2.1
  -- lays and what is asked
  have fin : ∀ ρ, Bt [14] τ0 ρ → (∀ y d, y < 8 → d < 30 → ρ 14 (30 * y + d) = if lotC seed (nH α) (day + 1) y d = true then 1 else 0) → j_R_monthOf_88 P ρ (nI day) x := by
    intro ρ hB hc
    have hS2 := hSR.bt hB (by rw [hB 0 (by decide)]) (by simp; omega)
    have hk : RRk ρ α := by
      unfold RRk
      rw [hB 0 (by decide), hB 9 (by decide), hB 10 (by decide), hB 11 (by decide)]
      exact hT0.1.2.2.1
    refine sp_R_laysU (dr := 0) (mu := hM α) (rt := rT α) (w := aW α) (T := T1) (C := lotC seed (nH α) (day + 1)) hw (fun i hi => hM_le hi) (fun k _ => rT_le k) hS2 hk ⟨?_, by decide, fun k _ => by simp⟩ hc (fun ρ2 hB2 hP2 => ?_)
    · rw [hB 0 (by decide)]; exact e17
    have hB3 : Bt [14, 15, 16, 17] τ0 ρ2 := (hB.mono (by decide)).tr (hB2.mono (by decide))
    refine ⟨fun c => ?_, fun c => ?_⟩
    · obtain ⟨k, hk, rfl⟩ := hx.resolve_left c
      refine sp_R_balanceNow (γ := lc α seed day) hwd hP2 hd hk ?_
      have h := h ρ2 (hT0.1.fr14 hB3) (hT0.2.1.fr14 hB3)
      unfold moA at h
      rw [if_neg c, tN_nI (by omega)] at h; exact h
    · refine sp_R_coinNow (γ := lc α seed day) hwd hP2 hd (fun ρ3 hB4 => ?_)
      have hB5 : Bt [14, 15, 16, 17] τ0 ρ3 := hB3.tr (hB4.mono (by decide))
      have h := h ρ3 (hT0.1.fr14 hB5) (hT0.2.1.fr14 hB5)
      unfold moA at h
      rw [if_pos c] at h; exact h
  have two : ∀ ρ, Bt [14] τ0 ρ → (∀ i, i < 240 → ρ 14 i = 0) → j_R_monthOf_35 P ρ (nI day) x seed 0 := by
    intro ρ0 hB0 hz I hI
    have key : ∀ (m d : Nat) (ρ : Hp), d + m = day + 1 → Bt [14] τ0 ρ → (∀ y i, y < 8 → i < 30 → ρ 14 (30 * y + i) = if lotC seed (nH α) d y i = true then 1 else 0) → I ρ (nI day) x (ltS seed d) (nI d) := by
      intro m
      induction m with
      | zero =>
        intro d ρ hdm hB hi
        have : d = day + 1 := by omega
        subst this
        apply hI
        exact pk_lt day (day + 1) (fun _ => fin ρ hB hi) (fun c => absurd c (by omega))
      | succ m ih =>
        intro d ρ hdm hB hi
        apply hI
        unfold b_R_monthOf_35_
        rw [e02 ρ hB]
        refine pk_lt day d (fun c => absurd c (by omega)) (fun _ => pk_le (nH α) 0 (fun h0 => fin ρ hB (fun y i hy hi2 => ?_)) (fun h0 v10 e10 => ?_))
        · rw [hi y i hy hi2]
          have e : ∀ n, lotC seed (nH α) n y i = false := fun n => decide_eq_false (fun z => by have := z.1; omega)
          rw [e, e]
        · have e10 : v10 = ltS seed (d + 1) := e10
          subst e10
          have hm : lq (ltS seed (d + 1)) % nH α < 8 := by have := Nat.mod_lt (lq (ltS seed (d + 1))) h0; omega
          rw [ush_q, lot_rem h0 hH, e30_nI, ixn (show 30 * (lq (ltS seed (d + 1)) % nH α) + d < 2 ^ 31 by omega)]
          refine ⟨nI_ne0 (by omega) (by omega), pk_in (30 * (lq (ltS seed (d + 1)) % nH α) + d) 240 (by omega), fun v13 e13 => ?_⟩
          rw [e13, show nI d + 1 = nI (d + 1) from nI_1 d]
          refine ih (d + 1) _ (by omega) (hB.st (by decide)) (fun y i hy hi2 => ?_)
          rw [st_at]; unfold upd
          by_cases e : 30 * y + i = 30 * (lq (ltS seed (d + 1)) % nH α) + d
          · rw [if_pos e]
            obtain ⟨e1, e2⟩ := (idx30 hi2 (show d < 30 by omega)).mp e
            rw [if_pos]
            exact decide_eq_true ⟨h0, by omega, by rw [e2]; exact e1.symm⟩
          · rw [if_neg e, hi y i hy hi2]
            have : lotC seed (nH α) d y i = lotC seed (nH α) (d + 1) y i := by
              unfold lotC
              congr 1
              apply propext
              constructor
              · rintro ⟨a1, a2, a3⟩; exact ⟨a1, by omega, a3⟩
              · rintro ⟨a1, a2, a3⟩
                refine ⟨a1, ?_, a3⟩
                by_cases ei : i = d
                · subst ei
                  exfalso
                  apply e
                  have a3 : lq (ltS seed (i + 1)) % nH α = y := a3
                  rw [a3]
                · omega
            rw [this]
    refine key (day + 1) 0 ρ0 (by omega) hB0 (fun y i hy hi => ?_)
    rw [hz _ (by omega), if_neg]
    have : lotC seed (nH α) 0 y i = false := decide_eq_false (fun z => by have := z.2.1; omega)
    rw [this]; simp
  intro I hI
  have key : ∀ (m k : Nat) (ρ : Hp), k + m = 240 → Bt [14] τ0 ρ → (∀ i, i < k → ρ 14 i = 0) → I ρ seed (nI day) x (nI k) := by
    intro m
    induction m with
    | zero =>
      intro k ρ hk hB hz
      have : k = 240 := by omega
      subst this
      apply hI
      exact pk_le 240 240 (fun _ => two ρ hB hz) (fun c => absurd c (by omega))
    | succ m ih =>
      intro k ρ hk hB hz
      apply hI
      refine pk_le 240 k (fun c => absurd c (by omega)) (fun _ => ⟨pk_in k 240 (by omega), fun v8 e8 => ?_⟩)
      rw [e8, show nI k + 1 = nI (k + 1) from nI_1 k]
      refine ih (k + 1) _ (by omega) (hB.st (by decide)) (fun i hi => ?_)
      rw [st_ix (by omega)]
      by_cases e : i = k
      · rw [if_pos e]
      · rw [if_neg e]; exact hz i (by omega)
  exact key 240 0 τ0 rfl (Bt.rf _ _) (fun i hi => by omega)
theorem h_month : H_month Rel := by
  intro σ τ x1 x2 x3 hrel
  obtain ⟨α, hw, hC, hR⟩ := hrel
  refine sp_P_month hw hC (fun day ρ hd e q hC2 => ?_) (fun n => ?_)
  · refine sp_R_isDay (fun _ => br_f one0 ⟨fun c => ?_, fun c => ?_⟩) (fun z => absurd ⟨day, hd, e⟩ z)
    · rw [e]; exact sp_R_monthOf hw hR hd q (fun ρ2 hR2 _ => ⟨rfl, α, hw, hC2, hR2⟩)
    · refine sp_R_isHouse hw hR.1 (fun ρ2 hB hdd _ => br_f one0 ?_) (fun _ _ _ z => absurd (q.resolve_left c) z)
      rw [e]; exact sp_R_monthOf hw (hR.ps hB.ps) hd q (fun ρ3 hR3 _ => ⟨rfl, α, hw, hC2, hR3⟩)
  · refine sp_R_isDay (fun q1 => br_f one0 ⟨fun c => absurd ⟨q1, Or.inl c⟩ n, fun c => ?_⟩) (fun _ => br_t rfl ⟨rfl, α, hw, hC, hR⟩)
    exact sp_R_isHouse hw hR.1 (fun ρ2 hB hdd q => absurd ⟨q1, Or.inr q⟩ n) (fun ρ2 hB _ _ => br_t rfl ⟨rfl, α, hw, hC, hR.ps hB.ps⟩)
