/-! what both reckon with is the same; through, owes, balance -/
theorem Bt.tr {cs : List Nat} {a b c : Hp} (h : Bt cs a b) (g : Bt cs b c) : Bt cs a c := fun o ho => (g o ho).trans (h o ho)
theorem Bt.mono {cs cs' : List Nat} {a b : Hp} (h : Bt cs a b) (hs : ∀ o, o ∈ cs → o ∈ cs') : Bt cs' a b := fun o ho => h o (fun z => ho (hs o z))
abbrev scC : List Nat := [3, 7, 8, 9, 16, 18, 19, 20, 36, 37]
abbrev scR : List Nat := [15, 16, 17, 18, 19, 23, 28]
theorem RC.fr {σ ρ : Hp} {α : Abs} (h : RC σ α) (hB : Bt scC σ ρ) : RC ρ α := by
  refine h.ps ⟨⟨by rw [hB 0 (by decide)], hB 1 (by decide), hB 2 (by decide), hB 4 (by decide), hB 5 (by decide), hB 6 (by decide)⟩, fun o h1 h2 => hB o ?_, hB 17 (by decide), fun o h1 h2 => hB o ?_, fun o h1 h2 => hB o ?_⟩
  all_goals simp; omega
theorem RR.fr {τ ρ : Hp} {α : Abs} (h : RR τ α) (hB : Bt scR τ ρ) : RR ρ α := by
  refine h.ps ⟨⟨hB 1 (by decide), hB 2 (by decide), hB 8 (by decide), hB 9 (by decide), hB 10 (by decide), hB 11 (by decide), hB 12 (by decide), hB 13 (by decide)⟩, ⟨hB 20 (by decide), hB 21 (by decide), hB 22 (by decide), hB 24 (by decide), hB 25 (by decide), hB 26 (by decide), hB 27 (by decide)⟩, ⟨?_, ?_, ?_, ?_⟩⟩
  all_goals rw [hB 0 (by decide)]
theorem Rd.fr {τ ρ : Hp} {α : Abs} (h : Rd τ α) (hB : Bt scR τ ρ) : Rd ρ α := by
  unfold Rd RdH RdR at *
  rw [hB 0 (by decide), hB 3 (by decide), hB 4 (by decide), hB 5 (by decide), hB 6 (by decide), hB 7 (by decide)]; exact h
/-- what both reckon with; T: the suits that stand -/
def ctx (α : Abs) (T : Nat → Bool) : Dc := ((nH α, aS α), dueA α, T, cld α, (aD α, aY α, aX α))
def ctA (α : Abs) : Dc := ctx α (fun _ => true)
theorem hM_le {α : Abs} {i : Nat} (hi : i < nH α) : hM α i ≤ 9 := by
  obtain ⟨b1, b2, b3, b4, b5⟩ := hs_byte (hOk_of hi) hi
  unfold hM; omega
theorem rtN_le {b : Nat → Nat} {n : Nat} (k : Nat) (h : ∀ i, i < n → b (3 * i + 1) ≤ 57) : rtN b k n ≤ 9 := by
  induction n with
  | zero => exact Nat.zero_le _
  | succ n ih =>
    unfold rtN
    have := h n (by omega)
    split
    · omega
    · exact ih (fun i hi => h i (by omega))
theorem rT_le {α : Abs} (k : Nat) : rT α k ≤ 9 := by
  unfold rT
  by_cases hn : nR α = 0
  · rw [hn]; exact Nat.zero_le _
  · exact rtN_le k (fun i hi => (rs_byte (rOk_of hi) hi).2.2.2)
theorem thrN_le (w : Nat → Nat) (kd mu x y : Nat) : thrN w kd mu x y ≤ mu := by
  unfold thrN
  simp only []
  split
  · omega
  · split
    · omega
    · split
      · split <;> omega
      · omega
theorem dueN_le {H : Nat} {kd mu en rt w : Nat → Nat} (hm : ∀ i, i < H → mu i ≤ 9) (hr : ∀ k, k < 3 → rt k ≤ 9) (x y : Nat) : dueN H kd mu en rt w x y ≤ 81 := by
  unfold dueN
  split
  · rename_i h
    have h1 := thrN_le w (kd x) (mu x) x y
    have h2 := hm x h.1
    have h3 := hr (kd x) h.2.2.1
    show _ ≤ 9 * 9
    exact Nat.mul_le_mul (by omega) h3
  · omega
theorem dueN_0 {H : Nat} {kd mu en rt w : Nat → Nat} {x y : Nat} (h : ¬ (x < H ∧ y < H)) : dueN H kd mu en rt w x y = 0 := by
  unfold dueN; rw [if_neg (fun z => h ⟨z.1, z.2.1⟩)]
/-- with another street -/
def ctU (α : Abs) (U : Nat → Nat → Nat) (T : Nat → Bool) (C : Nat → Nat → Bool) : Dc := ((nH α, aS α), U, T, C, (aD α, aY α, aX α))
theorem WD_ctU {α : Abs} (hw : WF α) (mu rt w : Nat → Nat) (hm : ∀ i, i < nH α → mu i ≤ 9) (hr : ∀ k, k < 3 → rt k ≤ 9) (T : Nat → Bool) (C : Nat → Nat → Bool) : WD (ctU α (dueN (nH α) (hK α) mu (hJ α) rt w) T C) := ⟨⟨nH_le hw, hw.2.2.1.1⟩, hw.2.2.1.2, fun y x => dueN_le hm hr y x, fun y x h => dueN_0 h⟩
theorem WD_ctx {α : Abs} (hw : WF α) (T : Nat → Bool) : WD (ctx α T) := WD_ctU hw (hM α) (rT α) (aW α) (fun i hi => hM_le hi) (fun k _ => rT_le k) T (cld α)
theorem PC_ctx {σ : Hp} {α : Abs} (hC : RC σ α) (T : Nat → Bool) : PC σ (ctx α T) := ⟨⟨hC.2.1.1.1, hC.2.1.2.2.2.1.1⟩, hC.2.1.2.2.2.1.2, hC.2.1.2.2.2.2, hC.2.2.1.2.2⟩
/-- the reference has read, and taken the days shut as told -/
def Told (τ : Hp) (α : Abs) : Prop := RR τ α ∧ Rd τ α ∧ ∀ y d, y < 8 → d < 30 → τ 14 (30 * y + d) = if cld α y d = true then 1 else 0
theorem Told.fr {τ ρ : Hp} {α : Abs} (h : Told τ α) (hB : Bt scR τ ρ) : Told ρ α := ⟨h.1.fr hB, h.2.1.fr hB, fun y d hy hd => by rw [hB 14 (by decide)]; exact h.2.2 y d hy hd⟩
theorem StR_of {τ : Hp} {α : Abs} (hw : WF α) (hR : RR τ α) (hd : Rd τ α) : StR τ (nH α) (hK α) (hM α) (hJ α) (rT α) (aW α) := by
  refine ⟨⟨nH_le hw, hd.1.1⟩, fun i hi => ?_, hd.2.2, fun i hi => ⟨hR.2.1 i hi, hw.2.1 i hi⟩⟩
  obtain ⟨h1, h2, h3, h4⟩ := hd.1.2 i hi
  obtain ⟨b1, b2, b3, b4, b5⟩ := hs_byte (hOk_of hi) hi
  exact ⟨⟨h1, b2⟩, ⟨h2, by unfold hM; omega⟩, ⟨h3, b4⟩⟩
theorem idx30 {y d y' d' : Nat} (hd : d < 30) (hd' : d' < 30) : 30 * y + d = 30 * y' + d' ↔ y = y' ∧ d = d' := by omega
theorem sp_R_asTold {τ : Hp} {α : Abs} {P : Hp → Prop} (hw : WF α) (hR : RR τ α) (h : ∀ ρ, Told ρ α → ρ 0 17 = 0 → P ρ) : wp_R_asTold τ P := by
  unfold wp_R_asTold
  refine sp_R_reads hw hR.1 (fun ρ0 hB0 hd0 => ?_)
  have hR0 : RR ρ0 α := hR.ps hB0.ps
  generalize hρ1 : st ρ0 0 17 0 = ρ1
  have e17 : ρ1 0 17 = 0 := by rw [← hρ1, st_at]; rfl
  have e0 : ∀ j, j ≠ 17 → ρ1 0 j = ρ0 0 j := fun j hj => by rw [← hρ1, st_at]; unfold upd; rw [if_neg hj]
  have hB1 : Bt [0] ρ0 ρ1 := by rw [← hρ1]; exact (Bt.rf _ _).st (by decide)
  have hZ := hw.2.2.2.1
  have ez := hR.2.2.2.1
  -- at the end
  have fin : ∀ ρ, Bt [14] ρ1 ρ → (∀ y d, y < 8 → d < 30 → ρ 14 (30 * y + d) = if cldN (aZd α) (aZh α) (aZ α) y d = true then 1 else 0) → P ρ := by
    intro ρ hB hc
    refine h ρ ⟨hR0.ps ⟨⟨?_, ?_, ?_, ?_, ?_, ?_, ?_, ?_⟩, ⟨?_, ?_, ?_, ?_, ?_, ?_, ?_⟩, ⟨?_, ?_, ?_, ?_⟩⟩, ?_, hc⟩ (by rw [hB 0 (by decide)]; exact e17)
    all_goals first
      | exact (hB _ (by decide)).trans (hB1 _ (by decide))
      | exact (congrFun (hB 0 (by decide)) _).trans (e0 _ (by decide))
      | skip
    unfold Rd RdH RdR at *
    rw [hB 0 (by decide), hB 3 (by decide), hB 4 (by decide), hB 5 (by decide), hB 6 (by decide), hB 7 (by decide), e0 2 (by decide), e0 7 (by decide), hB1 3 (by decide), hB1 4 (by decide), hB1 5 (by decide), hB1 6 (by decide), hB1 7 (by decide)]
    exact hd0
  have sh : ∀ ρ, Bt [14] ρ1 ρ → ρ 0 14 = nI (aZ α) ∧ ∀ i, i < aZ α → ρ 12 i = nI (aZd α i) ∧ ρ 13 i = nI (aZh α i) := by
    intro ρ hB
    have := hR0.2.2.2.1
    unfold RRz at this
    rw [hB 0 (by decide), e0 14 (by decide), hB 12 (by decide), hB 13 (by decide), hB1 12 (by decide), hB1 13 (by decide)]
    exact this
  have two : ∀ ρ, Bt [14] ρ1 ρ → (∀ i, i < 240 → ρ 14 i = 0) → j_R_asTold_33 P ρ 0 := by
    intro ρ0' hB0' hz0 I hI
    have key : ∀ (m k : Nat) (ρ : Hp), k + m = aZ α → Bt [14] ρ1 ρ → (∀ y d, y < 8 → d < 30 → ρ 14 (30 * y + d) = if cldN (aZd α) (aZh α) k y d = true then 1 else 0) → I ρ (nI k) := by
      intro m
      induction m with
      | zero =>
        intro k ρ hk hB hc
        have : k = aZ α := by omega
        subst this
        apply hI
        unfold b_R_asTold_33_
        rw [(sh ρ hB).1]
        exact pk_le (aZ α) (aZ α) (fun _ => fin ρ hB hc) (fun c => absurd c (by omega))
      | succ m ih =>
        intro k ρ hk hB hc
        obtain ⟨g1, g2⟩ := (sh ρ hB).2 k (by omega)
        obtain ⟨z1, z2⟩ := hZ.2 k (by omega)
        have hZ8 := hZ.1
        apply hI
        unfold b_R_asTold_33_
        rw [(sh ρ hB).1, ixn (show k < 2 ^ 31 by omega), g1, g2, show (30 : Int32) = nI 30 from rfl, pk_mul, nI_add]
        refine pk_le (aZ α) k (fun c => absurd c (by omega)) (fun _ => ⟨pk_in k 8 (by omega), pk_in k 8 (by omega), pk_in (30 * aZh α k + aZd α k) 240 (by omega), fun v5 e5 => ?_⟩)
        rw [e5, show nI k + 1 = nI (k + 1) from nI_1 k]
        refine ih (k + 1) _ (by omega) (hB.st (by decide)) (fun y d hy hd => ?_)
        rw [st_ix (by omega), cldN_succ]
        by_cases e : 30 * y + d = 30 * aZh α k + aZd α k
        · rw [if_pos e]
          rw [idx30 hd z1] at e
          simp [e.1, e.2]
        · rw [if_neg e, hc y d hy hd]
          rw [idx30 hd z1] at e
          have : (aZh α k == y && aZd α k == d) = false := by
            cases hq : (aZh α k == y && aZd α k == d) with
            | false => rfl
            | true =>
              simp at hq
              exact absurd ⟨hq.1.symm, hq.2.symm⟩ e
          rw [this, Bool.or_false]
    refine key (aZ α) 0 ρ0' (by omega) hB0' (fun y d hy hd => ?_)
    rw [hz0 _ (by omega)]; rfl
  intro I hI
  have key : ∀ (m k : Nat) (ρ : Hp), k + m = 240 → Bt [14] ρ1 ρ → (∀ i, i < k → ρ 14 i = 0) → I ρ (nI k) := by
    intro m
    induction m with
    | zero =>
      intro k ρ hk hB hz
      have : k = 240 := by omega
      subst this
      apply hI
      exact pk_le 240 240 (fun _ => two ρ hB hz) (fun c => absurd c (by omega))
    | succ m ih =>
      intro k ρ hk hB hz
      apply hI
      refine pk_le 240 k (fun c => absurd c (by omega)) (fun _ => ⟨pk_in k 240 (by omega), fun v8 e8 => ?_⟩)
      rw [e8, show nI k + 1 = nI (k + 1) from nI_1 k]
      refine ih (k + 1) _ (by omega) (hB.st (by decide)) (fun i hi => ?_)
      rw [st_ix (by omega)]
      by_cases e : i = k
      · rw [if_pos e]
      · rw [if_neg e]; exact hz i (by omega)
  exact key 240 0 ρ1 rfl (Bt.rf _ _) (fun i hi => by omega)
theorem sp_R_laysC {τ : Hp} {α : Abs} {dr : Nat} {T : Nat → Bool} {P : Hp → Prop} (hw : WF α) (hT : Told τ α) (hdr : τ 0 17 = nI dr ∧ dr < 2 ^ 31 ∧ ∀ k, k < aS α → dr.testBit k = !T k) (h : ∀ ρ, Bt [15, 16] τ ρ → PR ρ (ctx α T) → P ρ) : wp_R_lays τ P :=
  sp_R_lays (γ := ctx α T) (WD_ctx hw T) (StR_of hw hT.1 hT.2.1) (fun _ _ _ _ _ => rfl) hT.1.2.2.1 hdr hT.2.2 h
theorem sp_R_laysTold {τ : Hp} {α : Abs} {P : Hp → Prop} (hw : WF α) (hR : RR τ α) (h : ∀ ρ, Told ρ α → PR ρ (ctA α) → P ρ) : wp_R_laysTold τ P :=
  sp_R_asTold hw hR (fun ρ hT e17 => sp_R_laysC (dr := 0) (T := fun _ => true) hw hT ⟨e17, by decide, fun k _ => by simp⟩ (fun ρ2 hB hP => h ρ2 (hT.fr (hB.mono (by decide))) hP))
theorem PR.bt {τ ρ : Hp} {γ : Dc} {cs : List Nat} (h : PR τ γ) (hB : Bt cs τ ρ) (hc : ∀ o, o = 0 ∨ (14 ≤ o ∧ o ≤ 16) → o ∉ cs) : PR ρ γ := by
  unfold PR at *; rw [hB 0 (hc 0 (by omega)), hB 14 (hc 14 (by omega)), hB 15 (hc 15 (by omega)), hB 16 (hc 16 (by omega))]; exact h
theorem PC.bt {σ ρ : Hp} {γ : Dc} {cs : List Nat} (h : PC σ γ) (hB : Bt cs σ ρ) (hc : ∀ o, o = 4 ∨ o = 5 ∨ o = 17 ∨ (27 ≤ o ∧ o ≤ 32) → o ∉ cs) : PC ρ γ := by
  unfold PC at *; rw [hB 4 (hc 4 (by omega)), hB 5 (hc 5 (by omega)), hB 17 (hc 17 (by omega)), hB 27 (hc 27 (by omega)), hB 28 (hc 28 (by omega)), hB 29 (hc 29 (by omega)), hB 32 (hc 32 (by omega))]; exact h
-- through
def ok2 (α : Abs) (a b : Int32) : Prop := isD a (nH α) ∧ isD b (nH α) ∧ a ≠ b
theorem sp_P_areTwo {σ : Hp} {α : Abs} {a b : Int32} {P : Int32 → Hp → Prop} (hw : WF α) (hC : RC σ α) (h1 : ok2 α a b → P 1 σ) (h0 : ¬ ok2 α a b → P 0 σ) : wp_P_areTwoHouses σ a b P :=
  sp_P_isHouse hw hC.2.1.1 (fun q1 => br_f one0 (sp_P_isHouse hw hC.2.1.1 (fun q2 => br_f one0 ⟨fun e => h0 (fun z => z.2.2 e), fun e => h1 ⟨q1, q2, e⟩⟩) (fun q => br_t rfl (h0 (fun z => q z.2.1))))) (fun q => br_t rfl (h0 (fun z => q z.1)))
theorem ok2_nat {α : Abs} {a b : Int32} (h : ok2 α a b) : ∃ x y, x < nH α ∧ y < nH α ∧ x ≠ y ∧ a = nI x ∧ b = nI y := by
  obtain ⟨⟨x, hx, rfl⟩, ⟨y, hy, rfl⟩, h3⟩ := h
  exact ⟨x, y, hx, hy, fun e => h3 (by rw [e]), rfl, rfl⟩
/-- what two houses' methods answer: their value, where they are two; else the refusal -/
noncomputable def v2 (α : Abs) (a b : Int32) (f : Nat → Nat → Nat) : Int32 := @ite _ (ok2 α a b) (Classical.propDecidable _) (nI (f (tN a) (tN b))) (-2)
theorem v2_pos {α : Abs} {a b : Int32} {f : Nat → Nat → Nat} {x y : Nat} (h : ok2 α a b) (e1 : a = nI x) (e2 : b = nI y) (hx : x < 2 ^ 31) (hy : y < 2 ^ 31) : v2 α a b f = nI (f x y) := by
  unfold v2; rw [if_pos h, e1, e2, tN_nI hx, tN_nI hy]
theorem v2_neg {α : Abs} {a b : Int32} {f : Nat → Nat → Nat} (h : ¬ ok2 α a b) : v2 α a b f = -2 := by
  unfold v2; rw [if_neg h]
def thrA (α : Abs) (x y : Nat) : Nat := thrN (aW α) (hK α x) (hM α x) x y
theorem sp_P_through {σ : Hp} {α : Abs} {a b : Int32} {P : Int32 → Hp → Prop} (hw : WF α) (hC : RC σ α) (h : P (v2 α a b (thrA α)) σ) : wp_P_through σ a b P := by
  have hH := nH_le hw
  refine sp_P_areTwo hw hC (fun q => br_f one0 ?_) (fun q => br_t rfl (by rw [v2_neg q] at h; exact h))
  obtain ⟨x, y, hx, hy, hn, e1, e2⟩ := ok2_nat q
  rw [v2_pos q e1 e2 (by omega) (by omega)] at h
  obtain ⟨s1, s2, s3, s4⟩ := hC.2.1.1.2 x hx
  obtain ⟨b1, b2, b3, b4, b5⟩ := hs_byte (hOk_of hx) hx
  rw [e1, e2]
  exact sp_U_comesThrough (fun i hi => ⟨hC.2.1.2.2.1 i hi, hw.2.1 i hi⟩) s1 s2 b2 (hM_le hx) (by omega) (by omega) hn h
theorem sp_R_two {τ : Hp} {α : Abs} {a b : Int32} {A B : Hp → Prop} (hw : WF α) (hR : RR τ α) (h1 : ∀ ρ, ok2 α a b → RR ρ α → Rd ρ α → A ρ) (h0 : ∀ ρ, ¬ ok2 α a b → RR ρ α → Rd ρ α → B ρ) : wp_R_isHouse τ a (fun r1 t2 => ((r1 = 0 → B t2) ∧ (¬ r1 = 0 → wp_R_isHouse t2 b (fun r4 t5 => ((r4 = 0 → B t5) ∧ (¬ r4 = 0 → ((a = b → B t5) ∧ (¬ a = b → A t5)))))))) :=
  sp_R_isHouse hw hR.1 (fun ρ hB hd q => br_f one0 (sp_R_isHouse hw (hB.rt hR.1) (fun ρ2 hB2 hd2 q2 => br_f one0 ⟨fun e => h0 ρ2 (fun z => z.2.2 e) ((hR.ps hB.ps).ps hB2.ps) hd2, fun e => h1 ρ2 ⟨q, q2, e⟩ ((hR.ps hB.ps).ps hB2.ps) hd2⟩) (fun ρ2 hB2 hd2 q2 => br_t rfl (h0 ρ2 (fun z => q2 z.2.1) ((hR.ps hB.ps).ps hB2.ps) hd2)))) (fun ρ hB hd q => br_t rfl (h0 ρ (fun z => q z.1) (hR.ps hB.ps) hd))
theorem sp_R_through {τ : Hp} {α : Abs} {a b : Int32} {P : Int32 → Hp → Prop} (hw : WF α) (hR : RR τ α) (h : ∀ ρ, RR ρ α → Rd ρ α → P (v2 α a b (thrA α)) ρ) : wp_R_through τ a b P := by
  have hH := nH_le hw
  refine sp_R_two hw hR (fun ρ q hR2 hd2 => ?_) (fun ρ q hR2 hd2 => by have := h ρ hR2 hd2; rw [v2_neg q] at this; exact this)
  have h := h ρ hR2 hd2
  obtain ⟨x, y, hx, hy, hn, e1, e2⟩ := ok2_nat q
  rw [v2_pos q e1 e2 (by omega) (by omega)] at h
  rw [e1, e2]
  exact sp_R_throughOf (StR_of hw hR2 hd2) hx hy hn h
theorem h_through : H_through Rel := by
  intro σ τ x1 x2 hrel
  obtain ⟨α, hw, hC, hR⟩ := hrel
  exact sp_P_through hw hC (sp_R_through hw hR (fun ρ hR2 _ => ⟨rfl, α, hw, hC, hR2⟩))
-- owes
def owsA (α : Abs) (last x y : Nat) : Nat := wonN (ctA α) last y x
theorem sp_P_owes {σ : Hp} {α : Abs} {d a b : Int32} {P : Int32 → Hp → Prop} (hw : WF α) (hC : RC σ α) (h1 : ∀ last, last < 30 → d = nI last → P (v2 α a b (owsA α last)) σ) (h0 : ¬ isD d 30 → P (-2) σ) : wp_P_owes σ d a b P := by
  have hH := nH_le hw
  refine sp_P_isDay (fun q0 => br_f one0 ?_) (fun q => br_t rfl (h0 q))
  obtain ⟨last, hl, rfl⟩ := q0
  have h := h1 last hl rfl
  refine sp_P_areTwo hw hC (fun q => br_f one0 ?_) (fun q => br_t rfl (by rw [v2_neg q] at h; exact h))
  obtain ⟨x, y, hx, hy, hn, e1, e2⟩ := ok2_nat q
  rw [v2_pos q e1 e2 (by omega) (by omega)] at h
  rw [e1, e2]
  exact sp_D_owed (γ := ctA α) (WD_ctx hw _) (PC_ctx hC _) (fun _ _ => rfl) hl (by omega) (by omega) h
theorem sp_R_owes {τ : Hp} {α : Abs} {d a b : Int32} {P : Int32 → Hp → Prop} (hw : WF α) (hR : RR τ α) (h1 : ∀ last ρ, last < 30 → d = nI last → RR ρ α → Rd ρ α → P (v2 α a b (owsA α last)) ρ) (h0 : ¬ isD d 30 → P (-2) τ) : wp_R_owes τ d a b P := by
  have hH := nH_le hw
  refine sp_R_isDay (fun q0 => br_f one0 ?_) (fun q => br_t rfl (h0 q))
  obtain ⟨last, hl, rfl⟩ := q0
  refine sp_R_two hw hR (fun ρ q hR2 hd2 => ?_) (fun ρ q hR2 hd2 => by have := h1 last ρ hl rfl hR2 hd2; rw [v2_neg q] at this; exact this)
  obtain ⟨x, y, hx, hy, hn, e1, e2⟩ := ok2_nat q
  rw [e1, e2]
  refine sp_R_laysTold hw hR2 (fun ρ3 hT hP => sp_R_owesNow (γ := ctA α) (WD_ctx hw _) hP hl hx hy hn ?_)
  have h := h1 last ρ3 hl rfl hT.1 hT.2.1
  rw [v2_pos q e1 e2 (by omega) (by omega)] at h
  exact h
theorem h_owes : H_owes Rel := by
  intro σ τ x1 x2 x3 hrel
  obtain ⟨α, hw, hC, hR⟩ := hrel
  refine sp_P_owes hw hC (fun last hl e => sp_R_owes hw hR (fun last' ρ hl' e' hR2 _ => ⟨?_, α, hw, hC, hR2⟩) (fun z => absurd ⟨last, hl, e⟩ z)) (fun n => sp_R_owes hw hR (fun last' ρ hl' e' _ _ => absurd ⟨last', hl', e'⟩ n) (fun _ => ⟨rfl, α, hw, hC, hR⟩))
  have : last = last' := (nI_eq (by omega) (by omega)).mp (e.symm.trans e')
  rw [this]
-- balance
def balI (γ : Dc) (last h : Nat) : Int32 := Int32.ofInt (balZ γ last h)
theorem sp_P_balance {σ : Hp} {α : Abs} {d a : Int32} {P : Int32 → Hp → Prop} (hw : WF α) (hC : RC σ α) (h1 : ∀ last h, last < 30 → h < nH α → d = nI last → a = nI h → P (balI (ctA α) last h) σ) (h0 : ¬ (isD d 30 ∧ isD a (nH α)) → P (-100002) σ) : wp_P_balance σ d a P := by
  refine sp_P_isDay (fun q0 => br_f one0 ?_) (fun q => br_t rfl (h0 (fun z => q z.1)))
  refine sp_P_isHouse hw hC.2.1.1 (fun q1 => br_nt one0 ?_) (fun q => br_nf rfl (h0 (fun z => q z.2)))
  obtain ⟨last, hl, rfl⟩ := q0
  obtain ⟨h, hh, rfl⟩ := q1
  exact sp_K_leadingOfAll (γ := ctA α) (WD_ctx hw _) (PC_ctx hC _) (fun _ _ => rfl) (fun l hL => sp_D_balanceOf (WD_ctx hw _) (PC_ctx hC _) hL hl hh (h1 last h hl hh rfl rfl))
theorem sp_R_balanceOf {τ : Hp} {α : Abs} {last h : Nat} {P : Int32 → Hp → Prop} (hw : WF α) (hR : RR τ α) (hl : last < 30) (hh : h < nH α) (h1 : ∀ ρ, RR ρ α → Rd ρ α → P (balI (ctA α) last h) ρ) : wp_R_balanceOf τ (nI last) (nI h) P :=
  sp_R_laysTold hw hR (fun ρ hT hP => sp_R_balanceNow (γ := ctA α) (WD_ctx hw _) hP hl hh (h1 ρ hT.1 hT.2.1))
theorem h_balance : H_balance Rel := by
  intro σ τ x1 x2 hrel
  obtain ⟨α, hw, hC, hR⟩ := hrel
  refine sp_P_balance hw hC (fun last h hl hh e1 e2 => ?_) (fun n => ?_)
  · exact sp_R_isDay (fun _ => br_f one0 (sp_R_isHouse hw hR.1 (fun ρ hB hd _ => br_f one0 (by rw [e1, e2]; exact sp_R_balanceOf hw (hR.ps hB.ps) hl hh (fun ρ2 hR2 _ => ⟨rfl, α, hw, hC, hR2⟩))) (fun _ _ _ z => absurd ⟨h, hh, e2⟩ z))) (fun z => absurd ⟨last, hl, e1⟩ z)
  · exact sp_R_isDay (fun q1 => br_f one0 (sp_R_isHouse hw hR.1 (fun ρ hB hd q2 => absurd ⟨q1, q2⟩ n) (fun ρ hB _ _ => br_t rfl ⟨rfl, α, hw, hC, hR.ps hB.ps⟩))) (fun _ => br_t rfl ⟨rfl, α, hw, hC, hR⟩)
