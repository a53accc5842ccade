/-! never, ask -/
/-- with those suits that are dropped (bits) left out -/
def ctD (α : Abs) (dr : Nat) : Dc := ctx α (fun j => !dr.testBit j)
theorem BtT_dr {α : Abs} (hw : WF α) (dr : Nat) : BtT (ctD α dr) ((2 ^ aS α - 1) &&& (dr ^^^ (2 ^ 32 - 1))) := by
  have hS := hw.2.2.1.1
  obtain ⟨a1, a2⟩ := all_bits (aS α) hS
  refine ⟨Nat.lt_of_le_of_lt Nat.and_le_left a1, fun k hk => ?_⟩
  have hk : k < aS α := hk
  rw [Nat.testBit_and, a2 k hk, tb_not (by omega), Bool.true_and]; rfl
theorem sp_K_leadingWithout {σ : Hp} {α : Abs} {k : Nat} {P : Int32 → Hp → Prop} (hw : WF α) (hC : RC σ α) (hk : k < aS α) (h : ∀ l, BtL (ctD α (2 ^ k)) l → P (nI l) σ) : wp_K_leadingWithout σ (nI k) P := by
  have hS := hw.2.2.1.1
  refine sp_K_allSuits hS hC.2.1.2.2.2.1.1 ?_
  rw [rst_I (by omega)]
  exact sp_K_leading (γ := ctD α (2 ^ k)) (WD_ctx hw _) (PC_ctx hC _) (BtT_dr hw _) h
def nvN (α : Abs) : Nat := itr (bitF (fun k => seenV (ctD α (2 ^ k)) α)) 0 (aS α) 0
theorem bits_lt (p : Nat → Bool) : ∀ n lo s, s < 2 ^ lo → itr (bitF p) lo n s < 2 ^ (lo + n) := by
  intro n
  induction n with
  | zero => intro lo s h; exact h
  | succ n ih =>
    intro lo s h
    have h2 : s < 2 ^ (lo + 1) := by rw [Nat.pow_succ]; omega
    have := ih (lo + 1) (bitF p lo s) (by
      unfold bitF
      split
      · exact Nat.or_lt_two_pow h2 (Nat.pow_lt_pow_right (by decide) (by omega))
      · exact h2)
    rw [show lo + 1 + n = lo + (n + 1) by omega] at this
    exact this
theorem nv_lt {α : Abs} (hw : WF α) : nvN α < 2 ^ 12 := by
  have hS := hw.2.2.1.1
  have := bits_lt (fun k => seenV (ctD α (2 ^ k)) α) (aS α) 0 0 (by decide)
  rw [Nat.zero_add] at this
  exact Nat.lt_of_lt_of_le this (Nat.pow_le_pow_right (by decide) hS)
theorem sp_P_never {σ : Hp} {α : Abs} {P : Int32 → Hp → Prop} (hw : WF α) (hC : RC σ α) (h : P (nI (nvN α)) σ) : wp_P_never σ P := by
  have hS := hw.2.2.1.1
  have e56 : σ 5 6 = nI (aS α) := hC.2.1.2.2.2.1.1
  intro I hI
  have key : ∀ m k s, k + m = aS α → itr (bitF (fun k => seenV (ctD α (2 ^ k)) α)) k m s = nvN α → I σ (nI s) (nI k) := by
    intro m
    induction m with
    | zero =>
      intro k s hk hs
      have : k = aS α := by omega
      subst this
      have hs : s = nvN α := hs
      subst hs
      apply hI
      unfold b_P_never_4_
      rw [e56]
      exact pk_le (aS α) (aS α) (fun _ => h) (fun c => absurd c (by omega))
    | succ m ih =>
      intro k s hk hs
      have ih := fun s' => ih (k + 1) s' (by omega)
      have hs : itr (bitF (fun k => seenV (ctD α (2 ^ k)) α)) (k + 1) m (if seenV (ctD α (2 ^ k)) α = true then s ||| 2 ^ k else s) = nvN α := hs
      apply hI
      unfold b_P_never_4_
      rw [e56]
      refine pk_le (aS α) k (fun c => absurd c (by omega)) (fun _ => sp_K_leadingWithout hw hC (by omega) (fun l hL => ?_))
      refine sp_M_comesOut (γ := ctD α (2 ^ k)) hw (WD_ctx hw _) (PC_ctx hC _) hC.2.2.2.1 rfl hL (fun q => br_f one0 (fun v8 e8 v9 e9 => ?_)) (fun q => br_t rfl (fun v7 e7 => ?_))
      · rw [if_pos q] at hs
        rw [e8, e9, i_bit k (by omega), i_or, show nI k + 1 = nI (k + 1) from nI_1 k]
        exact ih _ hs
      · rw [if_neg (by rw [q]; simp)] at hs
        rw [e7, show nI k + 1 = nI (k + 1) from nI_1 k]
        exact ih _ hs
  exact key (aS α) 0 0 (by omega) rfl
theorem Told.dr {ρ : Hp} {α : Abs} {v : Int32} (h : Told ρ α) : Told (st ρ 0 17 v) α := by
  have e0 : ∀ j, j ≠ 17 → st ρ 0 17 v 0 j = ρ 0 j := fun j hj => by rw [st_at]; unfold upd; rw [if_neg hj]
  have eo : ∀ o, o ≠ 0 → st ρ 0 17 v o = ρ o := fun o ho => st_ne _ _ _ ho
  obtain ⟨hR, hd, hc⟩ := h
  refine ⟨hR.ps ⟨⟨eo _ (by decide), eo _ (by decide), eo _ (by decide), eo _ (by decide), eo _ (by decide), eo _ (by decide), eo _ (by decide), eo _ (by decide)⟩, ⟨eo _ (by decide), eo _ (by decide), eo _ (by decide), eo _ (by decide), eo _ (by decide), eo _ (by decide), eo _ (by decide)⟩, ⟨e0 _ (by decide), e0 _ (by decide), e0 _ (by decide), e0 _ (by decide)⟩⟩, ?_, fun y d hy hd => by rw [eo 14 (by decide)]; exact hc y d hy hd⟩
  unfold Rd RdH RdR at *
  rw [e0 2 (by decide), e0 7 (by decide), eo 3 (by decide), eo 4 (by decide), eo 5 (by decide), eo 6 (by decide), eo 7 (by decide)]; exact hd
/-- lays, with suits dropped -/
theorem sp_R_laysD {τ : Hp} {α : Abs} {dr : Nat} {v : Int32} {P : Hp → Prop} (hw : WF α) (hT : Told τ α) (ev : v = nI dr) (hd : dr < 2 ^ 31) (h : ∀ ρ, Told ρ α → Bt [0, 15, 16] τ ρ → PR ρ (ctD α dr) → P ρ) : wp_R_lays (st τ 0 17 v) P :=
  sp_R_laysC (dr := dr) (T := fun j => !dr.testBit j) hw hT.dr ⟨by rw [st_at]; unfold upd; rw [if_pos rfl, ev], hd, fun k _ => by simp⟩ (fun ρ hB hP => h ρ (hT.dr.fr (hB.mono (by decide))) (((Bt.rf _ _).st (by decide)).tr (hB.mono (by decide))) hP)
theorem sp_R_neverNow {τ : Hp} {α : Abs} {P : Int32 → Hp → Prop} (hw : WF α) (hR : RR τ α) (h : ∀ ρ, Told ρ α → P (nI (nvN α)) ρ) : wp_R_neverNow τ P := by
  have hS := hw.2.2.1.1
  refine sp_R_asTold hw hR (fun τ0 hT0 _ => ?_)
  intro I hI
  have key : ∀ m k s (ρ : Hp), k + m = aS α → Told ρ α → itr (bitF (fun k => seenV (ctD α (2 ^ k)) α)) k m s = nvN α → I ρ (nI s) (nI k) := by
    intro m
    induction m with
    | zero =>
      intro k s ρ hk hT hs
      have : k = aS α := by omega
      subst this
      have hs : s = nvN α := hs
      subst hs
      apply hI
      unfold b_R_neverNow_8_
      rw [hT.1.2.2.1.1]
      exact pk_le (aS α) (aS α) (fun _ => h ρ hT) (fun c => absurd c (by omega))
    | succ m ih =>
      intro k s ρ hk hT hs
      have ih := fun s' ρ' => ih (k + 1) s' ρ' (by omega)
      have hs : itr (bitF (fun k => seenV (ctD α (2 ^ k)) α)) (k + 1) m (if seenV (ctD α (2 ^ k)) α = true then s ||| 2 ^ k else s) = nvN α := hs
      apply hI
      unfold b_R_neverNow_8_
      rw [hT.1.2.2.1.1]
      refine pk_le (aS α) k (fun c => absurd c (by omega)) (fun _ => sp_R_laysD (dr := 2 ^ k) hw hT (i_bit k (by omega)) (Nat.pow_lt_pow_right (by decide) (by omega)) (fun ρ2 hT2 hB2 hP2 => ?_))
      refine sp_R_seen8 (γ := ctD α (2 ^ k)) hw (WD_ctx hw _) hP2 hT2.1.2.2.2.2.1 rfl (fun q => br_f one0 (fun v8 e8 v9 e9 => ?_)) (fun q => br_t rfl (fun v7 e7 v8 e8 => ?_))
      · rw [if_pos q] at hs
        rw [e8, e9, i_bit k (by omega), i_or, show nI k + 1 = nI (k + 1) from nI_1 k]
        exact ih _ _ hT2 hs
      · rw [if_neg (by rw [q]; simp)] at hs
        rw [e7, e8, show nI k + 1 = nI (k + 1) from nI_1 k, show (0 : Int32) = nI 0 from rfl, i_or, Nat.or_zero]
        exact ih _ _ hT2 hs
  exact key (aS α) 0 0 τ0 (by omega) hT0 rfl
theorem h_never : H_never Rel := by
  intro σ τ hrel
  obtain ⟨α, hw, hC, hR⟩ := hrel
  exact sp_P_never hw hC (sp_R_neverNow hw hR (fun ρ hT => ⟨rfl, α, hw, hC, hT.1⟩))
-- ask
/-- picking: a loop over those picked, in their order, is a loop over all -/
theorem pick {A : Type} {inb : Nat → Bool} {o v : Nat → Int32} (G : Int32 → A → A) : ∀ S (s0 : A), (∀ k, k < S → inb k = true → o (fb_ct inb k) = v k) → itr (fun j s => G (o j) s) 0 (fb_ct inb S) s0 = itr (fun k s => if inb k = true then G (v k) s else s) 0 S s0 := by
  intro S
  induction S with
  | zero => intro s0 _; rfl
  | succ S ih =>
    intro s0 h
    have ih := ih s0 (fun k hk => h k (by omega))
    rw [itr_S, Nat.zero_add, fb_ct_succ]
    by_cases c : inb S = true
    · rw [if_pos c, if_pos c, itr_S, Nat.zero_add, ih, h S (by omega) c]
    · rw [if_neg c, if_neg c, Nat.add_zero, ih]
def cnF (inb : Nat → Bool) (v : Nat → Int32) (x : Int32) (k s : Nat) : Nat := if inb k = true then (if v k = x then s + 1 else s) else s
def cnN (inb : Nat → Bool) (v : Nat → Int32) (S : Nat) (x : Int32) : Nat := itr (cnF inb v x) 0 S 0
def alF (inb : Nat → Bool) (v : Nat → Int32) (S i s : Nat) : Nat := if inb i = true then max s (cnN inb v S (v i)) else s
def alN (inb : Nat → Bool) (v : Nat → Int32) (S : Nat) : Nat := itr (alF inb v S) 0 S 0
def coF (o : Nat → Int32) (x : Int32) (j s : Nat) : Nat := if o j = x then s + 1 else s
def coN (o : Nat → Int32) (n : Nat) (x : Int32) : Nat := itr (coF o x) 0 n 0
def aoF (o : Nat → Int32) (n i s : Nat) : Nat := max s (coN o n (o i))
def aoN (o : Nat → Int32) (n : Nat) : Nat := itr (aoF o n) 0 n 0
theorem ao_eq {inb : Nat → Bool} {o v : Nat → Int32} {S : Nat} (h : ∀ k, k < S → inb k = true → o (fb_ct inb k) = v k) : aoN o (fb_ct inb S) = alN inb v S := by
  have e1 : ∀ x, coN o (fb_ct inb S) x = cnN inb v S x := fun x => pick (fun y s => if y = x then s + 1 else s) S 0 h
  have e2 := pick (A := Nat) (fun y s => max s (coN o (fb_ct inb S) y)) S 0 h
  have e3 : aoN o (fb_ct inb S) = itr (fun k s => if inb k = true then max s (coN o (fb_ct inb S) (v k)) else s) 0 S 0 := e2
  rw [e3]
  unfold alN
  apply itr_cong
  intro k s _ _
  unfold alF
  rw [e1]
theorem coN_le {o : Nat → Int32} {x : Int32} : ∀ n lo s, s ≤ lo → itr (coF o x) lo n s ≤ lo + n := by
  intro n
  induction n with
  | zero => intro lo s h; exact h
  | succ n ih =>
    intro lo s h
    have := ih (lo + 1) (coF o x lo s) (by unfold coF; split <;> omega)
    rw [show lo + 1 + n = lo + (n + 1) by omega] at this
    exact this
theorem cnN_le {inb : Nat → Bool} {v : Nat → Int32} {x : Int32} : ∀ n lo s, s ≤ lo → itr (cnF inb v x) lo n s ≤ lo + n := by
  intro n
  induction n with
  | zero => intro lo s h; exact h
  | succ n ih =>
    intro lo s h
    have := ih (lo + 1) (cnF inb v x lo s) (by unfold cnF; (repeat' split) <;> omega)
    rw [show lo + 1 + n = lo + (n + 1) by omega] at this
    exact this
def candB (α : Abs) (k : Nat) : Bool := (nvN α).testBit k
def candV (α : Abs) (last h k : Nat) : Int32 := balI (ctD α (2 ^ k)) last h
def likA (α : Abs) (last h : Nat) : Nat := alN (candB α) (candV α last h) (aS α)
theorem sp_P_mostAlike {σ : Hp} {α : Abs} {last h : Nat} {P : Int32 → Hp → Prop} (hw : WF α) (hC : RC σ α) (hl : last < 30) (hh : h < nH α) (k1 : ∀ ρ, Bt [9] σ ρ → P (nI (likA α last h)) ρ) : wp_P_mostAlike σ (nI last) (nI h) (nI (nvN α)) P := by
  have hS := hw.2.2.1.1
  have hnv := nv_lt hw
  have e56 : ∀ ρ, Bt [9] σ ρ → ρ 5 6 = nI (aS α) := fun ρ hB => by rw [hB 5 (by decide)]; exact hC.2.1.2.2.2.1.1
  -- the two loops over the row
  have two : ∀ ρ, Bt [9] σ ρ → (∀ k, k < aS α → candB α k = true → ρ 9 (fb_ct (candB α) k) = candV α last h k) → j_P_mostAlike_70 P ρ (nI (fb_ct (candB α) (aS α))) 0 0 := by
    intro ρ hB ho
    have hn : fb_ct (candB α) (aS α) ≤ 12 := Nat.le_trans (fb_ct_le _ _) hS
    have ea := ao_eq ho
    generalize fb_ct (candB α) (aS α) = n at hn ea ⊢
    intro I hI
    have key : ∀ m i s, i + m = n → s ≤ 12 → itr (aoF (ρ 9) n) i m s = likA α last h → I ρ (nI n) (nI s) (nI i) := by
      intro m
      induction m with
      | zero =>
        intro i s hi hs12 hs
        have : i = n := by omega
        subst this
        have hs : s = likA α last h := hs
        subst hs
        apply hI
        exact pk_le i i (fun _ => k1 ρ hB) (fun c => absurd c (by omega))
      | succ m ih =>
        intro i s hi hs12 hs
        have hs : itr (aoF (ρ 9) n) (i + 1) m (max s (coN (ρ 9) n (ρ 9 i))) = likA α last h := hs
        have hcn : coN (ρ 9) n (ρ 9 i) ≤ n := by have := coN_le (o := ρ 9) (x := ρ 9 i) n 0 0 (Nat.le_refl _); rw [Nat.zero_add] at this; exact this
        apply hI
        refine pk_le n i (fun c => absurd c (by omega)) (fun _ => ?_)
        intro J hJJ
        have key2 : ∀ m2 j c, j + m2 = n → c ≤ j → itr (coF (ρ 9) (ρ 9 i)) j m2 c = coN (ρ 9) n (ρ 9 i) → J ρ (nI n) (nI s) (nI i) (nI c) (nI j) := by
          intro m2
          induction m2 with
          | zero =>
            intro j c hj hc hs2
            have : j = n := by omega
            subst this
            have hs2 : c = coN (ρ 9) j (ρ 9 i) := hs2
            apply hJJ
            refine pk_le j j (fun _ v2 e2 v3 e3 => ?_) (fun z => absurd z (by omega))
            have e2 : v2 = nI (max s c) := by
              rw [e2]
              by_cases z : s < c
              · rw [if_pos (nI_lt z (by omega)), Nat.max_eq_right (by omega)]
              · rw [if_neg (nI_nlt (by omega) (by omega)), Nat.max_eq_left (by omega)]
            rw [e2, e3, show nI i + 1 = nI (i + 1) from nI_1 i]
            refine ih (i + 1) _ (by omega) (by omega) ?_
            rw [hs2]; exact hs
          | succ m2 ih2 =>
            intro j c hj hc hs2
            have hs2 : itr (coF (ρ 9) (ρ 9 i)) (j + 1) m2 (if ρ 9 j = ρ 9 i then c + 1 else c) = coN (ρ 9) n (ρ 9 i) := hs2
            apply hJJ
            unfold b_P_mostAlike_83_
            rw [ixn (show j < 2 ^ 31 by omega), ixn (show i < 2 ^ 31 by omega)]
            refine pk_le n j (fun z => absurd z (by omega)) (fun _ => ⟨pk_in j 12 (by omega), pk_in i 12 (by omega), fun z v7 e7 => ?_, fun z v8 e8 v9 e9 => ?_⟩)
            · rw [if_neg z] at hs2
              rw [e7, show nI j + 1 = nI (j + 1) from nI_1 j]
              exact ih2 (j + 1) c (by omega) (by omega) hs2
            · rw [if_pos z] at hs2
              rw [e8, e9, show nI j + 1 = nI (j + 1) from nI_1 j, show nI c + 1 = nI (c + 1) from nI_1 c]
              exact ih2 (j + 1) (c + 1) (by omega) (by omega) hs2
        exact key2 n 0 0 (by omega) (Nat.le_refl _) rfl
    exact key n 0 0 (by omega) (by omega) ea
  -- the row
  intro I hI
  have key : ∀ m k (ρ : Hp), k + m = aS α → Bt [9] σ ρ → (∀ j, j < k → candB α j = true → ρ 9 (fb_ct (candB α) j) = candV α last h j) → I ρ (nI last) (nI h) (nI (nvN α)) (nI (fb_ct (candB α) k)) (nI k) := by
    intro m
    induction m with
    | zero =>
      intro k ρ hk hB ho
      have : k = aS α := by omega
      subst this
      apply hI
      unfold b_P_mostAlike_6_
      rw [e56 ρ hB]
      exact pk_le (aS α) (aS α) (fun _ => two ρ hB ho) (fun c => absurd c (by omega))
    | succ m ih =>
      intro k ρ hk hB ho
      have hC2 : RC ρ α := hC.fr (hB.mono (by decide))
      have hr := fb_ct_le (candB α) k
      have hsc := fb_ct_succ (candB α) k
      apply hI
      unfold b_P_mostAlike_6_
      rw [e56 ρ hB]
      refine pk_le (aS α) k (fun c => absurd c (by omega)) (fun _ => tb_ne (by omega) (by omega) (fun q => sp_K_leadingWithout hw hC2 (by omega) (fun l hL => ?_)) (fun q v20 e20 => ?_))
      · refine sp_D_balanceOf (γ := ctD α (2 ^ k)) (WD_ctx hw _) (PC_ctx hC2 _) hL hl hh ⟨pk_in (fb_ct (candB α) k) 12 (by omega), fun v18 e18 v19 e19 => ?_⟩
        have q : candB α k = true := q
        rw [if_pos q] at hsc
        rw [e18, e19, show nI k + 1 = nI (k + 1) from nI_1 k, show nI (fb_ct (candB α) k) + 1 = nI (fb_ct (candB α) k + 1) from nI_1 _, ← hsc]
        refine ih (k + 1) _ (by omega) (hB.st (by decide)) (fun j hj hc => ?_)
        rw [st_ix (by omega)]
        by_cases e : j = k
        · subst e; rw [if_pos rfl]; rfl
        · have hlt : fb_ct (candB α) j + 1 ≤ fb_ct (candB α) k := by
            have h1 := fb_ct_mono (candB α) (show j + 1 ≤ k by omega)
            rw [fb_ct_succ, if_pos hc] at h1; exact h1
          rw [if_neg (by omega)]; exact ho j (by omega) hc
      · have q : candB α k = false := q
        rw [q] at hsc
        have hsc : fb_ct (candB α) (k + 1) = fb_ct (candB α) k := hsc
        rw [e20, show nI k + 1 = nI (k + 1) from nI_1 k, ← hsc]
        refine ih (k + 1) ρ (by omega) hB (fun j hj hc => ?_)
        by_cases e : j = k
        · rw [e, q] at hc; cases hc
        · exact ho j (by omega) hc
  exact key (aS α) 0 σ (by omega) (Bt.rf _ _) (fun j hj => by omega)
def akF (al : Nat → Nat) (h : Nat) (s : Int32 × Nat) : Int32 × Nat := if s.1 = -1 ∨ al h < s.2 then (nI h, al h) else s
def askA (α : Abs) (last : Nat) : Int32 × Nat := itr (akF (likA α last)) 0 (nH α) (-1, 0)
theorem lik_le {α : Abs} (hw : WF α) (last h : Nat) : likA α last h ≤ 12 := by
  have hS := hw.2.2.1.1
  have key : ∀ m i s, i + m = aS α → s ≤ 12 → itr (alF (candB α) (candV α last h) (aS α)) i m s ≤ 12 := by
    intro m
    induction m with
    | zero => intro i s _ h; exact h
    | succ m ih =>
      intro i s hi hs
      refine ih (i + 1) _ (by omega) ?_
      unfold alF
      have := cnN_le (inb := candB α) (v := candV α last h) (x := candV α last h i) (aS α) 0 0 (Nat.le_refl _)
      have e : cnN (candB α) (candV α last h) (aS α) (candV α last h i) = itr (cnF (candB α) (candV α last h) (candV α last h i)) 0 (aS α) 0 := rfl
      split <;> omega
  exact key (aS α) 0 0 (by omega) (by omega)
theorem sp_P_ask {σ : Hp} {α : Abs} {d : Int32} {P : Int32 → Hp → Prop} (hw : WF α) (hC : RC σ α) (h1 : ∀ last ρ, last < 30 → d = nI last → RC ρ α → P (askA α last).1 ρ) (h0 : ¬ isD d 30 → P (-2) σ) : wp_P_ask σ d P := by
  have hH := nH_le hw
  refine sp_P_isDay (fun q0 => br_nt one0 ?_) (fun q => br_nf rfl (h0 q))
  obtain ⟨last, hl, rfl⟩ := q0
  refine sp_P_never hw hC ?_
  intro I hI
  have key : ∀ m h s (ρ : Hp), h + m = nH α → s.2 ≤ 12 → Bt [9] σ ρ → itr (akF (likA α last)) h m s = askA α last → I ρ (nI last) (nI (nvN α)) s.1 (nI s.2) (nI h) := by
    intro m
    induction m with
    | zero =>
      intro h s ρ hh hs12 hB hs
      have : h = nH α := by omega
      subst this
      have hC2 : RC ρ α := hC.fr (hB.mono (by decide))
      have hs : s = askA α last := hs
      subst hs
      apply hI
      unfold b_P_ask_23_
      rw [hC2.2.1.1.1]
      exact pk_le (nH α) (nH α) (fun _ => h1 last ρ hl rfl hC2) (fun c => absurd c (by omega))
    | succ m ih =>
      intro h s ρ hh hs12 hB hs
      have hC2 : RC ρ α := hC.fr (hB.mono (by decide))
      have ih := fun s' ρ' => ih (h + 1) s' ρ' (by omega)
      have hs : itr (akF (likA α last)) (h + 1) m (if s.1 = -1 ∨ likA α last h < s.2 then (nI h, likA α last h) else s) = askA α last := hs
      have hle := lik_le hw last h
      apply hI
      unfold b_P_ask_23_
      rw [hC2.2.1.1.1]
      refine pk_le (nH α) h (fun c => absurd c (by omega)) (fun _ => sp_P_mostAlike hw hC2 hl (by omega) (fun ρ2 hB2 => ?_))
      have hB3 : Bt [9] σ ρ2 := hB.tr hB2
      have yes : (s.1 = -1 ∨ likA α last h < s.2) → ∀ v : Int32, v = nI h + 1 → I ρ2 (nI last) (nI (nvN α)) (nI h) (nI (likA α last h)) v := by
        intro c v e
        rw [if_pos c] at hs
        rw [e, show nI h + 1 = nI (h + 1) from nI_1 h]
        exact ih (nI h, likA α last h) ρ2 hle hB3 hs
      refine ⟨fun c => yes (Or.inl c), fun c => pk_lt (likA α last h) s.2 (fun c2 => yes (Or.inr c2)) (fun c2 v e => ?_)⟩
      have no : ¬ (s.1 = -1 ∨ likA α last h < s.2) := fun z => z.elim c (by omega)
      rw [if_neg no] at hs
      rw [e, show nI h + 1 = nI (h + 1) from nI_1 h]
      exact ih s ρ2 hs12 hB3 hs
  exact key (nH α) 0 (-1, 0) σ (by omega) (by decide) (Bt.rf _ _) rfl
theorem sp_R_askOf {τ : Hp} {α : Abs} {last : Nat} {P : Int32 → Hp → Prop} (hw : WF α) (hR : RR τ α) (hl : last < 30) (h1 : ∀ ρ, RR ρ α → Rd ρ α → P (askA α last).1 ρ) : wp_R_askOf τ (nI last) P := by
  have hH := nH_le hw
  have hS := hw.2.2.1.1
  have hnv := nv_lt hw
  refine sp_R_neverNow hw hR (fun τ0 hT0 => ?_)
  -- the rows of purses stand
  have fin : ∀ ρ, Told ρ α → (∀ k h, k < aS α → h < nH α → ρ 23 (8 * k + h) = candV α last h k) → j_R_askOf_82 P ρ (nI (nvN α)) (-1) 0 0 := by
    intro ρ hT hp
    have e02 : ρ 0 2 = nI (nH α) := hT.2.1.1.1
    have e010 : ρ 0 10 = nI (aS α) := hT.1.2.2.1.1
    intro I hI
    have key : ∀ m h s, h + m = nH α → s.2 ≤ 12 → itr (akF (likA α last)) h m s = askA α last → I ρ (nI (nvN α)) s.1 (nI s.2) (nI h) := by
      intro m
      induction m with
      | zero =>
        intro h s hh hs12 hs
        have : h = nH α := by omega
        subst this
        have hs : s = askA α last := hs
        subst hs
        apply hI
        unfold b_R_askOf_82_
        rw [e02]
        exact pk_le (nH α) (nH α) (fun _ => h1 ρ hT.1 hT.2.1) (fun c => absurd c (by omega))
      | succ m ih =>
        intro h s hh hs12 hs
        have ih := fun s' => ih (h + 1) s' (by omega)
        have hs : itr (akF (likA α last)) (h + 1) m (if s.1 = -1 ∨ likA α last h < s.2 then (nI h, likA α last h) else s) = askA α last := hs
        have hle := lik_le hw last h
        apply hI
        unfold b_R_askOf_82_
        rw [e02]
        refine pk_le (nH α) h (fun c => absurd c (by omega)) (fun _ => ?_)
        intro J hJJ
        have key2 : ∀ m2 i t, i + m2 = aS α → t ≤ 12 → itr (alF (candB α) (candV α last h) (aS α)) i m2 t = likA α last h → J ρ (nI (nvN α)) s.1 (nI s.2) (nI h) (nI t) (nI i) := by
          intro m2
          induction m2 with
          | zero =>
            intro i t hi ht ht2
            have : i = aS α := by omega
            subst this
            have ht2 : t = likA α last h := ht2
            subst ht2
            apply hJJ
            unfold b_R_askOf_97_
            rw [e010]
            have yes : (s.1 = -1 ∨ likA α last h < s.2) → j_R_askOf_218 P I ρ (nI (nvN α)) s.1 (nI s.2) (nI h) (nI (likA α last h)) := by
              intro c
              rw [if_pos c] at hs
              refine br_f one0 (br_f one0 (fun v e => ?_))
              rw [e, show nI h + 1 = nI (h + 1) from nI_1 h]
              exact ih (nI h, likA α last h) hle hs
            refine pk_le (aS α) (aS α) (fun _ => ⟨fun c => yes (Or.inl c), fun c => pk_le s.2 (likA α last h) (fun c2 => br_t rfl (br_t rfl (fun v e => ?_))) (fun c2 => yes (Or.inr c2))⟩) (fun c => absurd c (by omega))
            have no : ¬ (s.1 = -1 ∨ likA α last h < s.2) := fun z => z.elim c (by omega)
            rw [if_neg no] at hs
            rw [e, show nI h + 1 = nI (h + 1) from nI_1 h]
            exact ih s hs12 hs
          | succ m2 ih2 =>
            intro i t hi ht ht2
            have ih2 := fun t' => ih2 (i + 1) t' (by omega)
            have ht2 : itr (alF (candB α) (candV α last h) (aS α)) (i + 1) m2 (if candB α i = true then max t (cnN (candB α) (candV α last h) (aS α) (candV α last h i)) else t) = likA α last h := ht2
            have hcn : cnN (candB α) (candV α last h) (aS α) (candV α last h i) ≤ 12 := by
              have := cnN_le (inb := candB α) (v := candV α last h) (x := candV α last h i) (aS α) 0 0 (Nat.le_refl _)
              have e : cnN (candB α) (candV α last h) (aS α) (candV α last h i) = itr (cnF (candB α) (candV α last h) (candV α last h i)) 0 (aS α) 0 := rfl
              omega
            apply hJJ
            unfold b_R_askOf_97_
            rw [e010]
            refine pk_le (aS α) i (fun c => absurd c (by omega)) (fun _ => ?_)
            intro K hK
            have key3 : ∀ m3 k c, k + m3 = aS α → c ≤ k → (if candB α i = true then itr (cnF (candB α) (candV α last h) (candV α last h i)) k m3 c = cnN (candB α) (candV α last h) (aS α) (candV α last h i) else c = 0) → K ρ (nI (nvN α)) s.1 (nI s.2) (nI h) (nI t) (nI i) (nI c) (nI k) := by
              intro m3
              induction m3 with
              | zero =>
                intro k c hk hc hs3
                have : k = aS α := by omega
                subst this
                apply hK
                unfold b_R_askOf_112_
                rw [e010]
                have go : ∀ t', t' ≤ 12 → t' = (if candB α i = true then max t (cnN (candB α) (candV α last h) (aS α) (candV α last h i)) else t) → ∀ v : Int32, v = nI i + 1 → J ρ (nI (nvN α)) s.1 (nI s.2) (nI h) (nI t') v := by
                  intro t' h12 et v e
                  rw [e, show nI i + 1 = nI (i + 1) from nI_1 i]
                  refine ih2 t' h12 ?_
                  rw [et]; exact ht2
                by_cases cb : candB α i = true
                · rw [if_pos cb] at hs3 go
                  have hs3 : c = cnN (candB α) (candV α last h) (aS α) (candV α last h i) := hs3
                  refine pk_le (aS α) (aS α) (fun _ => pk_le c t (fun c2 => go t ht (by omega)) (fun c2 => go c (by omega) (by omega))) (fun z => absurd z (by omega))
                · rw [if_neg cb] at hs3 go
                  subst hs3
                  exact pk_le (aS α) (aS α) (fun _ => pk_le 0 t (fun c2 => go t ht rfl) (fun c2 => absurd c2 (by omega))) (fun z => absurd z (by omega))
              | succ m3 ih3 =>
                intro k c hk hc hs3
                have ih3 := fun c' => ih3 (k + 1) c' (by omega)
                have same : (candB α i = true → cnF (candB α) (candV α last h) (candV α last h i) k c = c) → ∀ v1 v2 : Int32, v1 = nI c + 0 → v2 = nI k + 1 → K ρ (nI (nvN α)) s.1 (nI s.2) (nI h) (nI t) (nI i) v1 v2 := by
                  intro hc2 v1 v2 e1 e2
                  rw [e1, e2, show nI k + 1 = nI (k + 1) from nI_1 k, Int32.add_zero]
                  refine ih3 c (by omega) ?_
                  by_cases cb : candB α i = true
                  · rw [if_pos cb] at hs3 ⊢
                    have hs3 : itr (cnF (candB α) (candV α last h) (candV α last h i)) (k + 1) m3 (cnF (candB α) (candV α last h) (candV α last h i) k c) = cnN (candB α) (candV α last h) (aS α) (candV α last h i) := hs3
                    rw [hc2 cb] at hs3; exact hs3
                  · rw [if_neg cb] at hs3 ⊢; exact hs3
                apply hK
                unfold b_R_askOf_112_
                rw [e010, e8_nI, e8_nI]
                refine pk_le (aS α) k (fun c => absurd c (by omega)) (fun _ => sp_R_isIn (by omega) (by omega) (fun q => br_f one0 ?_) (fun q => br_t rfl (fun v12 e12 v13 e13 => same (fun z => ?_) v12 v13 e12 e13)))
                · have q : candB α i = true := q
                  refine sp_R_isIn (by omega) (by omega) (fun q2 => br_f one0 ⟨pk_in (8 * i + h) 96 (by omega), pk_in (8 * k + h) 96 (by omega), ?_⟩) (fun q2 => br_t rfl (fun v12 e12 v13 e13 => same (fun z => ?_) v12 v13 e12 e13))
                  · have q2 : candB α k = true := q2
                    rw [ixn (show 8 * i + h < 2 ^ 31 by omega), ixn (show 8 * k + h < 2 ^ 31 by omega), hp i h (by omega) (by omega), hp k h (by omega) (by omega)]
                    refine ⟨fun z v22 e22 v23 e23 => same (fun _ => ?_) v22 v23 e22 e23, fun z v24 e24 v25 e25 => ?_⟩
                    · unfold cnF; rw [if_pos q2, if_neg (fun w => z w.symm)]
                    · rw [if_pos q] at hs3
                      have hs3 : itr (cnF (candB α) (candV α last h) (candV α last h i)) (k + 1) m3 (if candB α k = true then (if candV α last h k = candV α last h i then c + 1 else c) else c) = cnN (candB α) (candV α last h) (aS α) (candV α last h i) := hs3
                      rw [if_pos q2, if_pos z.symm] at hs3
                      rw [e24, e25, show nI k + 1 = nI (k + 1) from nI_1 k, show nI c + 1 = nI (c + 1) from nI_1 c]
                      exact ih3 (c + 1) (by omega) (by rw [if_pos q]; exact hs3)
                  · have q2 : candB α k = false := q2
                    unfold cnF; rw [if_neg (by rw [q2]; simp)]
                · have q : candB α i = false := q
                  rw [q] at z; cases z
            exact key3 (aS α) 0 0 (by omega) (Nat.le_refl _) (by
              by_cases cb : candB α i = true
              · rw [if_pos cb]; rfl
              · rw [if_neg cb])
        exact key2 (aS α) 0 0 (by omega) (by omega) rfl
    exact key (nH α) 0 (-1, 0) (by omega) (by decide) rfl
  intro I hI
  have key : ∀ m k (ρ : Hp), k + m = aS α → Told ρ α → (∀ k' h, k' < k → h < nH α → ρ 23 (8 * k' + h) = candV α last h k') → I ρ (nI last) (nI (nvN α)) (nI k) := by
    intro m
    induction m with
    | zero =>
      intro k ρ hk hT hp
      have : k = aS α := by omega
      subst this
      apply hI
      unfold b_R_askOf_7_
      rw [hT.1.2.2.1.1]
      exact pk_le (aS α) (aS α) (fun _ => fin ρ hT hp) (fun c => absurd c (by omega))
    | succ m ih =>
      intro k ρ hk hT hp
      apply hI
      unfold b_R_askOf_7_
      rw [hT.1.2.2.1.1]
      refine pk_le (aS α) k (fun c => absurd c (by omega)) (fun _ => sp_R_laysD (dr := 2 ^ k) hw hT (i_bit k (by omega)) (Nat.pow_lt_pow_right (by decide) (by omega)) (fun ρ2 hT2 hB2 hP2 => ?_))
      refine sp_R_purses (γ := ctD α (2 ^ k)) (WD_ctx hw _) hP2 hl (fun ρ3 hB3 hb3 => ?_)
      have hT3 := hT2.fr (hB3.mono (by decide))
      have hb3 : ∀ j, j < nH α → ρ3 17 j = candV α last j k := hb3
      intro J hJJ
      have key2 : ∀ m2 h (ρ : Hp), h + m2 = nH α → Bt [23] ρ3 ρ → (∀ k' h', (k' < k ∨ (k' = k ∧ h' < h)) → h' < nH α → ρ 23 (8 * k' + h') = candV α last h' k') → J ρ (nI last) (nI (nvN α)) (nI k) (nI h) := by
        intro m2
        induction m2 with
        | zero =>
          intro h ρ hh hB hp
          have : h = nH α := by omega
          subst this
          have hT4 := hT3.fr (hB.mono (by decide))
          apply hJJ
          unfold b_R_askOf_34_
          rw [hT4.2.1.1.1]
          refine pk_le (nH α) (nH α) (fun _ v e => ?_) (fun c => absurd c (by omega))
          rw [e, show nI k + 1 = nI (k + 1) from nI_1 k]
          exact ih (k + 1) ρ (by omega) hT4 (fun k' h' h1 h2 => hp k' h' (by omega) h2)
        | succ m2 ih2 =>
          intro h ρ hh hB hp
          have hT4 := hT3.fr (hB.mono (by decide))
          apply hJJ
          unfold b_R_askOf_34_
          rw [hT4.2.1.1.1, e8_nI]
          refine pk_le (nH α) h (fun c => absurd c (by omega)) (fun _ => ⟨pk_in h 8 (by omega), pk_in (8 * k + h) 96 (by omega), fun v e => ?_⟩)
          rw [e, show nI h + 1 = nI (h + 1) from nI_1 h]
          refine ih2 (h + 1) _ (by omega) (hB.st (by decide)) (fun k' h' h1 h2 => ?_)
          rw [st_ix (by omega), ixn (show h < 2 ^ 31 by omega), hB 17 (by decide), hb3 h (by omega)]
          by_cases e : 8 * k' + h' = 8 * k + h
          · have : k' = k ∧ h' = h := (pair_eq (by omega) (by omega)).mp e
            rw [if_pos e, this.1, this.2]
          · rw [if_neg e]; exact hp k' h' (by omega) h2
      refine key2 (nH α) 0 ρ3 (by omega) (Bt.rf _ _) (fun k' h' h1 h2 => ?_)
      rw [hB3 23 (by decide), hB2 23 (by decide)]
      exact hp k' h' (by omega) h2
  exact key (aS α) 0 τ0 (by omega) hT0 (fun k' h h1 => by omega)
theorem h_ask : H_ask Rel := by
  intro σ τ x1 hrel
  obtain ⟨α, hw, hC, hR⟩ := hrel
  refine sp_P_ask hw hC (fun last ρ hl e hC2 => ?_) (fun n => ?_)
  · exact sp_R_isDay (fun _ => br_f one0 (by rw [e]; exact sp_R_askOf hw hR hl (fun ρ2 hR2 _ => ⟨rfl, α, hw, hC2, hR2⟩))) (fun z => absurd ⟨last, hl, e⟩ z)
  · exact sp_R_isDay (fun q => absurd q n) (fun _ => br_t rfl ⟨rfl, α, hw, hC, hR⟩)
