/-! write; purses day by day; broke -/
def wrA (α : Abs) (h s : Nat) : Nat → Abs
  | 0 => α
  | n + 1 => putA (wrA α h s n) s n (balI (ctA α) n h)
theorem wrA_same (α : Abs) (h s : Nat) : ∀ k, ctA (wrA α h s k) = ctA α ∧ nH (wrA α h s k) = nH α ∧ aF (wrA α h s k) s = aF α s ∧ aL (wrA α h s k) s = aL α s ∧ aT (wrA α h s k) s = aT α s := by
  intro k
  induction k with
  | zero => exact ⟨rfl, rfl, rfl, rfl, rfl⟩
  | succ k ih =>
    obtain ⟨i1, i2, i3, i4, i5⟩ := ih
    refine ⟨Eq.trans rfl i1, Eq.trans rfl i2, ?_, ?_, ?_⟩
    · show upN (aF (wrA α h s k)) s (aF (wrA α h s k) s) s = _
      unfold upN; rw [if_pos rfl]; exact i3
    · show upN (aL (wrA α h s k)) s (aL (wrA α h s k) s) s = _
      unfold upN; rw [if_pos rfl]; exact i4
    · show upN (aT (wrA α h s k)) s (aT (wrA α h s k) s) s = _
      unfold upN; rw [if_pos rfl]; exact i5
theorem WF_wrA {α : Abs} {h s : Nat} (hw : WF α) (hs : s < 4) : ∀ k, WF (wrA α h s k) := by
  intro k
  induction k with
  | zero => exact hw
  | succ k ih => exact WF_putA ih hs
theorem P_write_loop {h s L l : Nat} {α : Abs} {P : Int32 → Hp → Prop} (hw : WF α) (hs : s < 4) (hh : h < nH α) (hT : aT α s = true) (hL : BtL (ctA α) l) (hn : L ≤ 30) {I : Hp → Int32 → Nat → Int32 → Int32 → Int32 → Prop} (hI : ∀ σ x1 x3 x4 x5 x6, b_P_write_62_ P I σ x1 x3 x4 x5 x6 → I σ x1 x3 x4 x5 x6) (k1 : ∀ ρ, RC ρ (wrA α h s L) → P (nI L) ρ) : ∀ (m k : Nat) (ρ : Hp), k + m = L → RC ρ (wrA α h s k) → I ρ (nI h) (10 + s) (nI L) (nI l) (nI k) := by
  intro m
  induction m with
  | zero =>
    intro k ρ hk hC
    have : k = L := by omega
    subst this
    apply hI
    exact ⟨isS_s hs, pk_le k k (fun _ => k1 ρ hC) (fun c => absurd c (by omega))⟩
  | succ m ih =>
    intro k ρ hk hC
    obtain ⟨i1, i2, i3, i4, i5⟩ := wrA_same α h s k
    have hP : PC ρ (ctA α) := i1 ▸ PC_ctx hC (fun _ => true)
    have e1 : ρ (10 + s) 1 = nI (aF α s) := by
      have := (hC.2.2.2.2.1 s hs).1
      rw [i5, hT, if_pos rfl, i3] at this; exact this
    apply hI
    refine ⟨isS_s hs, pk_le L k (fun c => absurd c (by omega)) (fun _ => sp_D_balanceOf (γ := ctA α) (WD_ctx hw _) hP hL (by omega) hh (sp_S_store hs (by omega) (hw.2.2.2.2.2 s hs).1 e1 (fun v7 e7 => ?_)))⟩
    rw [e7, show nI k + 1 = nI (k + 1) from nI_1 k]
    refine ih (k + 1) _ (by omega) ?_
    have := putC (i := k) (v := balI (ctA α) k h) hC hs
    rw [i3] at this; exact this
theorem R_write_loop {h s L : Nat} {α : Abs} {P : Int32 → Hp → Prop} (hw : WF α) (hs : s < 4) (hh : h < nH α) (hT : aT α s = true) (hL : L = min (aL α s) 30) {I : Hp → Int32 → Int32 → Int32 → Prop} (hI : ∀ σ x1 x2 x3, b_R_write_35_ P I σ x1 x2 x3 → I σ x1 x2 x3) (k1 : ∀ ρ, RR ρ (wrA α h s L) → P (nI L) ρ) : ∀ (m k : Nat) (ρ : Hp), k + m = L → RR ρ (wrA α h s k) → I ρ (nI h) (nI s) (nI k) := by
  have f12 := hw.2.2.2.2.2 s hs
  intro m
  induction m with
  | zero =>
    intro k ρ hk hR
    have : k = L := by omega
    subst this
    obtain ⟨i1, i2, i3, i4, i5⟩ := wrA_same α h s k
    have e2 := ((hR.2.2.2.2.2.1 s hs).2.1 (i5.trans hT)).2
    apply hI
    unfold b_R_write_35_
    rw [ixn (by omega), e2, i4]
    exact ⟨pk_in s 4 hs, pk_le (aL α s) k (fun _ => k1 ρ hR) (fun c => pk_le 30 k (fun _ => k1 ρ hR) (fun c2 => absurd c2 (by omega)))⟩
  | succ m ih =>
    intro k ρ hk hR
    obtain ⟨i1, i2, i3, i4, i5⟩ := wrA_same α h s k
    have e2 := ((hR.2.2.2.2.2.1 s hs).2.1 (i5.trans hT)).2
    apply hI
    unfold b_R_write_35_
    rw [ixn (by omega), e2, i4]
    refine ⟨pk_in s 4 hs, pk_le (aL α s) k (fun c => absurd c (by omega)) (fun _ => pk_le 30 k (fun c => absurd c (by omega)) (fun _ => sp_R_balanceOf (WF_wrA hw hs k) hR (by omega) (by rw [i2]; exact hh) (fun ρ2 hR2 _ => ?_)))⟩
    have e1 := ((hR2.2.2.2.2.2.1 s hs).2.1 (i5.trans hT)).1
    rw [i3] at e1
    refine sp_R_keep hs (by omega) f12.1 e1 (fun v8 e8 => ?_)
    rw [e8, show nI k + 1 = nI (k + 1) from nI_1 k, i1]
    refine ih (k + 1) _ (by omega) ?_
    have := putR (i := k) (v := balI (ctA α) k h) hR2 hs (by omega)
    rw [i3] at this; exact this
theorem h_write : H_write Rel := by
  intro σ τ x1 x2 hrel
  obtain ⟨α, hw, hC, hR⟩ := hrel
  have keep : ∀ ρ, BtR τ ρ → Rel σ ρ := fun ρ hB => ⟨α, hw, hC, hR.ps hB.ps⟩
  refine sp_P_isHouse hw hC.2.1.1 (fun q1 => br_f one0 ?_) (fun q => br_t rfl (sp_R_isHouse hw hR.1 (fun ρ hB hd z => absurd z q) (fun ρ hB hd _ => br_t rfl ⟨rfl, keep ρ hB⟩)))
  refine sp_P_isSheet (fun q2 => br_nt one0 ?_) (fun q => br_nf rfl (sp_R_isHouse hw hR.1 (fun ρ hB hd _ => br_f one0 (sp_R_isSheet (fun z => absurd z q) (fun _ => br_nf rfl ⟨rfl, keep ρ hB⟩))) (fun ρ hB hd z => absurd q1 z)))
  obtain ⟨h, hh, rfl⟩ := q1
  obtain ⟨s, hs, rfl⟩ := q2
  have f12 := hw.2.2.2.2.2 s hs
  refine ⟨pk_in s 4 hs, fun o e => ?_⟩
  rw [ixn (by omega)] at e
  subst e
  refine ⟨isS_s hs, sp_S_isLost hw hC hs (fun hT => br_f one0 ?_) (fun hT => br_t rfl (fun v20 e20 => ?_))⟩
  · unfold wp_P_found wp_R_write
    refine sp_R_isHouse hw hR.1 (fun ρ hB hd _ => br_f one0 (sp_R_isSheet (fun _ => br_nt one0 ⟨pk_in s 4 hs, ?_⟩) (fun z => absurd ⟨s, hs, rfl⟩ z))) (fun ρ hB hd z => absurd ⟨h, hh, rfl⟩ z)
    exact sp_R_there (hR.ps hB.ps) hs (fun _ => ⟨rfl, find_R hw hC (hR.ps hB.ps)⟩) (fun z => by rw [hT] at z; cases z)
  · have e20 : v20 = nI (min (aL α s) 30) := by
      rw [e20, (hC.2.2.2.2.1 s hs).2.1 hT, show (30 : Int32) = nI 30 from rfl]
      by_cases c : 30 < aL α s
      · rw [if_pos (nI_lt c (by omega)), Nat.min_eq_right (by omega)]
      · rw [if_neg (nI_nlt (by omega) (by omega)), Nat.min_eq_left (by omega)]
    subst e20
    refine sp_K_leadingOfAll (γ := ctA α) (WD_ctx hw _) (PC_ctx hC _) (fun _ _ => rfl) (fun l hL => ?_)
    intro I hI
    refine P_write_loop hw hs hh hT hL (by omega) hI (fun ρC hC2 => ?_) (min (aL α s) 30) 0 σ (Nat.zero_add _) hC
    unfold wp_R_write
    refine sp_R_isHouse hw hR.1 (fun ρ hB hd _ => br_f one0 (sp_R_isSheet (fun _ => br_nt one0 ⟨pk_in s 4 hs, ?_⟩) (fun z => absurd ⟨s, hs, rfl⟩ z))) (fun ρ hB hd z => absurd ⟨h, hh, rfl⟩ z)
    refine sp_R_there (hR.ps hB.ps) hs (fun z => by rw [hT] at z; cases z) (fun _ => ?_)
    intro J hJ
    exact R_write_loop hw hs hh hT rfl hJ (fun ρR hR2 => ⟨rfl, _, WF_wrA hw hs _, hC2, hR2⟩) (min (aL α s) 30) 0 ρ (Nat.zero_add _) (hR.ps hB.ps)
-- purses, day by day
theorem opn_ct {c : Nat → Bool} {s last : Nat} (hl : last < 32) : opn c s last = fb_ct (fun i => decide (s ≤ i) && !c i) (last + 1) := by
  unfold opn
  have e := fb_ct_split (fun i => decide (s ≤ i) && (decide (i ≤ last) && !c i)) (last + 1) (31 - last)
  have z : fb_ct (fun k => decide (s ≤ last + 1 + k) && (decide (last + 1 + k ≤ last) && !c (last + 1 + k))) (31 - last) = 0 := by
    rw [fb_ct_zero]
    intro k _
    have : ¬ last + 1 + k ≤ last := by omega
    simp [this]
  rw [z, Nat.add_zero, show last + 1 + (31 - last) = 32 by omega] at e
  rw [e]
  apply fb_ct_cong
  intro i hi
  have : decide (i ≤ last) = true := by simp; omega
  rw [this, Bool.true_and]
/-- what house j has behind the first n days -/
def balE (γ : Dc) (n j : Nat) : Int := fb_si (fun k => if k = j then 0 else ((gU γ j k * fb_ct (fun i => decide (sinN γ j k (gS γ) ≤ i) && !gC γ j i) n : Nat) : Int) - ((gU γ k j * fb_ct (fun i => decide (sinN γ k j (gS γ) ≤ i) && !gC γ k i) n : Nat) : Int)) (gH γ)
/-- what day d brings y of x -/
def byN (γ : Dc) (d y x : Nat) : Nat := if sinN γ y x (gS γ) ≤ d ∧ gC γ y d = false then gU γ y x else 0
def pasZ (γ : Dc) (d j : Nat) : Int := fb_si (fun k => if k = j then 0 else ((byN γ d j k : Nat) : Int) - ((byN γ d k j : Nat) : Int)) (gH γ)
theorem balE_0 (γ : Dc) (j : Nat) : balE γ 0 j = 0 := by
  unfold balE
  apply fb_si_z
  intro k _
  split
  · rfl
  · simp [fb_ct]
theorem ct_S (c : Nat → Bool) (u s n : Nat) : u * fb_ct (fun i => decide (s ≤ i) && !c i) (n + 1) = u * fb_ct (fun i => decide (s ≤ i) && !c i) n + (if s ≤ n ∧ c n = false then u else 0) := by
  rw [fb_ct_succ, Nat.mul_add]
  congr 1
  by_cases h1 : s ≤ n
  · cases h2 : c n <;> simp [h1]
  · simp [h1]
theorem balE_S (γ : Dc) (n j : Nat) : balE γ (n + 1) j = balE γ n j + pasZ γ n j := by
  unfold balE pasZ
  rw [← fb_si_add]
  apply fb_si_cong
  intro k _
  by_cases e : k = j
  · simp [e]
  · simp only [if_neg e]
    rw [ct_S, ct_S]
    unfold byN
    generalize (if sinN γ j k (gS γ) ≤ n ∧ gC γ j n = false then gU γ j k else 0) = a
    generalize (if sinN γ k j (gS γ) ≤ n ∧ gC γ k n = false then gU γ k j else 0) = b
    omega
theorem balE_bal {γ : Dc} {last j : Nat} (hl : last < 30) : balE γ (last + 1) j = balZ γ last j := by
  unfold balE balZ wonN
  apply fb_si_cong
  intro k _
  rw [opn_ct (by omega), opn_ct (by omega)]
/-- what one suit that counts brings house h on day d -/
def perD (γ : Dc) (d h k : Nat) : Int := if ldB γ (gS γ) k = true then (if gD γ k ≤ d ∧ gC γ (gY γ k) d = false then (if gY γ k = h then (gU γ (gY γ k) (gX γ k) : Int) else if gX γ k = h then -(gU γ (gY γ k) (gX γ k) : Int) else 0) else 0) else 0
theorem byN_0 {γ : Dc} (hw : WD γ) {d y x : Nat} (h : ¬ (y < gH γ ∧ x < gH γ)) : byN γ d y x = 0 := by
  unfold byN; rw [hw.2.2.2 y x h]; split <;> rfl
theorem perD_sum {γ : Dc} (hw : WD γ) {d h : Nat} (hd : d < 30) (hh : h < gH γ) : fb_si (perD γ d h) (gS γ) = pasZ γ d h := by
  have hH := hw.1.1
  have e1 := lead_all hw (fun y x s => if s ≤ d ∧ gC γ y d = false then (if y = h then (gU γ y x : Int) else if x = h then -(gU γ y x : Int) else 0) else 0) (fun y x => by rw [if_neg (by omega)])
  have e2 : fb_si (perD γ d h) (gS γ) = fb_si (fun k => if ldB γ (gS γ) k = true then (fun y x s => if s ≤ d ∧ gC γ y d = false then (if y = h then (gU γ y x : Int) else if x = h then -(gU γ y x : Int) else 0) else 0) (gY γ k) (gX γ k) (gD γ k) else 0) (gS γ) := rfl
  rw [e2, e1]
  have e3 : ∀ y, y < 8 → fb_si (fun x => if sinN γ y x (gS γ) ≤ d ∧ gC γ y d = false then (if y = h then (gU γ y x : Int) else if x = h then -(gU γ y x : Int) else 0) else 0) 8 = fb_si (fun x => if y = h then ((byN γ d h x : Nat) : Int) else if x = h then -((byN γ d y h : Nat) : Int) else 0) 8 := by
    intro y hy
    apply fb_si_cong
    intro x _
    unfold byN
    by_cases e : y = h
    · subst e
      simp only [if_true]
      split <;> rfl
    · simp only [if_neg e]
      by_cases e2 : x = h
      · subst e2
        simp only [if_true]
        split <;> rfl
      · simp only [if_neg e2]
        split <;> rfl
  rw [fb_si_cong e3, dbl (h := h) (n := 8) (by omega), ← fb_si_add]
  unfold pasZ
  rw [fb_si_tail (m := gH γ) hH]
  · apply fb_si_cong
    intro k hk
    by_cases e : k = h
    · rw [if_pos e, if_pos e, e]
      unfold byN
      rw [sin_hh hw, if_neg (by omega)]; simp
    · rw [if_neg e, if_neg e]; omega
  · intro k h1 h2
    rw [byN_0 hw (y := h) (x := k) (by omega), byN_0 hw (y := k) (x := h) (by omega), if_neg (by omega)]; simp
/-- what the pair (x owes y) moves for house j -/
def cellZ (γ : Dc) (d j x y : Nat) : Int := if x = y then 0 else if y = j then ((byN γ d y x : Nat) : Int) else if x = j then -((byN γ d y x : Nat) : Int) else 0
theorem cell_sum {γ : Dc} {d j : Nat} (hj : j < gH γ) : fb_si (fun x => fb_si (fun y => cellZ γ d j x y) (gH γ)) (gH γ) = pasZ γ d j := by
  rw [fb_si_swap]
  have e1 : ∀ y, y < gH γ → fb_si (fun x => cellZ γ d j x y) (gH γ) = fb_si (fun x => if y = j then (if x = j then 0 else ((byN γ d j x : Nat) : Int)) else if x = j then -((byN γ d y j : Nat) : Int) else 0) (gH γ) := by
    intro y _
    apply fb_si_cong
    intro x _
    unfold cellZ
    by_cases e : y = j
    · subst e
      simp only [if_true]
    · simp only [if_neg e]
      by_cases e2 : x = j
      · subst e2
        rw [if_neg (show ¬ x = y from fun z => e z.symm), if_pos rfl]
      · rw [if_neg e2, if_neg e2]
        split <;> rfl
  rw [fb_si_cong e1, dbl (A := fun x => if x = j then 0 else ((byN γ d j x : Nat) : Int)) (B := fun y => -((byN γ d y j : Nat) : Int)) hj, ← fb_si_add]
  unfold pasZ
  apply fb_si_cong
  intro k _
  by_cases e : k = j
  · simp [e]
  · simp only [if_neg e]; omega
theorem e8_nI (x y : Nat) : (8 : Int32) * nI x + nI y = nI (8 * x + y) := by rw [show (8 : Int32) = nI 8 from rfl, pk_mul, nI_add]
theorem e30_nI (y d : Nat) : (30 : Int32) * nI y + nI d = nI (30 * y + d) := by rw [show (30 : Int32) = nI 30 from rfl, pk_mul, nI_add]
theorem goes_st {ρ : Hp} {H x y b : Nat} {a : Nat → Int} (hxy : x = y → b = 0) (hi : ∀ j, j < H → ρ 17 j = Int32.ofInt (a j)) (hx : x < H) (hy : y < H) : ∀ j, j < H → st (st ρ 17 x (ρ 17 x - nI b)) 17 y (st ρ 17 x (ρ 17 x - nI b) 17 y + nI b) 17 j = Int32.ofInt (a j + (if x = y then 0 else if y = j then (b : Int) else if x = j then -(b : Int) else 0)) := by
  intro j hj
  rw [st_at, st_at]
  unfold upd
  by_cases e : x = y
  · have hb := hxy e
    subst e; subst hb
    rw [if_pos rfl, if_pos rfl, Int.add_zero]
    by_cases e2 : j = x
    · subst e2
      rw [if_pos rfl, hi j hj, show nI 0 = (0 : Int32) from rfl, Int32.sub_zero, Int32.add_zero]
    · rw [if_neg e2, if_neg e2]; exact hi j hj
  · rw [if_neg e, if_neg (show ¬ y = x from fun z => e z.symm)]
    by_cases e2 : j = y
    · subst e2
      rw [if_pos rfl, if_pos rfl, hi j hj, ofI_nI, Int32.ofInt_add]
    · rw [if_neg e2, if_neg (show ¬ y = j from fun z => e2 z.symm)]
      by_cases e3 : j = x
      · subst e3
        rw [if_pos rfl, if_pos rfl, hi j hj, ofI_nI, Int32.ofInt_add, Int32.ofInt_neg, Int32.sub_eq_add_neg]
      · rw [if_neg e3, if_neg (show ¬ x = j from fun z => e3 z.symm), Int.add_zero]; exact hi j hj
theorem sp_R_goesBy {τ : Hp} {γ : Dc} {d : Nat} {p : Nat → Int} {P : Hp → Prop} (hw : WD γ) (hP : PR τ γ) (hd : d < 30) (hp : ∀ j, j < gH γ → τ 17 j = Int32.ofInt (p j)) (h : ∀ ρ, Bt [17] τ ρ → (∀ j, j < gH γ → ρ 17 j = Int32.ofInt (p j + pasZ γ d j)) → P ρ) : wp_R_goesBy τ (nI d) P := by
  have hH := hw.1.1
  intro I hI
  have key : ∀ (m x : Nat) (ρ : Hp), x + m = gH γ → Bt [17] τ ρ → (∀ j, j < gH γ → ρ 17 j = Int32.ofInt (p j + fb_si (fun x => fb_si (fun y => cellZ γ d j x y) (gH γ)) x)) → I ρ (nI d) (nI x) := by
    intro m
    induction m with
    | zero =>
      intro x ρ hx hB hi
      have : x = gH γ := by omega
      subst this
      apply hI
      unfold b_R_goesBy_2_
      rw [(hP.bt hB (by simp; omega)).1]
      exact pk_le (gH γ) (gH γ) (fun _ => h ρ hB (fun j hj => by rw [hi j hj, cell_sum hj])) (fun c => absurd c (by omega))
    | succ m ih =>
      intro x ρ hx hB hi
      apply hI
      unfold b_R_goesBy_2_
      rw [(hP.bt hB (by simp; omega)).1]
      refine pk_le (gH γ) x (fun c => absurd c (by omega)) (fun _ => ?_)
      intro J hJ
      have key2 : ∀ (m2 y : Nat) (ρ : Hp), y + m2 = gH γ → Bt [17] τ ρ → (∀ j, j < gH γ → ρ 17 j = Int32.ofInt (p j + fb_si (fun x => fb_si (fun y => cellZ γ d j x y) (gH γ)) x + fb_si (fun y => cellZ γ d j x y) y)) → J ρ (nI d) (nI x) (nI y) := by
        intro m2
        induction m2 with
        | zero =>
          intro y ρ hy hB hi
          have : y = gH γ := by omega
          subst this
          apply hJ
          unfold b_R_goesBy_12_
          rw [(hP.bt hB (by simp; omega)).1]
          refine pk_le (gH γ) (gH γ) (fun _ v7 e7 => ?_) (fun c => absurd c (by omega))
          rw [e7, show nI x + 1 = nI (x + 1) from nI_1 x]
          refine ih (x + 1) ρ (by omega) hB (fun j hj => ?_)
          rw [hi j hj, fb_si_succ, Int.add_assoc]
        | succ m2 ih2 =>
          intro y ρ hy hB hi
          have hP2 := hP.bt hB (by simp; omega)
          obtain ⟨p1, p2, p3⟩ := hP2
          obtain ⟨q1, q2⟩ := p2 x y (by omega) (by omega)
          have hs : sinN γ y x (gS γ) = 99 ∨ sinN γ y x (gS γ) < 30 := sin_99 _ (fun k hk => (hw.2.1 k hk).1)
          apply hJ
          unfold b_R_goesBy_12_
          rw [p1, e8_nI, e30_nI, ixn (show 8 * x + y < 2 ^ 31 by omega), ixn (show 30 * y + d < 2 ^ 31 by omega), q2, p3 y d (by omega) hd]
          have c69 : ∀ b : Nat, (x = y → b = 0) → (x ≠ y → b = byN γ d y x) → j_R_goesBy_69 P I J ρ (nI d) (nI x) (nI y) (nI b) := by
            intro b hb1 hb2
            refine ⟨pk_in x 8 (by omega), pk_in x 8 (by omega), pk_in y 8 (by omega), pk_in y 8 (by omega), fun v5 e5 => ?_⟩
            rw [e5, show nI y + 1 = nI (y + 1) from nI_1 y, ixn (show x < 2 ^ 31 by omega), ixn (show y < 2 ^ 31 by omega)]
            refine ih2 (y + 1) _ (by omega) ((hB.st (by decide)).st (by decide)) (fun j hj => ?_)
            rw [goes_st hb1 hi (show x < gH γ by omega) (show y < gH γ by omega) j hj, fb_si_succ, Int.add_assoc (_ + _)]
            congr 2
            unfold cellZ
            by_cases e : x = y
            · rw [if_pos e, if_pos e]
            · rw [if_neg e, if_neg e, hb2 e]
          have c68 : (x ≠ y → byN γ d y x = 0) → j_R_goesBy_68 P I J ρ (nI d) (nI x) (nI y) := fun hb => c69 0 (fun _ => rfl) (fun e => (hb e).symm)
          refine pk_le (gH γ) y (fun c => absurd c (by omega)) (fun _ => ⟨pk_in (8 * x + y) 64 (by omega), ?_⟩)
          refine pk_lt d (sinN γ y x (gS γ)) (fun c => c68 (fun _ => by unfold byN; rw [if_neg (fun z => by omega)])) (fun c => ⟨pk_in (30 * y + d) 240 (by omega), ?_⟩)
          cases hc : gC γ y d with
          | true =>
            rw [if_pos rfl]
            exact br_nt one0 (c68 (fun _ => by unfold byN; rw [hc, if_neg (fun z => by cases z.2)]))
          | false =>
            rw [if_neg (by simp)]
            refine br_nf rfl (pk_eq x y (fun e => c68 (fun z => absurd e z)) (fun e => ⟨pk_in (8 * x + y) 64 (by omega), ?_⟩))
            rw [q1 e]
            exact c69 _ (fun z => absurd z e) (fun _ => by unfold byN; rw [if_pos ⟨by omega, hc⟩])
      exact key2 (gH γ) 0 ρ (by omega) hB (fun j hj => by rw [hi j hj]; show _ = Int32.ofInt (_ + 0); rw [Int.add_zero])
  exact key (gH γ) 0 τ (by omega) (Bt.rf _ _) (fun j hj => by rw [hp j hj]; show _ = Int32.ofInt (_ + 0); rw [Int.add_zero])
theorem sp_R_noPurses {τ : Hp} {P : Hp → Prop} (h : ∀ ρ, Bt [17] τ ρ → (∀ j, j < 8 → ρ 17 j = 0) → P ρ) : wp_R_noPurses τ P := by
  intro I hI
  have key : ∀ (m k : Nat) (ρ : Hp), k + m = 8 → Bt [17] τ ρ → (∀ j, j < k → ρ 17 j = 0) → I ρ (nI k) := by
    intro m
    induction m with
    | zero =>
      intro k ρ hk hB hi
      have : k = 8 := by omega
      subst this
      apply hI
      exact pk_le 8 8 (fun _ => h ρ hB hi) (fun c => absurd c (by omega))
    | succ m ih =>
      intro k ρ hk hB hi
      apply hI
      refine pk_le 8 k (fun c => absurd c (by omega)) (fun _ => ⟨pk_in k 8 (by omega), fun v3 e3 => ?_⟩)
      rw [e3, show nI k + 1 = nI (k + 1) from nI_1 k]
      refine ih (k + 1) _ (by omega) (hB.st (by decide)) (fun j hj => ?_)
      rw [st_ix (by omega)]
      by_cases e : j = k
      · rw [if_pos e]
      · rw [if_neg e]; exact hi j (by omega)
  exact key 8 0 τ rfl (Bt.rf _ _) (fun j hj => by omega)
/-- the first of lo, lo + 1, .. (n of them) with f; NONE -/
def fstV (f : Nat → Bool) : Nat → Nat → Int32
  | _, 0 => -1
  | lo, n + 1 => if f lo then nI lo else fstV f (lo + 1) n
def brkA (α : Abs) (h : Nat) : Int32 := fstV (fun d => decide (¬ -(nI (hCo α h)) ≤ balI (ctA α) d h)) 0 30
theorem sp_P_broke {σ : Hp} {α : Abs} {a : Int32} {P : Int32 → Hp → Prop} (hw : WF α) (hC : RC σ α) (h1 : ∀ h, h < nH α → a = nI h → P (brkA α h) σ) (h0 : ¬ isD a (nH α) → P (-2) σ) : wp_P_broke σ a P := by
  have hH := nH_le hw
  refine sp_P_isHouse hw hC.2.1.1 (fun q1 => br_nt one0 ?_) (fun q => br_nf rfl (h0 q))
  obtain ⟨h, hh, rfl⟩ := q1
  have h1 := h1 h hh rfl
  refine sp_K_leadingOfAll (γ := ctA α) (WD_ctx hw _) (PC_ctx hC _) (fun _ _ => rfl) (fun l hL => ?_)
  intro I hI
  have key : ∀ m k, k + m = 30 → fstV (fun d => decide (¬ -(nI (hCo α h)) ≤ balI (ctA α) d h)) k m = brkA α h → I σ (nI h) (nI l) (nI k) := by
    intro m
    induction m with
    | zero =>
      intro k hk hs
      have : k = 30 := by omega
      subst this
      apply hI
      have hs : (-1 : Int32) = brkA α h := hs
      exact pk_le 30 30 (fun _ => by rw [hs]; exact h1) (fun c => absurd c (by omega))
    | succ m ih =>
      intro k hk hs
      have ih := ih (k + 1) (by omega)
      have hs : (if decide (¬ -(nI (hCo α h)) ≤ balI (ctA α) k h) = true then nI k else fstV (fun d => decide (¬ -(nI (hCo α h)) ≤ balI (ctA α) d h)) (k + 1) m) = brkA α h := hs
      apply hI
      refine pk_le 30 k (fun c => absurd c (by omega)) (fun _ => sp_D_balanceOf (γ := ctA α) (WD_ctx hw _) (PC_ctx hC _) hL (by omega) hh ⟨pk_in h 8 (by omega), ?_⟩)
      rw [ixn (show h < 2 ^ 31 by omega), (hC.2.1.1.2 h hh).2.2.2]
      refine ⟨fun c v6 e6 => ?_, fun c => ?_⟩
      · rw [e6, show nI k + 1 = nI (k + 1) from nI_1 k]
        refine ih ?_
        rw [if_neg] at hs
        · exact hs
        · simp only [decide_eq_true_eq]; exact fun z => z c
      · rw [if_pos] at hs
        · rw [hs]; exact h1
        · simp only [decide_eq_true_eq]; exact c
  exact key 30 0 rfl rfl
theorem sp_R_brokeOf {τ : Hp} {α : Abs} {h : Nat} {P : Int32 → Hp → Prop} (hw : WF α) (hR : RR τ α) (hh : h < nH α) (h1 : ∀ ρ, RR ρ α → Rd ρ α → P (brkA α h) ρ) : wp_R_brokeOf τ (nI h) P := by
  have hH := nH_le hw
  refine sp_R_laysTold hw hR (fun ρ1 hT hP => sp_R_noPurses (fun ρ2 hB2 hz => ?_))
  intro I hI
  have key : ∀ (m k : Nat) (ρ : Hp), k + m = 30 → Bt [17] ρ1 ρ → (∀ j, j < nH α → ρ 17 j = Int32.ofInt (balE (ctA α) k j)) → fstV (fun d => decide (¬ -(nI (hCo α h)) ≤ balI (ctA α) d h)) k m = brkA α h → I ρ (nI h) (nI k) := by
    intro m
    induction m with
    | zero =>
      intro k ρ hk hB hi hs
      have : k = 30 := by omega
      subst this
      have hT2 := hT.fr (hB.mono (by decide))
      apply hI
      have hs : (-1 : Int32) = brkA α h := hs
      exact pk_le 30 30 (fun _ => by rw [hs]; exact h1 ρ hT2.1 hT2.2.1) (fun c => absurd c (by omega))
    | succ m ih =>
      intro k ρ hk hB hi hs
      have ih := ih (k + 1)
      have hs : (if decide (¬ -(nI (hCo α h)) ≤ balI (ctA α) k h) = true then nI k else fstV (fun d => decide (¬ -(nI (hCo α h)) ≤ balI (ctA α) d h)) (k + 1) m) = brkA α h := hs
      apply hI
      refine pk_le 30 k (fun c => absurd c (by omega)) (fun _ => sp_R_goesBy (γ := ctA α) (p := balE (ctA α) k) (WD_ctx hw _) (hP.bt hB (by simp; omega)) (by omega) hi (fun ρ3 hB3 hi3 => ⟨pk_in h 8 (by omega), pk_in h 9 (by omega), ?_⟩))
      have hB4 : Bt [17] ρ1 ρ3 := hB.tr hB3
      have hT2 := hT.fr (hB4.mono (by decide))
      have hi4 : ∀ j, j < nH α → ρ3 17 j = Int32.ofInt (balE (ctA α) (k + 1) j) := fun j hj => by rw [balE_S]; exact hi3 j hj
      have e17 : ρ3 17 h = balI (ctA α) k h := by rw [hi4 h hh, balE_bal (by omega)]; rfl
      rw [ixn (show h < 2 ^ 31 by omega), (hT2.2.1.1.2 h hh).2.2.2, e17]
      refine ⟨fun c v7 e7 => ?_, fun c => ?_⟩
      · rw [e7, show nI k + 1 = nI (k + 1) from nI_1 k]
        refine ih ρ3 (by omega) hB4 hi4 ?_
        rw [if_neg] at hs
        · exact hs
        · simp only [decide_eq_true_eq]; exact fun z => z c
      · rw [if_pos] at hs
        · rw [hs]; exact h1 ρ3 hT2.1 hT2.2.1
        · simp only [decide_eq_true_eq]; exact c
  exact key 30 0 ρ2 rfl hB2 (fun j hj => by rw [hz j (by omega), balE_0]; rfl) rfl
theorem h_broke : H_broke Rel := by
  intro σ τ x1 hrel
  obtain ⟨α, hw, hC, hR⟩ := hrel
  refine sp_P_broke hw hC (fun h hh e => ?_) (fun n => ?_)
  · exact sp_R_isHouse hw hR.1 (fun ρ hB hd _ => br_f one0 (by rw [e]; exact sp_R_brokeOf hw (hR.ps hB.ps) hh (fun ρ2 hR2 _ => ⟨rfl, α, hw, hC, hR2⟩))) (fun _ _ _ z => absurd ⟨h, hh, e⟩ z)
  · exact sp_R_isHouse hw hR.1 (fun ρ hB hd q => absurd q n) (fun ρ hB _ _ => br_t rfl ⟨rfl, α, hw, hC, hR.ps hB.ps⟩)
