/-! another street: build, fair, leaked; what was seen -/
theorem itr_S {A : Type} {f : Nat → A → A} : ∀ {n lo : Nat} {s : A}, itr f lo (n + 1) s = f (lo + n) (itr f lo n s) := by
  intro n
  induction n with
  | zero => intro lo s; rfl
  | succ n ih =>
    intro lo s
    show itr f (lo + 1) (n + 1) (f lo s) = f (lo + (n + 1)) (itr f (lo + 1) n (f lo s))
    rw [ih, show lo + 1 + n = lo + (n + 1) by omega]
abbrev stU (α : Abs) (mu rt w : Nat → Nat) : Nat → Nat → Nat := dueN (nH α) (hK α) mu (hJ α) rt w
theorem ldN_U {α : Abs} {U U' : Nat → Nat → Nat} {T : Nat → Bool} {C C' : Nat → Nat → Bool} {k : Nat} : ∀ n, ldN (ctU α U T C) k n = ldN (ctU α U' T C') k n := by
  intro n
  induction n with
  | zero => rfl
  | succ n ih =>
    show (ldN (ctU α U T C) k n && okj (ctU α U T C) k n) = (ldN (ctU α U' T C') k n && okj (ctU α U' T C') k n)
    rw [ih]; rfl
theorem BtL_U {α : Abs} {U U' : Nat → Nat → Nat} {T : Nat → Bool} {C C' : Nat → Nat → Bool} {l : Nat} (h : BtL (ctU α U T C) l) : BtL (ctU α U' T C') l := by
  refine ⟨h.1, fun k hk => ?_⟩
  rw [h.2 k hk]
  show (T k && ldN (ctU α U T C) k (aS α)) = (T k && ldN (ctU α U' T C') k (aS α))
  rw [ldN_U]
theorem RC.re {σ ρ : Hp} {α : Abs} (hC : RC σ α) (hB : Bt [16, 17] σ ρ) (hd : RCd ρ α) : RC ρ α := by
  obtain ⟨c1, ⟨d1, d2, d3, d4, d5⟩, c3, c4, c5, c6⟩ := hC
  refine ⟨c1.bt hB (fun o ho => by simp; omega), ⟨d1.bt hB (by simp; omega), d2.bt hB (by simp), d3.bt hB (by simp), d4.bt hB (by simp; omega), hd⟩, c3.bt hB (by simp; omega), c4.bt hB (by simp; omega), c5.bt hB (by simp; omega), ?_⟩
  rw [hB 0 (by decide)]; exact c6
/-- prices anew, over another street -/
theorem sp_price {σ0 σ : Hp} {α : Abs} {mu rt w : Nat → Nat} {P : Hp → Prop} (hw : WF α) (hC : RC σ0 α) (hs : StC σ (nH α) (hK α) mu (hJ α) rt w) (hB : Bt [16, 17, 22, 25, 26] σ0 σ) (h : ∀ ρ, Bt [17] σ ρ → (∀ T, PC ρ (ctU α (stU α mu rt w) T (cld α))) → P ρ) : wp_D_priceSuits σ P := by
  have hk : RCk σ α := hC.2.1.2.2.2.1.bt hB (by simp; omega)
  refine sp_D_priceSuits hw hk hs (fun ρ hB2 hd => h ρ hB2 (fun T => ⟨⟨?_, ?_⟩, ?_, hd, ?_⟩))
  · rw [hB2 4 (by decide)]; exact hs.1.2
  · rw [hB2 5 (by decide)]; exact hk.1
  · show ∀ k, k < aS α → ρ 27 k = nI (aD α k) ∧ ρ 28 k = nI (aY α k) ∧ ρ 29 k = nI (aX α k)
    rw [hB2 27 (by decide), hB2 28 (by decide), hB2 29 (by decide)]; exact hk.2
  · show ∀ h, h < 8 → ∃ m : Nat, ρ 32 h = nI m ∧ m < 2 ^ 30 ∧ ∀ d, d < 30 → m.testBit d = cld α h d
    rw [hB2 32 (by decide), hB 32 (by decide)]; exact hC.2.2.1.2.2
/-- the prices as they are told -/
theorem sp_price0 {σ0 σ : Hp} {α : Abs} {P : Hp → Prop} (hw : WF α) (hC : RC σ0 α) (hB : Bt [16, 17] σ0 σ) (h : ∀ ρ, RC ρ α → P ρ) : wp_D_priceSuits σ P := by
  have hk : RCk σ α := hC.2.1.2.2.2.1.bt hB (by simp; omega)
  have hs := (StC_of hw hC.2.1.1 hC.2.1.2.1 hC.2.1.2.2.1).bt hB (by simp; omega)
  refine sp_D_priceSuits hw hk hs (fun ρ hB2 hd => h ρ (hC.re (hB.tr (hB2.mono (by decide))) ?_))
  exact hd
theorem bal_Ubound {γ : Dc} (hw : WD γ) (last h : Nat) : (balI γ last h).toInt = balZ γ last h ∧ -20736 ≤ balZ γ last h ∧ balZ γ last h ≤ 20736 := by
  have hH := hw.1.1
  have hb := fb_si_bound (f := fun k => if k = h then 0 else (wonN γ last h k : Int) - wonN γ last k h) (c := 2592) (n := gH γ) (by decide) (fun k _ => by
    have h1 := wonN_le hw last h k
    have h2 := wonN_le hw last k h
    split <;> omega)
  have hb2 : -20736 ≤ balZ γ last h ∧ balZ γ last h ≤ 20736 := by
    unfold balZ
    omega
  refine ⟨?_, hb2⟩
  unfold balI
  rw [Int32.toInt_ofInt]
  exact fb_bmod (by omega) (by omega)
theorem mx0_toInt (b : Int32) : (mx0 b).toInt = max 0 b.toInt := by
  unfold mx0
  by_cases c : 0 < b
  · rw [if_pos c]
    rw [Int32.lt_iff_toInt_lt] at c
    have e0 : (0 : Int32).toInt = 0 := by decide
    omega
  · rw [if_neg c]
    rw [Int32.lt_iff_toInt_lt] at c
    have e0 : (0 : Int32).toInt = 0 := by decide
    omega
theorem coin_pos {b : Nat → Int32} {n : Nat} (hn : n ≤ 8) (hb : ∀ k, k < n → (b k).toInt ≤ 20736) : 0 ≤ (coinV b n).toInt := by
  have key : ∀ m lo (s : Int32), lo + m = n → 0 ≤ s.toInt → s.toInt ≤ lo * 20736 → 0 ≤ (itr (fun k s => s + mx0 (b k)) lo m s).toInt := by
    intro m
    induction m with
    | zero => intro lo s _ h1 _; exact h1
    | succ m ih =>
      intro lo s hl h1 h2
      have hm := mx0_toInt (b lo)
      have h3 := hb lo (by omega)
      have e : (s + mx0 (b lo)).toInt = s.toInt + (mx0 (b lo)).toInt := by
        rw [Int32.toInt_add]
        exact fb_bmod (by omega) (by omega)
      refine ih (lo + 1) _ (by omega) ?_ ?_
      · rw [e]; omega
      · rw [e]; push_cast; omega
  exact key n 0 0 (by omega) (by decide) (by decide)
-- build
abbrev T1 : Nat → Bool := fun _ => true
def bdF (f : Nat → Nat → Int32) (v w : Nat) (s : Int32 × Int32 × Int32) : Int32 × Int32 × Int32 := if s.1 = -1 ∨ s.2.2 < f v w then (nI w, nI v, f v w) else s
def bdV (f : Nat → Nat → Int32) (H : Nat) : Int32 × Int32 × Int32 := itr (fun v s => itr (bdF f v) 0 (H - 1) s) 0 10 (-1, -1, -100000)
def bdX (s : Int32 × Int32 × Int32) (x : Int32) : Int32 := if x = 0 then s.1 else if x = 1 then s.2.1 else s.2.2
def bdf (α : Abs) (last h v w : Nat) : Int32 := balI (ctU α (stU α (hM α) (rT α) (upN (aW α) w v)) T1 (cld α)) last h
def bdA (α : Abs) (last h : Nat) (x : Int32) : Int32 := bdX (bdV (bdf α last h) (nH α)) x
theorem bd_w {α : Abs} (hw : WF α) {w v : Nat} (hv : v < 10) : ∀ i, i < 7 → upN (aW α) w v i < 10 := by
  intro i hi
  unfold upN
  split
  · exact hv
  · exact hw.2.1 i hi
theorem sp_P_buildL {σ : Hp} {α : Abs} {last h l : Nat} {x : Int32} {P : Int32 → Hp → Prop} (hw : WF α) (hC : RC σ α) (hl : last < 30) (hh : h < nH α) (hL : BtL (ctA α) l) (h1 : ∀ ρ, RC ρ α → P (bdA α last h x) ρ) : j_P_build_49 P σ (nI last) (nI h) x (nI l) (-1) (-1) (-100000) 0 := by
  have hH := nH_le hw
  have e46 : ∀ ρ, Bt [17] σ ρ → ρ 4 6 = nI (nH α) := fun ρ hB => by rw [hB 4 (by decide)]; exact hC.2.1.1.1
  have hS := StC_of hw hC.2.1.1 hC.2.1.2.1 hC.2.1.2.2.1
  intro I hI
  have key : ∀ (m v : Nat) (s : Int32 × Int32 × Int32) (ρ : Hp), v + m = 10 → Bt [17] σ ρ → itr (fun v s => itr (bdF (bdf α last h) v) 0 (nH α - 1) s) v m s = bdV (bdf α last h) (nH α) → I ρ (nI last) (nI h) x (nI l) s.1 s.2.1 s.2.2 (nI v) := by
    intro m
    induction m with
    | zero =>
      intro v s ρ hv hB hs
      have : v = 10 := by omega
      subst this
      have hs : s = bdV (bdf α last h) (nH α) := hs
      subst hs
      apply hI
      refine pk_le 10 10 (fun _ => sp_price0 hw hC (hB.mono (by decide)) (fun ρ2 hC2 => ?_)) (fun c => absurd c (by omega))
      have h1 := h1 ρ2 hC2
      unfold bdA bdX at h1
      refine ⟨fun c => ⟨fun c2 => ?_, fun c2 => ?_⟩, fun c => ?_⟩
      · rw [if_neg c, if_neg c2] at h1; exact h1
      · rw [if_neg c, if_pos c2] at h1; exact h1
      · rw [if_pos c] at h1; exact h1
    | succ m ih =>
      intro v s ρ hv hB hs
      apply hI
      refine pk_le 10 v (fun c => absurd c (by omega)) (fun _ => ?_)
      intro J hJJ
      have key2 : ∀ (m2 w : Nat) (s : Int32 × Int32 × Int32) (ρ : Hp), w + m2 = nH α - 1 → Bt [17] σ ρ → itr (fun v s => itr (bdF (bdf α last h) v) 0 (nH α - 1) s) (v + 1) m (itr (bdF (bdf α last h) v) w m2 s) = bdV (bdf α last h) (nH α) → J ρ (nI last) (nI h) x (nI l) s.1 s.2.1 s.2.2 (nI v) (nI w) := by
        intro m2
        induction m2 with
        | zero =>
          intro w s ρ hw2 hB hs
          apply hJJ
          unfold b_P_build_59_
          rw [e46 ρ hB, show nI w + 1 = nI (w + 1) from nI_1 w]
          refine pk_le (nH α) (w + 1) (fun _ v3 e3 => ?_) (fun c => absurd c (by omega))
          rw [e3, show nI v + 1 = nI (v + 1) from nI_1 v]
          exact ih (v + 1) s ρ (by omega) hB hs
        | succ m2 ih2 =>
          intro w s ρ hw2 hB hs
          have ih2 := fun s' ρ' => ih2 (w + 1) s' ρ' (by omega)
          have hs : itr (fun v s => itr (bdF (bdf α last h) v) 0 (nH α - 1) s) (v + 1) m (itr (bdF (bdf α last h) v) (w + 1) m2 (bdF (bdf α last h) v w s)) = bdV (bdf α last h) (nH α) := hs
          unfold bdF at hs
          apply hJJ
          unfold b_P_build_59_
          rw [e46 ρ hB, show nI w + 1 = nI (w + 1) from nI_1 w, ixn (show w < 2 ^ 31 by omega)]
          refine pk_le (nH α) (w + 1) (fun c => absurd c (by omega)) (fun _ => ⟨pk_in w 7 (by omega), fun v5 e5 => ⟨pk_in w 7 (by omega), ?_⟩⟩)
          have hS2 := hS.bt hB (by simp; omega)
          have hS3 : StC (st ρ 26 w (nI v)) (nH α) (hK α) (hM α) (hJ α) (rT α) (upN (aW α) w v) := by
            obtain ⟨a1, a2, a3, a4⟩ := hS2
            refine ⟨⟨a1.1, ?_⟩, ?_, ?_, fun i hi => ⟨?_, bd_w hw (by omega) i hi⟩⟩
            · rw [st_ne _ _ _ (by decide)]; exact a1.2
            · rw [st_ne _ _ _ (by decide), st_ne _ _ _ (by decide), st_ne _ _ _ (by decide)]; exact a2
            · rw [st_ne _ _ _ (by decide)]; exact a3
            · rw [st_at]; unfold upd upN
              by_cases e : i = w
              · rw [if_pos e, if_pos e]
              · rw [if_neg e, if_neg e]; exact (a4 i hi).1
          refine sp_price hw hC hS3 ((hB.mono (by decide)).st (by decide)) (fun ρ2 hB2 hP2 => ?_)
          refine sp_D_balanceOf (γ := ctU α (stU α (hM α) (rT α) (upN (aW α) w v)) T1 (cld α)) (WD_ctU hw _ _ _ (fun i hi => hM_le hi) (fun k _ => rT_le k) _ _) (hP2 T1) (BtL_U hL) hl hh ⟨pk_in w 7 (by omega), ?_⟩
          have hB3 : Bt [17] σ (st ρ2 26 w v5) := by
            intro o ho
            by_cases e : o = 26
            · subst e
              rw [st_at, hB2 26 (by decide), st_at, e5]
              funext i
              unfold upd
              by_cases e2 : i = w
              · rw [if_pos e2, e2, hB 26 (by decide)]
              · rw [if_neg e2, if_neg e2, hB 26 (by decide)]
            · rw [st_ne _ _ _ e, hB2 o ho, st_ne _ _ _ e, hB o ho]
          have yes : (s.1 = -1 ∨ s.2.2 < bdf α last h v w) → j_P_build_145 P I J (st ρ2 26 w v5) (nI last) (nI h) x (nI l) (nI v) (nI w) (bdf α last h v w) := by
            intro c v1 e1
            rw [if_pos c] at hs
            rw [e1, show nI w + 1 = nI (w + 1) from nI_1 w]
            exact ih2 _ _ hB3 hs
          refine ⟨fun c => yes (Or.inl c), fun c => ⟨fun c2 => yes (Or.inr c2), fun c2 v14 e14 => ?_⟩⟩
          have no : ¬ (s.1 = -1 ∨ s.2.2 < bdf α last h v w) := fun z => z.elim c c2
          rw [if_neg no] at hs
          rw [e14]
          exact ih2 _ _ hB3 hs
      exact key2 (nH α - 1) 0 s ρ (by omega) hB hs
  exact key 10 0 (-1, -1, -100000) σ rfl (Bt.rf _ _) rfl
theorem isD3_of {x : Int32} (c : ¬ x < 0) (c2 : x ≤ 2) : isD x 3 := by
  refine (isD_iff (by decide)).mpr ⟨c, fun z => ?_⟩
  have e3 : nI 3 = (3 : Int32) := rfl
  rw [e3, Int32.le_iff_toInt_le] at z
  rw [Int32.le_iff_toInt_le] at c2
  have a : (2 : Int32).toInt = 2 := by decide
  have b : (3 : Int32).toInt = 3 := by decide
  omega
theorem isD3_le {x : Int32} (h : isD x 3) : ¬ x < 0 ∧ x ≤ 2 := by
  obtain ⟨k, hk, rfl⟩ := h
  refine ⟨nI_pos (by omega), ?_⟩
  rcases (show k = 0 ∨ k = 1 ∨ k = 2 by omega) with rfl | rfl | rfl <;> decide
theorem sp_P_build {σ : Hp} {α : Abs} {d a x : Int32} {P : Int32 → Hp → Prop} (hw : WF α) (hC : RC σ α) (h1 : ∀ last h ρ, last < 30 → h < nH α → d = nI last → a = nI h → isD x 3 → RC ρ α → P (bdA α last h x) ρ) (h0 : ¬ (isD d 30 ∧ isD a (nH α) ∧ isD x 3) → P (-100002) σ) : wp_P_build σ d a x P := by
  refine sp_P_isDay (fun q0 => br_f one0 ?_) (fun q => br_t rfl (h0 (fun z => q z.1)))
  refine sp_P_isHouse hw hC.2.1.1 (fun q1 => br_f one0 ⟨fun c => h0 (fun z => (isD3_le z.2.2).1 c), fun c => ⟨fun c2 => ?_, fun c2 => h0 (fun z => c2 (isD3_le z.2.2).2)⟩⟩) (fun q => br_t rfl (h0 (fun z => q z.2.1)))
  obtain ⟨last, hl, rfl⟩ := q0
  obtain ⟨h, hh, rfl⟩ := q1
  exact sp_K_leadingOfAll (γ := ctA α) (WD_ctx hw _) (PC_ctx hC _) (fun _ _ => rfl) (fun l hL => sp_P_buildL hw hC hl hh hL (fun ρ hC2 => h1 last h ρ hl hh rfl rfl (isD3_of c c2) hC2))
/-- the reference, over another street -/
theorem sp_R_laysU {τ : Hp} {α : Abs} {mu rt w : Nat → Nat} {T : Nat → Bool} {C : Nat → Nat → Bool} {dr : Nat} {P : Hp → Prop} (hw : WF α) (hm : ∀ i, i < nH α → mu i ≤ 9) (hr : ∀ k, k < 3 → rt k ≤ 9) (hs : StR τ (nH α) (hK α) mu (hJ α) rt w) (hk : RRk τ α) (hdr : τ 0 17 = nI dr ∧ dr < 2 ^ 31 ∧ ∀ k, k < aS α → dr.testBit k = !T k) (hc : ∀ y d, y < 8 → d < 30 → τ 14 (30 * y + d) = if C y d = true then 1 else 0) (h : ∀ ρ, Bt [15, 16] τ ρ → PR ρ (ctU α (stU α mu rt w) T C) → P ρ) : wp_R_lays τ P :=
  sp_R_lays (γ := ctU α (stU α mu rt w) T C) (WD_ctU hw mu rt w hm hr T C) hs (fun _ _ _ _ _ => rfl) hk hdr hc h
/-- between the tries: as behind asTold, but for what lays and balances write -/
def Tld (τ0 τ : Hp) : Prop := Bt [15, 16, 17] τ0 τ
theorem sp_R_buildOf {τ : Hp} {α : Abs} {last h : Nat} {x : Int32} {P : Int32 → Hp → Prop} (hw : WF α) (hR : RR τ α) (hl : last < 30) (hh : h < nH α) (h1 : ∀ ρ, RR ρ α → Rd ρ α → P (bdA α last h x) ρ) : wp_R_buildOf τ (nI last) (nI h) x P := by
  have hH := nH_le hw
  refine sp_R_asTold hw hR (fun τ0 hT e17 => ?_)
  have hSR := StR_of hw hT.1 hT.2.1
  have e02 : ∀ ρ, Bt [15, 16] τ0 ρ → ρ 0 2 = nI (nH α) := fun ρ hB => by rw [hB 0 (by decide)]; exact hT.2.1.1.1
  intro I hI
  have key : ∀ (m v : Nat) (s : Int32 × Int32 × Int32) (ρ : Hp), v + m = 10 → Bt [15, 16] τ0 ρ → itr (fun v s => itr (bdF (bdf α last h) v) 0 (nH α - 1) s) v m s = bdV (bdf α last h) (nH α) → I ρ (nI last) (nI h) x s.1 s.2.1 s.2.2 (nI v) := by
    intro m
    induction m with
    | zero =>
      intro v s ρ hv hB hs
      have : v = 10 := by omega
      subst this
      have hs : s = bdV (bdf α last h) (nH α) := hs
      subst hs
      have hT2 := hT.fr (hB.mono (by decide))
      have h1 := h1 ρ hT2.1 hT2.2.1
      apply hI
      refine pk_le 10 10 (fun _ => ?_) (fun c => absurd c (by omega))
      unfold bdA bdX at h1
      refine ⟨fun c => ⟨fun c2 => ?_, fun c2 => ?_⟩, fun c => ?_⟩
      · rw [if_neg c, if_neg c2] at h1; exact h1
      · rw [if_neg c, if_pos c2] at h1; exact h1
      · rw [if_pos c] at h1; exact h1
    | succ m ih =>
      intro v s ρ hv hB hs
      apply hI
      refine pk_le 10 v (fun c => absurd c (by omega)) (fun _ => ?_)
      intro J hJJ
      have key2 : ∀ (m2 w : Nat) (s : Int32 × Int32 × Int32) (ρ : Hp), w + m2 = nH α - 1 → Bt [15, 16] τ0 ρ → itr (fun v s => itr (bdF (bdf α last h) v) 0 (nH α - 1) s) (v + 1) m (itr (bdF (bdf α last h) v) w m2 s) = bdV (bdf α last h) (nH α) → J ρ (nI last) (nI h) x s.1 s.2.1 s.2.2 (nI v) (nI w) := by
        intro m2
        induction m2 with
        | zero =>
          intro w s ρ hw2 hB hs
          apply hJJ
          unfold b_R_buildOf_27_
          rw [e02 ρ hB, show nI (nH α) - 1 = nI (nH α - 1) from pk_sub (b := 1) (by omega)]
          refine pk_le (nH α - 1) w (fun _ v3 e3 => ?_) (fun c => absurd c (by omega))
          rw [e3, show nI v + 1 = nI (v + 1) from nI_1 v]
          exact ih (v + 1) s ρ (by omega) hB hs
        | succ m2 ih2 =>
          intro w s ρ hw2 hB hs
          have ih2 := fun s' ρ' => ih2 (w + 1) s' ρ' (by omega)
          have hs : itr (fun v s => itr (bdF (bdf α last h) v) 0 (nH α - 1) s) (v + 1) m (itr (bdF (bdf α last h) v) (w + 1) m2 (bdF (bdf α last h) v w s)) = bdV (bdf α last h) (nH α) := hs
          unfold bdF at hs
          apply hJJ
          unfold b_R_buildOf_27_
          rw [e02 ρ hB, show nI (nH α) - 1 = nI (nH α - 1) from pk_sub (b := 1) (by omega), ixn (show w < 2 ^ 31 by omega)]
          refine pk_le (nH α - 1) w (fun c => absurd c (by omega)) (fun _ => ⟨pk_in w 7 (by omega), fun v9 e9 => ⟨pk_in w 7 (by omega), ?_⟩⟩)
          have hS2 := hSR.bt hB (by rw [hB 0 (by decide)]) (by simp; omega)
          have hS3 : StR (st ρ 8 w (nI v)) (nH α) (hK α) (hM α) (hJ α) (rT α) (upN (aW α) w v) := by
            obtain ⟨a1, a2, a3, a4⟩ := hS2
            refine ⟨⟨a1.1, ?_⟩, ?_, ?_, fun i hi => ⟨?_, bd_w hw (by omega) i hi⟩⟩
            · rw [st_ne _ _ _ (by decide)]; exact a1.2
            · rw [st_ne _ _ _ (by decide), st_ne _ _ _ (by decide), st_ne _ _ _ (by decide)]; exact a2
            · rw [st_ne _ _ _ (by decide)]; exact a3
            · rw [st_at]; unfold upd upN
              by_cases e : i = w
              · rw [if_pos e, if_pos e]
              · rw [if_neg e, if_neg e]; exact (a4 i hi).1
          have hk : RRk (st ρ 8 w (nI v)) α := by
            unfold RRk
            rw [st_ne _ _ _ (by decide), st_ne _ _ _ (by decide), st_ne _ _ _ (by decide), st_ne _ _ _ (by decide), hB 0 (by decide), hB 9 (by decide), hB 10 (by decide), hB 11 (by decide)]
            exact hT.1.2.2.1
          refine sp_R_laysU (dr := 0) (T := T1) (C := cld α) hw (fun i hi => hM_le hi) (fun k _ => rT_le k) hS3 hk ⟨?_, by decide, fun k _ => by simp⟩ (fun y d hy hd => ?_) (fun ρ2 hB2 hP2 => ?_)
          · rw [st_ne _ _ _ (by decide), hB 0 (by decide)]; exact e17
          · rw [st_ne _ _ _ (by decide), hB 14 (by decide)]; exact hT.2.2 y d hy hd
          refine sp_R_balanceNow (γ := ctU α (stU α (hM α) (rT α) (upN (aW α) w v)) T1 (cld α)) (WD_ctU hw _ _ _ (fun i hi => hM_le hi) (fun k _ => rT_le k) _ _) hP2 hl hh ⟨pk_in w 7 (by omega), ?_⟩
          have hB3 : Bt [15, 16] τ0 (st ρ2 8 w v9) := by
            intro o ho
            by_cases e : o = 8
            · subst e
              rw [st_at, hB2 8 (by decide), st_at, e9]
              funext i
              unfold upd
              by_cases e2 : i = w
              · rw [if_pos e2, e2, hB 8 (by decide)]
              · rw [if_neg e2, if_neg e2, hB 8 (by decide)]
            · rw [st_ne _ _ _ e, hB2 o ho, st_ne _ _ _ e, hB o ho]
          have yes : (s.1 = -1 ∨ s.2.2 < bdf α last h v w) → j_R_buildOf_90 P I J (st ρ2 8 w v9) (nI last) (nI h) x s.1 s.2.1 s.2.2 (nI v) (nI w) (bdf α last h v w) := by
            intro c
            rw [if_pos c] at hs
            refine br_f one0 (br_f one0 (br_f one0 (fun v1 e1 => ?_)))
            rw [e1, show nI w + 1 = nI (w + 1) from nI_1 w]
            exact ih2 _ _ hB3 hs
          refine ⟨fun c => yes (Or.inl c), fun c => ⟨fun c2 => br_t rfl (br_t rfl (br_t rfl (fun v14 e14 => ?_))), fun c2 => yes (Or.inr (Int32.not_le.mp c2))⟩⟩
          have no : ¬ (s.1 = -1 ∨ s.2.2 < bdf α last h v w) := fun z => z.elim c (Int32.not_lt.mpr c2)
          rw [if_neg no] at hs
          rw [e14, show nI w + 1 = nI (w + 1) from nI_1 w]
          exact ih2 _ _ hB3 hs
      exact key2 (nH α - 1) 0 s ρ (by omega) hB hs
  exact key 10 0 (-1, -1, -100000) τ0 rfl (Bt.rf _ _) rfl
theorem h_build : H_build Rel := by
  intro σ τ x1 x2 x3 hrel
  obtain ⟨α, hw, hC, hR⟩ := hrel
  refine sp_P_build hw hC (fun last h ρ hl hh e1 e2 q3 hC2 => ?_) (fun n => ?_)
  · exact sp_R_isDay (fun _ => br_f one0 (sp_R_isHouse hw hR.1 (fun ρ2 hB hd _ => br_f one0 (sp_R_in 2 rfl (by decide) (fun _ => br_f one0 (by rw [e1, e2]; exact sp_R_buildOf hw (hR.ps hB.ps) hl hh (fun ρ3 hR3 _ => ⟨rfl, α, hw, hC2, hR3⟩))) (fun z => absurd q3 z))) (fun _ _ _ z => absurd ⟨h, hh, e2⟩ z))) (fun z => absurd ⟨last, hl, e1⟩ z)
  · exact sp_R_isDay (fun q1 => br_f one0 (sp_R_isHouse hw hR.1 (fun ρ2 hB hd q2 => br_f one0 (sp_R_in 2 rfl (by decide) (fun q3 => absurd ⟨q1, q2, q3⟩ n) (fun _ => br_t rfl ⟨rfl, α, hw, hC, hR.ps hB.ps⟩))) (fun ρ2 hB hd _ => br_t rfl ⟨rfl, α, hw, hC, hR.ps hB.ps⟩))) (fun _ => br_t rfl ⟨rfl, α, hw, hC, hR⟩)
