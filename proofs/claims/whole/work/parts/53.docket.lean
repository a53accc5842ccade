/-! suit, shut, back, read, seen -/
abbrev KT : Type := Nat × (Nat → Nat) × (Nat → Nat) × (Nat → Nat)
abbrev ZT : Type := Nat × (Nat → Nat) × (Nat → Nat)
abbrev ET : Type := Nat × (Nat → Nat) × (Nat → Nat) × (Nat → Int32)
def setK (α : Abs) (k : KT) : Abs := (α.1, α.2.1, k, α.2.2.2)
def setZ (α : Abs) (z : ZT) : Abs := (α.1, α.2.1, α.2.2.1, z, α.2.2.2.2)
def setE (α : Abs) (e : ET) : Abs := (α.1, α.2.1, α.2.2.1, α.2.2.2.1, e, α.2.2.2.2.2)
theorem RC_setK {σ ρ : Hp} {α : Abs} {k : KT} (h : RC σ α) (hB : Bt [5, 17, 27, 28, 29] σ ρ) (h57 : ρ 5 7 = σ 5 7) (hk : RCk ρ (setK α k)) (hd : RCd ρ (setK α k)) : RC ρ (setK α k) := by
  obtain ⟨c1, ⟨d1, d2, d3, d4, d5⟩, c3, c4, c5, c6⟩ := h
  refine ⟨RCt.bt (α := α) c1 hB (by simp), ⟨RCs.bt (α := α) d1 hB (by simp; omega), RCr.bt (α := α) d2 hB (by simp), RCw.bt (α := α) d3 hB (by decide), hk, hd⟩, ?_, RCe.bt (α := α) c4 hB (by simp; omega), RCh.bt (α := α) c5 hB (by simp; omega), ?_⟩
  · have : RCz ρ α := by
      unfold RCz at *
      rw [h57, hB 30 (by decide), hB 31 (by decide), hB 32 (by decide)]; exact c3
    exact this
  · rw [hB 0 (by decide)]; exact c6
theorem RC_setZ {σ ρ : Hp} {α : Abs} {z : ZT} (h : RC σ α) (hB : Bt [5, 30, 31, 32] σ ρ) (h56 : ρ 5 6 = σ 5 6) (hz : RCz ρ (setZ α z)) : RC ρ (setZ α z) := by
  obtain ⟨c1, ⟨d1, d2, d3, d4, d5⟩, c3, c4, c5, c6⟩ := h
  refine ⟨RCt.bt (α := α) c1 hB (by simp), ⟨RCs.bt (α := α) d1 hB (by simp; omega), RCr.bt (α := α) d2 hB (by simp), RCw.bt (α := α) d3 hB (by decide), ?_, RCd.bt (α := α) d5 hB (by decide)⟩, hz, RCe.bt (α := α) c4 hB (by simp; omega), RCh.bt (α := α) c5 hB (by simp; omega), ?_⟩
  · have : RCk ρ α := by
      unfold RCk at *
      rw [h56, hB 27 (by decide), hB 28 (by decide), hB 29 (by decide)]; exact d4
    exact this
  · rw [hB 0 (by decide)]; exact c6
theorem RC_setE {σ ρ : Hp} {α : Abs} {e : ET} (h : RC σ α) (hB : Bt [6, 33, 34, 35] σ ρ) (he : RCe ρ (setE α e)) : RC ρ (setE α e) := by
  obtain ⟨c1, ⟨d1, d2, d3, d4, d5⟩, c3, c4, c5, c6⟩ := h
  refine ⟨RCt.bt (α := α) c1 hB (by simp), ⟨RCs.bt (α := α) d1 hB (by simp; omega), RCr.bt (α := α) d2 hB (by simp), RCw.bt (α := α) d3 hB (by decide), RCk.bt (α := α) d4 hB (by simp; omega), RCd.bt (α := α) d5 hB (by decide)⟩, RCz.bt (α := α) c3 hB (by simp; omega), he, RCh.bt (α := α) c5 hB (by simp; omega), ?_⟩
  rw [hB 0 (by decide)]; exact c6
theorem RR_setK {τ ρ : Hp} {α : Abs} {k : KT} (h : RR τ α) (hB : Bt [0, 9, 10, 11] τ ρ) (h0 : ∀ j, j ≠ 10 → ρ 0 j = τ 0 j) (hk : RRk ρ (setK α k)) : RR ρ (setK α k) := by
  obtain ⟨r1, r2, r3, r4, r5, r6, r7⟩ := h
  refine ⟨?_, ?_, hk, ?_, ?_, ?_, ?_⟩
  · have : RRt ρ α := by unfold RRt at *; rw [hB 1 (by decide), hB 2 (by decide)]; exact r1
    exact this
  · have : RRw ρ α := by unfold RRw at *; rw [hB 8 (by decide)]; exact r2
    exact this
  · have : RRz ρ α := by unfold RRz at *; rw [h0 14 (by decide), hB 12 (by decide), hB 13 (by decide)]; exact r4
    exact this
  · have : RRe ρ α := by unfold RRe at *; rw [h0 24 (by decide), hB 20 (by decide), hB 21 (by decide), hB 22 (by decide)]; exact r5
    exact this
  · have : RRh ρ α := by unfold RRh at *; rw [hB 24 (by decide), hB 25 (by decide), hB 26 (by decide), hB 27 (by decide)]; exact r6
    exact this
  · rw [h0 34 (by decide)]; exact r7
theorem RR_setZ {τ ρ : Hp} {α : Abs} {k : ZT} (h : RR τ α) (hB : Bt [0, 12, 13] τ ρ) (h0 : ∀ j, j ≠ 14 → ρ 0 j = τ 0 j) (hk : RRz ρ (setZ α k)) : RR ρ (setZ α k) := by
  obtain ⟨r1, r2, r3, r4, r5, r6, r7⟩ := h
  refine ⟨?_, ?_, ?_, hk, ?_, ?_, ?_⟩
  · have : RRt ρ α := by unfold RRt at *; rw [hB 1 (by decide), hB 2 (by decide)]; exact r1
    exact this
  · have : RRw ρ α := by unfold RRw at *; rw [hB 8 (by decide)]; exact r2
    exact this
  · have : RRk ρ α := by unfold RRk at *; rw [h0 10 (by decide), hB 9 (by decide), hB 10 (by decide), hB 11 (by decide)]; exact r3
    exact this
  · have : RRe ρ α := by unfold RRe at *; rw [h0 24 (by decide), hB 20 (by decide), hB 21 (by decide), hB 22 (by decide)]; exact r5
    exact this
  · have : RRh ρ α := by unfold RRh at *; rw [hB 24 (by decide), hB 25 (by decide), hB 26 (by decide), hB 27 (by decide)]; exact r6
    exact this
  · rw [h0 34 (by decide)]; exact r7
theorem RR_setE {τ ρ : Hp} {α : Abs} {k : ET} (h : RR τ α) (hB : Bt [0, 20, 21, 22] τ ρ) (h0 : ∀ j, j ≠ 24 → ρ 0 j = τ 0 j) (hk : RRe ρ (setE α k)) : RR ρ (setE α k) := by
  obtain ⟨r1, r2, r3, r4, r5, r6, r7⟩ := h
  refine ⟨?_, ?_, ?_, ?_, hk, ?_, ?_⟩
  · have : RRt ρ α := by unfold RRt at *; rw [hB 1 (by decide), hB 2 (by decide)]; exact r1
    exact this
  · have : RRw ρ α := by unfold RRw at *; rw [hB 8 (by decide)]; exact r2
    exact this
  · have : RRk ρ α := by unfold RRk at *; rw [h0 10 (by decide), hB 9 (by decide), hB 10 (by decide), hB 11 (by decide)]; exact r3
    exact this
  · have : RRz ρ α := by unfold RRz at *; rw [h0 14 (by decide), hB 12 (by decide), hB 13 (by decide)]; exact r4
    exact this
  · have : RRh ρ α := by unfold RRh at *; rw [hB 24 (by decide), hB 25 (by decide), hB 26 (by decide), hB 27 (by decide)]; exact r6
    exact this
  · rw [h0 34 (by decide)]; exact r7
def upN {A : Type} (f : Nat → A) (n : Nat) (v : A) : Nat → A := fun i => if i = n then v else f i
def addK (α : Abs) (d y x : Nat) : Abs := setK α (aS α + 1, upN (aD α) (aS α) d, upN (aY α) (aS α) y, upN (aX α) (aS α) x)
def addZ (α : Abs) (d h : Nat) : Abs := setZ α (aZ α + 1, upN (aZd α) (aZ α) d, upN (aZh α) (aZ α) h)
def addE (α : Abs) (d h : Nat) (m : Int32) : Abs := setE α (aE α + 1, upN (aEd α) (aE α) d, upN (aEh α) (aE α) h, upN (aEm α) (aE α) m)
theorem WF_addK {α : Abs} {d y x : Nat} (hw : WF α) (hS : aS α < 12) (hd : d < 30) (hy : y < 8) (hx : x < 8) (hn : y ≠ x) : WF (addK α d y x) := by
  refine ⟨hw.1, hw.2.1, ⟨by show aS α + 1 ≤ 12; omega, fun i hi => ?_⟩, hw.2.2.2⟩
  have hi : i < aS α + 1 := hi
  show upN (aD α) (aS α) d i < 30 ∧ upN (aY α) (aS α) y i < 8 ∧ upN (aX α) (aS α) x i < 8 ∧ upN (aY α) (aS α) y i ≠ upN (aX α) (aS α) x i
  unfold upN
  by_cases e : i = aS α
  · rw [if_pos e, if_pos e, if_pos e]; exact ⟨hd, hy, hx, hn⟩
  · rw [if_neg e, if_neg e, if_neg e]; exact hw.2.2.1.2 i (by omega)
theorem st_up {ρ : Hp} {o k i : Nat} {v : Int32} (hk : k < 2 ^ 31) : st ρ o (ix (nI k)) v o i = if i = k then v else ρ o i := st_ix hk
theorem sp_K_addSuit {σ : Hp} {α : Abs} {d y x : Nat} {P : Int32 → Hp → Prop} (hw : WF α) (hC : RC σ α) (hS : aS α < 12) (hd : d < 30) (hy : y < 8) (hx : x < 8) (hn : y ≠ x) (h : ∀ ρ, WF (addK α d y x) → RC ρ (addK α d y x) → P (nI (aS α + 1)) ρ) : wp_K_addSuit σ (nI d) (nI y) (nI x) (fun t13 : Hp => wp_D_priceSuits t13 (fun t15 : Hp => P (t15 5 6) t15)) := by
  have hw2 := WF_addK hw hS hd hy hx hn
  have e6 : σ 5 6 = nI (aS α) := hC.2.1.2.2.2.1.1
  unfold wp_K_addSuit
  simp (disch := decide) only [st_ne, e6]
  refine ⟨pk_in _ 12 hS (by rfl), pk_in _ 12 hS (by rfl), pk_in _ 12 hS (by rfl), ?_⟩
  rw [show nI (aS α) + 1 = nI (aS α + 1) from nI_1 _]
  generalize hρ : st (st (st (st σ 27 (ix (nI (aS α))) (nI d)) 28 (ix (nI (aS α))) (nI y)) 29 (ix (nI (aS α))) (nI x)) 5 6 (nI (aS α + 1)) = ρ
  have hB : Bt [5, 17, 27, 28, 29] σ ρ := by
    rw [← hρ]; exact ((((Bt.rf _ σ).st (by decide)).st (by decide)).st (by decide)).st (by decide)
  have h56 : ρ 5 6 = nI (aS α + 1) := by rw [← hρ, st_at]; rfl
  have h57 : ρ 5 7 = σ 5 7 := by
    rw [← hρ, st_at]; unfold upd; rw [if_neg (by decide), st_ne _ _ _ (by decide), st_ne _ _ _ (by decide), st_ne _ _ _ (by decide)]
  have ks := hC.2.1.2.2.2.1.2
  have hk : RCk ρ (addK α d y x) := by
    refine ⟨h56, fun i hi => ?_⟩
    have hi : i < aS α + 1 := hi
    have g27 : ρ 27 i = if i = aS α then nI d else σ 27 i := by
      rw [← hρ, st_ne _ _ _ (by decide), st_ne _ _ _ (by decide), st_ne _ _ _ (by decide), st_ix (by omega)]
    have g28 : ρ 28 i = if i = aS α then nI y else σ 28 i := by
      rw [← hρ, st_ne _ _ _ (by decide), st_ne _ _ _ (by decide), st_ix (by omega), st_ne _ _ _ (by decide)]
    have g29 : ρ 29 i = if i = aS α then nI x else σ 29 i := by
      rw [← hρ, st_ne _ _ _ (by decide), st_ix (by omega), st_ne _ _ _ (by decide), st_ne _ _ _ (by decide)]
    rw [g27, g28, g29]
    show _ = nI (upN (aD α) (aS α) d i) ∧ _ = nI (upN (aY α) (aS α) y i) ∧ _ = nI (upN (aX α) (aS α) x i)
    unfold upN
    by_cases e : i = aS α
    · simp [e]
    · simp only [if_neg e]; exact ks i (by omega)
  have hst : StC ρ (nH α) (hK α) (hM α) (hJ α) (rT α) (aW α) := (StC_of hw hC.2.1.1 hC.2.1.2.1 hC.2.1.2.2.1).bt hB (by simp; omega)
  refine sp_D_priceSuits (α := addK α d y x) hw2 hk hst (fun ρ2 hB2 hd2 => ?_)
  rw [hB2 5 (by decide), h56]
  refine h ρ2 hw2 (RC_setK hC (fun o ho => ?_) ?_ (hk.bt hB2 (by simp; omega)) hd2)
  · simp at ho
    rw [hB2 o (by simp; omega), hB o (by simp; omega)]
  · rw [hB2 5 (by decide), h57]
theorem isD_n {k n : Nat} (h : isD (nI k) n) (hk : k < 2 ^ 31) (hn : n < 2 ^ 31) : k < n := by
  obtain ⟨j, hj, e⟩ := h
  have := (nI_eq hk (by omega)).mp e
  omega
/-- what the two say of a suit -/
def okK (a1 a2 a3 : Int32) : Prop := isD a1 30 ∧ isD a2 8 ∧ isD a3 8 ∧ a2 ≠ a3
theorem sp_P_suit {σ : Hp} {α : Abs} {a1 a2 a3 : Int32} {P : Int32 → Hp → Prop} (hw : WF α) (hC : RC σ α) (h0 : ¬ okK a1 a2 a3 → P (-2) σ) (hf : okK a1 a2 a3 → ¬ aS α < 12 → P (-4) σ) (h1 : ∀ d y x ρ, okK a1 a2 a3 → aS α < 12 → a1 = nI d → a2 = nI y → a3 = nI x → d < 30 → y < 8 → x < 8 → y ≠ x → WF (addK α d y x) → RC ρ (addK α d y x) → P (nI (aS α + 1)) ρ) : wp_P_suit σ a1 a2 a3 P := by
  have e6 : σ 5 6 = nI (aS α) := hC.2.1.2.2.2.1.1
  have hS := hw.2.2.1.1
  refine sp_P_isDay (fun q1 => br_f one0 (sp_P_isPlace (fun q2 => br_f one0 (sp_P_isPlace (fun q3 => br_f one0 ?_) (fun q => br_t rfl (h0 (fun z => q z.2.2.1))))) (fun q => br_t rfl (h0 (fun z => q z.2.1))))) (fun q => br_t rfl (h0 (fun z => q z.1)))
  refine br_ne (fun q4 => ?_) (fun q4 => h0 (fun z => z.2.2.2 q4))
  rw [e6]
  have ok : okK a1 a2 a3 := ⟨q1, q2, q3, q4⟩
  refine pk_lt (aS α) 12 (fun c => ?_) (fun c => hf ok (by omega))
  obtain ⟨d, hd, rfl⟩ := q1
  obtain ⟨y, hy, rfl⟩ := q2
  obtain ⟨x, hx, rfl⟩ := q3
  have hn : y ≠ x := fun e => q4 (by rw [e])
  exact sp_K_addSuit hw hC c hd hy hx hn (fun ρ hw2 hR => h1 d y x ρ ok c rfl rfl rfl hd hy hx hn hw2 hR)
theorem sp_R_suit {τ : Hp} {α : Abs} {a1 a2 a3 : Int32} {P : Int32 → Hp → Prop} (hw : WF α) (hR : RR τ α) (h0 : ¬ okK a1 a2 a3 → P (-2) τ) (hf : okK a1 a2 a3 → ¬ aS α < 12 → P (-4) τ) (h1 : ∀ d y x ρ, okK a1 a2 a3 → aS α < 12 → a1 = nI d → a2 = nI y → a3 = nI x → d < 30 → y < 8 → x < 8 → RR ρ (addK α d y x) → P (nI (aS α + 1)) ρ) : wp_R_suit τ a1 a2 a3 P := by
  have e6 : τ 0 10 = nI (aS α) := hR.2.2.1.1
  have hS := hw.2.2.1.1
  refine sp_R_isDay (fun q1 => br_f one0 (sp_R_isEight (fun q2 => br_f one0 (sp_R_isEight (fun q3 => br_f one0 ?_) (fun q => br_t rfl (h0 (fun z => q z.2.2.1))))) (fun q => br_t rfl (h0 (fun z => q z.2.1))))) (fun q => br_t rfl (h0 (fun z => q z.1)))
  refine br_ne (fun q4 => ?_) (fun q4 => h0 (fun z => z.2.2.2 q4))
  have ok : okK a1 a2 a3 := ⟨q1, q2, q3, q4⟩
  simp (disch := decide) only [st_ne, e6]
  refine pk_ne (aS α) 12 (fun c => ?_) (fun c => hf ok (by omega))
  obtain ⟨d, hd, rfl⟩ := q1
  obtain ⟨y, hy, rfl⟩ := q2
  obtain ⟨x, hx, rfl⟩ := q3
  have hS2 : aS α < 12 := by omega
  refine ⟨pk_in _ 12 hS2 (by rfl), pk_in _ 12 hS2 (by rfl), pk_in _ 12 hS2 (by rfl), ?_⟩
  rw [show nI (aS α) + 1 = nI (aS α + 1) from nI_1 _]
  generalize hρ : st (st (st (st τ 9 (ix (nI (aS α))) (nI d)) 10 (ix (nI (aS α))) (nI y)) 11 (ix (nI (aS α))) (nI x)) 0 10 (nI (aS α + 1)) = ρ
  have hB : Bt [0, 9, 10, 11] τ ρ := by
    rw [← hρ]; exact ((((Bt.rf _ τ).st (by decide)).st (by decide)).st (by decide)).st (by decide)
  have h56 : ρ 0 10 = nI (aS α + 1) := by rw [← hρ, st_at]; rfl
  rw [h56]
  refine h1 d y x ρ ok hS2 rfl rfl rfl hd hy hx (RR_setK hR hB (fun j hj => ?_) ⟨h56, fun i hi => ?_⟩)
  · rw [← hρ, st_at]; unfold upd; rw [if_neg hj, st_ne _ _ _ (by decide), st_ne _ _ _ (by decide), st_ne _ _ _ (by decide)]
  · have hi : i < aS α + 1 := hi
    have ks := hR.2.2.1.2
    have g27 : ρ 9 i = if i = aS α then nI d else τ 9 i := by
      rw [← hρ, st_ne _ _ _ (by decide), st_ne _ _ _ (by decide), st_ne _ _ _ (by decide), st_ix (by omega)]
    have g28 : ρ 10 i = if i = aS α then nI y else τ 10 i := by
      rw [← hρ, st_ne _ _ _ (by decide), st_ne _ _ _ (by decide), st_ix (by omega), st_ne _ _ _ (by decide)]
    have g29 : ρ 11 i = if i = aS α then nI x else τ 11 i := by
      rw [← hρ, st_ne _ _ _ (by decide), st_ix (by omega), st_ne _ _ _ (by decide), st_ne _ _ _ (by decide)]
    rw [g27, g28, g29]
    show _ = nI (upN (aD α) (aS α) d i) ∧ _ = nI (upN (aY α) (aS α) y i) ∧ _ = nI (upN (aX α) (aS α) x i)
    unfold upN
    by_cases e : i = aS α
    · simp [e]
    · simp only [if_neg e]; exact ks i (by omega)
theorem addK_eq {α : Abs} {a1 a2 a3 : Int32} {d y x d' y' x' : Nat} (e1 : a1 = nI d) (e2 : a2 = nI y) (e3 : a3 = nI x) (hd : d < 30) (hy : y < 8) (hx : x < 8) (e1' : a1 = nI d') (e2' : a2 = nI y') (e3' : a3 = nI x') (hd' : d' < 30) (hy' : y' < 8) (hx' : x' < 8) : addK α d' y' x' = addK α d y x := by
  have ed : d' = d := (nI_eq (by omega) (by omega)).mp (e1'.symm.trans e1)
  have ey : y' = y := (nI_eq (by omega) (by omega)).mp (e2'.symm.trans e2)
  have ex : x' = x := (nI_eq (by omega) (by omega)).mp (e3'.symm.trans e3)
  rw [ed, ey, ex]
theorem h_suit : H_suit Rel := by
  intro σ τ x1 x2 x3 hrel
  obtain ⟨α, hw, hC, hR⟩ := hrel
  refine sp_P_suit hw hC (fun n => ?_) (fun ok hf => ?_) (fun d y x ρ ok hS e1 e2 e3 hd hy hx hn hw2 hR2 => ?_)
  · exact sp_R_suit hw hR (fun _ => ⟨rfl, α, hw, hC, hR⟩) (fun z => absurd z n) (fun d y x ρ z => absurd z n)
  · exact sp_R_suit hw hR (fun z => absurd ok z) (fun _ _ => ⟨rfl, α, hw, hC, hR⟩) (fun d y x ρ _ hS => absurd hS hf)
  · refine sp_R_suit hw hR (fun z => absurd ok z) (fun _ z => absurd hS z) (fun d' y' x' ρ' _ _ e1' e2' e3' hd' hy' hx' hR' => ⟨rfl, addK α d y x, hw2, hR2, ?_⟩)
    rw [addK_eq e1 e2 e3 hd hy hx e1' e2' e3' hd' hy' hx'] at hR'; exact hR'
theorem cld_N (α : Abs) (h d : Nat) : cld α h d = cldN (aZd α) (aZh α) (aZ α) h d := rfl
/-- the class takes the days on which houses are shut anew -/
theorem cas_RC {σ σ1 : Hp} {α : Abs} {z : ZT} {P : Hp → Prop} (hC : RC σ α) (hZ : z.1 ≤ 8) (hw : ∀ i, i < z.1 → z.2.1 i < 30 ∧ z.2.2 i < 8) (hB : Bt [5, 30, 31] σ σ1) (h6 : σ1 5 6 = σ 5 6) (h7 : σ1 5 7 = nI z.1) (hl : ∀ i, i < z.1 → σ1 30 i = nI (z.2.1 i) ∧ σ1 31 i = nI (z.2.2 i)) (h : ∀ ρ, RC ρ (setZ α z) → ρ 5 7 = nI z.1 → P ρ) : wp_K_closeAsTold σ1 P := by
  refine sp_K_closeAsTold (Z := z.1) (zd := z.2.1) (zh := z.2.2) hZ h7 (fun i hi => ⟨⟨(hl i hi).1, (hw i hi).1⟩, (hl i hi).2, (hw i hi).2⟩) (fun ρ hB2 hm => h ρ (RC_setZ hC (fun o ho => ?_) ?_ ⟨?_, fun i hi => ?_, hm⟩) ?_)
  · simp at ho
    rw [hB2 o (by simp; omega), hB o (by simp; omega)]
  · rw [hB2 5 (by decide), h6]
  · rw [hB2 5 (by decide)]; exact h7
  · rw [hB2 30 (by decide), hB2 31 (by decide)]; exact hl i hi
  · rw [hB2 5 (by decide)]; exact h7
theorem h_shut : H_shut Rel := by
  intro σ τ x1 x2 hrel
  obtain ⟨α, hw, hC, hR⟩ := hrel
  have keep : Rel σ τ := ⟨α, hw, hC, hR⟩
  have hZ := hw.2.2.2.1.1
  have e7 : σ 5 7 = nI (aZ α) := hC.2.2.1.1
  have e14 : τ 0 14 = nI (aZ α) := hR.2.2.2.1.1
  have bad : ¬ (isD x1 30 ∧ isD x2 8) → wp_R_shut τ x1 x2 (fun r2 τ1 => (-2 : Int32) = r2 ∧ Rel σ τ1) := fun n =>
    sp_R_isDay (fun q1 => br_f one0 (sp_R_isEight (fun q2 => absurd ⟨q1, q2⟩ n) (fun q2 => br_nf rfl ⟨rfl, keep⟩))) (fun q => br_t rfl ⟨rfl, keep⟩)
  refine sp_P_isDay (fun q1 => br_f one0 (sp_P_isPlace (fun q2 => br_nt one0 ?_) (fun q => br_nf rfl (bad (fun z => q z.2))))) (fun q => br_t rfl (bad (fun z => q z.1)))
  have rr : ∀ P, ((¬ (τ 0 14) = 8 → (vp_in (τ 0 14) 8) ∧ (vp_in ((st τ 12 (ix (τ 0 14)) x1) 0 14) 8) ∧ P ((st (st (st τ 12 (ix (τ 0 14)) x1) 13 (ix ((st τ 12 (ix (τ 0 14)) x1) 0 14)) x2) 0 14 (((st (st τ 12 (ix (τ 0 14)) x1) 13 (ix ((st τ 12 (ix (τ 0 14)) x1) 0 14)) x2) 0 14) + (1))) 0 14) (st (st (st τ 12 (ix (τ 0 14)) x1) 13 (ix ((st τ 12 (ix (τ 0 14)) x1) 0 14)) x2) 0 14 (((st (st τ 12 (ix (τ 0 14)) x1) 13 (ix ((st τ 12 (ix (τ 0 14)) x1) 0 14)) x2) 0 14) + (1)))) ∧ ((τ 0 14) = 8 → P (-4) τ)) → wp_R_shut τ x1 x2 P := fun P h =>
    sp_R_isDay (fun _ => br_f one0 (sp_R_isEight (fun _ => br_nt one0 h) (fun z => absurd q2 z))) (fun z => absurd q1 z)
  rw [e7]
  refine pk_lt (aZ α) 8 (fun c => ?_) (fun c => rr _ ?_)
  · obtain ⟨d, hd, rfl⟩ := q1
    obtain ⟨y, hy, rfl⟩ := q2
    unfold wp_K_addShut
    simp (disch := decide) only [st_ne, e7]
    refine ⟨pk_in _ 8 c (by rfl), pk_in _ 8 c (by rfl), ?_⟩
    rw [show nI (aZ α) + 1 = nI (aZ α + 1) from nI_1 _]
    generalize hρ : st (st (st σ 30 (ix (nI (aZ α))) (nI d)) 31 (ix (nI (aZ α))) (nI y)) 5 7 (nI (aZ α + 1)) = σ1
    have zs := hC.2.2.1.2.1
    have ws := hw.2.2.2.1.2
    have hw2 : ∀ i, i < aZ α + 1 → upN (aZd α) (aZ α) d i < 30 ∧ upN (aZh α) (aZ α) y i < 8 := by
      intro i hi
      unfold upN
      by_cases e : i = aZ α
      · rw [if_pos e, if_pos e]; exact ⟨hd, hy⟩
      · rw [if_neg e, if_neg e]; exact ws i (by omega)
    refine cas_RC (z := (aZ α + 1, upN (aZd α) (aZ α) d, upN (aZh α) (aZ α) y)) hC (by show aZ α + 1 ≤ 8; omega) hw2 ?_ ?_ ?_ (fun i hi => ?_) (fun ρ hR2 h57 => ?_)
    · rw [← hρ]; exact (((Bt.rf _ σ).st (by decide)).st (by decide)).st (by decide)
    · rw [← hρ, st_at]; unfold upd; rw [if_neg (by decide), st_ne _ _ _ (by decide), st_ne _ _ _ (by decide)]
    · rw [← hρ, st_at]; rfl
    · have hi : i < aZ α + 1 := hi
      have g27 : σ1 30 i = if i = aZ α then nI d else σ 30 i := by
        rw [← hρ, st_ne _ _ _ (by decide), st_ne _ _ _ (by decide), st_ix (by omega)]
      have g28 : σ1 31 i = if i = aZ α then nI y else σ 31 i := by
        rw [← hρ, st_ne _ _ _ (by decide), st_ix (by omega), st_ne _ _ _ (by decide)]
      rw [g27, g28]
      show _ = nI (upN (aZd α) (aZ α) d i) ∧ _ = nI (upN (aZh α) (aZ α) y i)
      unfold upN
      by_cases e : i = aZ α
      · simp [e]
      · simp only [if_neg e]; exact zs i (by omega)
    · refine rr _ ?_
      simp (disch := decide) only [st_ne, e14]
      refine pk_ne (aZ α) 8 (fun _ => ⟨pk_in _ 8 c (by rfl), pk_in _ 8 c (by rfl), ?_⟩) (fun z => absurd z (by omega))
      rw [show nI (aZ α) + 1 = nI (aZ α + 1) from nI_1 _]
      generalize hρ : st (st (st τ 12 (ix (nI (aZ α))) (nI d)) 13 (ix (nI (aZ α))) (nI y)) 0 14 (nI (aZ α + 1)) = τ1
      have h14 : τ1 0 14 = nI (aZ α + 1) := by rw [← hρ, st_at]; rfl
      refine ⟨by rw [h57, h14], setZ α (aZ α + 1, upN (aZd α) (aZ α) d, upN (aZh α) (aZ α) y), ⟨hw.1, hw.2.1, hw.2.2.1, ⟨by show aZ α + 1 ≤ 8; omega, hw2⟩, hw.2.2.2.2⟩, hR2, RR_setZ hR ?_ (fun j hj => ?_) ⟨h14, fun i hi => ?_⟩⟩
      · rw [← hρ]; exact (((Bt.rf _ τ).st (by decide)).st (by decide)).st (by decide)
      · rw [← hρ, st_at]; unfold upd; rw [if_neg hj, st_ne _ _ _ (by decide), st_ne _ _ _ (by decide)]
      · have hi : i < aZ α + 1 := hi
        have zs := hR.2.2.2.1.2
        have g27 : τ1 12 i = if i = aZ α then nI d else τ 12 i := by
          rw [← hρ, st_ne _ _ _ (by decide), st_ne _ _ _ (by decide), st_ix (by omega)]
        have g28 : τ1 13 i = if i = aZ α then nI y else τ 13 i := by
          rw [← hρ, st_ne _ _ _ (by decide), st_ix (by omega), st_ne _ _ _ (by decide)]
        rw [g27, g28]
        show _ = nI (upN (aZd α) (aZ α) d i) ∧ _ = nI (upN (aZh α) (aZ α) y i)
        unfold upN
        by_cases e : i = aZ α
        · simp [e]
        · simp only [if_neg e]; exact zs i (by omega)
  · rw [e14]
    exact pk_ne (aZ α) 8 (fun z => absurd (show aZ α = 8 by omega) z) (fun _ => ⟨rfl, keep⟩)
theorem h_back : H_back Rel := by
  intro σ τ x1 hrel
  obtain ⟨α, hw, hC, hR⟩ := hrel
  have keep : Rel σ τ := ⟨α, hw, hC, hR⟩
  have hS := hw.2.2.1.1
  have hZ := hw.2.2.2.1.1
  have e6 : σ 5 6 = nI (aS α) := hC.2.1.2.2.2.1.1
  have e7 : σ 5 7 = nI (aZ α) := hC.2.2.1.1
  have e10 : τ 0 10 = nI (aS α) := hR.2.2.1.1
  have e14 : τ 0 14 = nI (aZ α) := hR.2.2.2.1.1
  have rr : ∀ P, isD x1 2 → ((¬ x1 = 0 → j_R_back_27 P τ x1 (τ 0 14)) ∧ (x1 = 0 → j_R_back_27 P τ x1 (τ 0 10))) → wp_R_back τ x1 P := fun P q h =>
    sp_R_in 1 rfl (by decide) (fun _ => br_nt one0 h) (fun z => absurd q z)
  refine ⟨fun c => ?_, fun c => ⟨fun c2 => ?_, fun c2 => ?_⟩⟩
  · subst c
    refine ⟨fun c => absurd rfl c, fun _ => ?_⟩
    rw [e6]
    refine pk_ne (aS α) 0 (fun c => ⟨fun c2 => absurd rfl c2, fun _ => ?_⟩) (fun c => rr _ ⟨0, by omega, rfl⟩ ⟨fun z => absurd rfl z, fun _ => ?_⟩)
    · unfold wp_K_undoSuit
      rw [e6, show nI (aS α) - 1 = nI (aS α - 1) from pk_sub (b := 1) (by omega)]
      refine rr _ ⟨0, by omega, rfl⟩ ⟨fun z => absurd rfl z, fun _ => ?_⟩
      rw [e10]
      refine pk_ne (aS α) 0 (fun _ => ⟨fun c2 => absurd rfl c2, fun _ => ⟨fun _ => ?_, fun z => absurd z (by decide)⟩⟩) (fun z => absurd z c)
      have hh : (st τ 0 10 (nI (aS α) - 1)) 0 14 - 0 = nI (aZ α) := by
        rw [st_at]; unfold upd; rw [if_neg (by decide), e14]; exact Int32.sub_zero _
      rw [e10, hh, show nI (aS α) - 1 = nI (aS α - 1) from pk_sub (b := 1) (by omega)]
      generalize hρ : st (st τ 0 10 (nI (aS α - 1))) 0 14 (nI (aZ α)) = τ1
      generalize hσ : st σ 5 6 (nI (aS α - 1)) = σ1
      have f56 : σ1 5 6 = nI (aS α - 1) := by rw [← hσ, st_at]; rfl
      have f57 : σ1 5 7 = σ 5 7 := by rw [← hσ, st_at]; rfl
      have hB : Bt [5] σ σ1 := by rw [← hσ]; exact (Bt.rf _ σ).st (by decide)
      have hB5 : Bt [5, 17, 27, 28, 29] σ σ1 := fun o ho => hB o (by simp at ho ⊢; omega)
      refine ⟨f56, setK α (aS α - 1, aD α, aY α, aX α), ⟨hw.1, hw.2.1, ⟨by show aS α - 1 ≤ 12; omega, fun i hi => hw.2.2.1.2 i (by have hi : i < aS α - 1 := hi; omega)⟩, hw.2.2.2⟩, RC_setK hC hB5 f57 ⟨f56, fun i hi => ?_⟩ (fun i hi => ?_), RR_setK hR ?_ (fun j hj => ?_) ⟨?_, fun i hi => ?_⟩⟩
      · have hi : i < aS α - 1 := hi
        rw [hB 27 (by decide), hB 28 (by decide), hB 29 (by decide)]; exact hC.2.1.2.2.2.1.2 i (by omega)
      · have hi : i < aS α - 1 := hi
        rw [hB 17 (by decide)]; exact hC.2.1.2.2.2.2 i (by omega)
      · rw [← hρ]; exact ((Bt.rf _ τ).st (by decide)).st (by decide)
      · rw [← hρ, st_at]; unfold upd
        by_cases e : j = 14
        · rw [if_pos e, e, e14]
        · rw [if_neg e, st_at]; unfold upd; rw [if_neg hj]
      · rw [← hρ, st_at]; unfold upd; rw [if_neg (by decide), st_at]; rfl
      · have hi : i < aS α - 1 := hi
        rw [← hρ, st_ne _ _ _ (by decide), st_ne _ _ _ (by decide), st_ne _ _ _ (by decide), st_ne _ _ _ (by decide), st_ne _ _ _ (by decide), st_ne _ _ _ (by decide)]
        exact hR.2.2.1.2 i (by omega)
    · rw [e10]
      exact pk_ne (aS α) 0 (fun z => absurd c z) (fun _ => ⟨rfl, keep⟩)
  · subst c2
    refine ⟨fun _ => ?_, fun c => absurd c (by decide)⟩
    rw [e7]
    refine pk_ne (aZ α) 0 (fun c => ⟨fun _ => ?_, fun c2 => absurd c2 (by decide)⟩) (fun c => rr _ ⟨1, by omega, rfl⟩ ⟨fun _ => ?_, fun z => absurd z (by decide)⟩)
    · unfold wp_K_undoShut
      rw [e7, show nI (aZ α) - 1 = nI (aZ α - 1) from pk_sub (b := 1) (by omega)]
      refine cas_RC (z := (aZ α - 1, aZd α, aZh α)) hC (by show aZ α - 1 ≤ 8; omega) (fun i hi => hw.2.2.2.1.2 i (by have hi : i < aZ α - 1 := hi; omega)) ((Bt.rf _ σ).st (by decide)) ?_ ?_ (fun i hi => ?_) (fun ρ hR2 h57 => ?_)
      · rw [st_at]; rfl
      · rw [st_at]; rfl
      · have hi : i < aZ α - 1 := hi
        rw [st_ne _ _ _ (by decide), st_ne _ _ _ (by decide)]; exact hC.2.2.1.2.1 i (by omega)
      refine rr _ ⟨1, by omega, rfl⟩ ⟨fun _ => ?_, fun z => absurd z (by decide)⟩
      rw [e14]
      refine pk_ne (aZ α) 0 (fun _ => ⟨fun _ => ⟨fun z => absurd rfl z, fun _ => ?_⟩, fun c2 => absurd c2 (by decide)⟩) (fun z => absurd z c)
      have hh : (st τ 0 10 (τ 0 10 - 0)) 0 14 - 1 = nI (aZ α - 1) := by
        rw [st_at]; unfold upd; rw [if_neg (by decide), e14]; exact pk_sub (b := 1) (by omega)
      rw [hh, e10, show nI (aS α) - 0 = nI (aS α) from Int32.sub_zero _, show nI (aZ α) - 1 = nI (aZ α - 1) from pk_sub (b := 1) (by omega)]
      generalize hρ : st (st τ 0 10 (nI (aS α))) 0 14 (nI (aZ α - 1)) = τ1
      refine ⟨h57, setZ α (aZ α - 1, aZd α, aZh α), ⟨hw.1, hw.2.1, hw.2.2.1, ⟨by show aZ α - 1 ≤ 8; omega, fun i hi => hw.2.2.2.1.2 i (by have hi : i < aZ α - 1 := hi; omega)⟩, hw.2.2.2.2⟩, hR2, RR_setZ hR ?_ (fun j hj => ?_) ⟨?_, fun i hi => ?_⟩⟩
      · rw [← hρ]; exact ((Bt.rf _ τ).st (by decide)).st (by decide)
      · rw [← hρ, st_at]; unfold upd; rw [if_neg hj, st_at]; unfold upd
        by_cases e : j = 10
        · rw [if_pos e, e, e10]
        · rw [if_neg e]
      · rw [← hρ, st_at]; rfl
      · have hi : i < aZ α - 1 := hi
        rw [← hρ, st_ne _ _ _ (by decide), st_ne _ _ _ (by decide), st_ne _ _ _ (by decide), st_ne _ _ _ (by decide)]
        exact hR.2.2.2.1.2 i (by omega)
    · rw [e14]
      exact pk_ne (aZ α) 0 (fun z => absurd c z) (fun _ => ⟨rfl, keep⟩)
  · refine sp_R_in 1 rfl (by decide) (fun q => ?_) (fun _ => br_nf rfl ⟨rfl, keep⟩)
    exfalso
    obtain ⟨k, hk, rfl⟩ := q
    rcases (show k = 0 ∨ k = 1 by omega) with rfl | rfl
    · exact c rfl
    · exact c2 rfl
theorem h_seen : H_seen Rel := by
  intro σ τ x1 x2 x3 hrel
  obtain ⟨α, hw, hC, hR⟩ := hrel
  have keep : Rel σ τ := ⟨α, hw, hC, hR⟩
  have hE := hw.2.2.2.2.1.1
  have e6 : σ 6 3 = nI (aE α) := hC.2.2.2.1.1
  have e24 : τ 0 24 = nI (aE α) := hR.2.2.2.2.1.1
  have bad : ¬ (isD x1 30 ∧ isD x2 8 ∧ ¬ x3 < -999 ∧ x3 ≤ 999) → wp_R_seen τ x1 x2 x3 (fun r2 τ1 => (-2 : Int32) = r2 ∧ Rel σ τ1) := fun n =>
    sp_R_isDay (fun q1 => br_f one0 (sp_R_isEight (fun q2 => br_f one0 ⟨fun _ => br_nf rfl ⟨rfl, keep⟩, fun c => ⟨fun _ => br_nf rfl ⟨rfl, keep⟩, fun c2 => absurd ⟨q1, q2, c, nlt_le.mp c2⟩ n⟩⟩) (fun q => br_t rfl ⟨rfl, keep⟩))) (fun q => br_t rfl ⟨rfl, keep⟩)
  refine sp_P_isDay (fun q1 => br_f one0 (sp_P_isPlace (fun q2 => br_f one0 ?_) (fun q => br_t rfl (bad (fun z => q z.2.1))))) (fun q => br_t rfl (bad (fun z => q z.1)))
  refine ⟨fun c => bad (fun z => z.2.2.1 c), fun q3 => ⟨fun q4 => ?_, fun c => bad (fun z => c z.2.2.2)⟩⟩
  have rr : ∀ P, (∀ Q, Q = wp_R_seen τ x1 x2 x3 P → Q) → wp_R_seen τ x1 x2 x3 P := fun P h => h _ rfl
  rw [e6]
  obtain ⟨d, hd, rfl⟩ := q1
  obtain ⟨y, hy, rfl⟩ := q2
  refine pk_lt (aE α) 8 (fun c => ?_) (fun c => ?_)
  · unfold wp_M_add
    simp (disch := decide) only [st_ne, e6]
    refine ⟨pk_in _ 8 c (by rfl), pk_in _ 8 c (by rfl), pk_in _ 8 c (by rfl), ?_⟩
    rw [show nI (aE α) + 1 = nI (aE α + 1) from nI_1 _]
    generalize hσ : st (st (st (st σ 33 (ix (nI (aE α))) (nI d)) 34 (ix (nI (aE α))) (nI y)) 35 (ix (nI (aE α))) x3) 6 3 (nI (aE α + 1)) = σ1
    have f63 : σ1 6 3 = nI (aE α + 1) := by rw [← hσ, st_at]; rfl
    refine sp_R_isDay (fun q1 => br_f one0 (sp_R_isEight (fun q2 => br_f one0 ⟨fun z => absurd z q3, fun _ => ⟨fun z => absurd q4 (nle_lt.mpr z), fun _ => br_nt one0 ?_⟩⟩) (fun z => absurd ⟨y, hy, rfl⟩ z))) (fun z => absurd ⟨d, hd, rfl⟩ z)
    simp (disch := decide) only [st_ne, e24]
    refine pk_ne (aE α) 8 (fun _ => ⟨pk_in _ 8 c (by rfl), pk_in _ 8 c (by rfl), pk_in _ 8 c (by rfl), ?_⟩) (fun z => absurd z (by omega))
    rw [show nI (aE α) + 1 = nI (aE α + 1) from nI_1 _]
    generalize hρ : st (st (st (st τ 20 (ix (nI (aE α))) (nI d)) 21 (ix (nI (aE α))) (nI y)) 22 (ix (nI (aE α))) x3) 0 24 (nI (aE α + 1)) = τ1
    have f24 : τ1 0 24 = nI (aE α + 1) := by rw [← hρ, st_at]; rfl
    refine ⟨by rw [f63, f24], addE α d y x3, ⟨hw.1, hw.2.1, hw.2.2.1, hw.2.2.2.1, ⟨by show aE α + 1 ≤ 8; omega, fun i hi => ?_⟩, hw.2.2.2.2.2⟩, RC_setE hC ?_ ⟨f63, fun i hi => ?_⟩, RR_setE hR ?_ (fun j hj => ?_) ⟨f24, fun i hi => ?_⟩⟩
    · have hi : i < aE α + 1 := hi
      show upN (aEd α) (aE α) d i < 30 ∧ upN (aEh α) (aE α) y i < 8
      unfold upN
      by_cases e : i = aE α
      · rw [if_pos e, if_pos e]; exact ⟨hd, hy⟩
      · rw [if_neg e, if_neg e]; exact hw.2.2.2.2.1.2 i (by omega)
    · rw [← hσ]; exact ((((Bt.rf _ σ).st (by decide)).st (by decide)).st (by decide)).st (by decide)
    · have hi : i < aE α + 1 := hi
      have g1 : σ1 33 i = if i = aE α then nI d else σ 33 i := by
        rw [← hσ, st_ne _ _ _ (by decide), st_ne _ _ _ (by decide), st_ne _ _ _ (by decide), st_ix (by omega)]
      have g2 : σ1 34 i = if i = aE α then nI y else σ 34 i := by
        rw [← hσ, st_ne _ _ _ (by decide), st_ne _ _ _ (by decide), st_ix (by omega), st_ne _ _ _ (by decide)]
      have g3 : σ1 35 i = if i = aE α then x3 else σ 35 i := by
        rw [← hσ, st_ne _ _ _ (by decide), st_ix (by omega), st_ne _ _ _ (by decide), st_ne _ _ _ (by decide)]
      rw [g1, g2, g3]
      show _ = nI (upN (aEd α) (aE α) d i) ∧ _ = nI (upN (aEh α) (aE α) y i) ∧ _ = upN (aEm α) (aE α) x3 i
      unfold upN
      by_cases e : i = aE α
      · simp [e]
      · simp only [if_neg e]; exact hC.2.2.2.1.2 i (by omega)
    · rw [← hρ]; exact ((((Bt.rf _ τ).st (by decide)).st (by decide)).st (by decide)).st (by decide)
    · rw [← hρ, st_at]; unfold upd; rw [if_neg hj, st_ne _ _ _ (by decide), st_ne _ _ _ (by decide), st_ne _ _ _ (by decide)]
    · have hi : i < aE α + 1 := hi
      have g1 : τ1 20 i = if i = aE α then nI d else τ 20 i := by
        rw [← hρ, st_ne _ _ _ (by decide), st_ne _ _ _ (by decide), st_ne _ _ _ (by decide), st_ix (by omega)]
      have g2 : τ1 21 i = if i = aE α then nI y else τ 21 i := by
        rw [← hρ, st_ne _ _ _ (by decide), st_ne _ _ _ (by decide), st_ix (by omega), st_ne _ _ _ (by decide)]
      have g3 : τ1 22 i = if i = aE α then x3 else τ 22 i := by
        rw [← hρ, st_ne _ _ _ (by decide), st_ix (by omega), st_ne _ _ _ (by decide), st_ne _ _ _ (by decide)]
      rw [g1, g2, g3]
      show _ = nI (upN (aEd α) (aE α) d i) ∧ _ = nI (upN (aEh α) (aE α) y i) ∧ _ = upN (aEm α) (aE α) x3 i
      unfold upN
      by_cases e : i = aE α
      · simp [e]
      · simp only [if_neg e]; exact hR.2.2.2.2.1.2 i (by omega)
  · refine sp_R_isDay (fun q1 => br_f one0 (sp_R_isEight (fun q2 => br_f one0 ⟨fun z => absurd z q3, fun _ => ⟨fun z => absurd q4 (nle_lt.mpr z), fun _ => br_nt one0 ?_⟩⟩) (fun z => absurd ⟨y, hy, rfl⟩ z))) (fun z => absurd ⟨d, hd, rfl⟩ z)
    rw [e24]
    exact pk_ne (aE α) 8 (fun z => absurd (show aE α = 8 by omega) z) (fun _ => ⟨rfl, keep⟩)
