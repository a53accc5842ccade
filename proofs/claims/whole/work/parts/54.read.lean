/-! read -/
def tN (a : Int32) : Nat := a.toInt.toNat
theorem tN_nI {k : Nat} (h : k < 2 ^ 31) : tN (nI k) = k := by
  unfold tN; rw [nI_toInt h]; rfl
noncomputable def rdA (L : Nat) (it : Nat → Int32) : Nat → Nat → Abs → Nat × Abs
  | 0, n, α => (n, α)
  | f + 1, n, α => @ite _ (3 * n + 3 ≤ L ∧ okK (it (3 * n)) (it (3 * n + 1)) (it (3 * n + 2)) ∧ aS α < 12) (Classical.propDecidable _) (rdA L it f (n + 1) (addK α (tN (it (3 * n))) (tN (it (3 * n + 1))) (tN (it (3 * n + 2))))) (n, α)
theorem rdA_no {L : Nat} {it : Nat → Int32} {n : Nat} {α : Abs} (f : Nat) (h : ¬ (3 * n + 3 ≤ L ∧ okK (it (3 * n)) (it (3 * n + 1)) (it (3 * n + 2)) ∧ aS α < 12)) : rdA L it f n α = (n, α) := by
  cases f with
  | zero => rfl
  | succ f => unfold rdA; rw [if_neg h]
theorem isS_s {s : Nat} (h : s < 4) : isS (10 + s) := by
  rcases (show s = 0 ∨ s = 1 ∨ s = 2 ∨ s = 3 by omega) with rfl | rfl | rfl | rfl <;> simp [isS]
theorem P_read_loop {s L : Nat} {it : Nat → Int32} {P : Int32 → Hp → Prop} (hs : s < 4) (hL : L ≤ 60) {I : Hp → Nat → Int32 → Int32 → Prop} (hI : ∀ σ x2 x3 x4, b_P_read_36_ P I σ x2 x3 x4 → I σ x2 x3 x4) : ∀ (f n : Nat) (α : Abs) (ρ : Hp), n + f = 21 → WF α → RC ρ α → aT α s = true → aL α s = L → aI α s = it → (∀ ρ', WF (rdA L it f n α).2 → RC ρ' (rdA L it f n α).2 → P (nI (rdA L it f n α).1) ρ') → I ρ (10 + s) (nI n) (nI (3 * n)) := by
  intro f
  induction f with
  | zero =>
    intro n α ρ hn hw hC hT hl hit h
    apply hI
    have eL : ρ (10 + s) 2 = nI L := by rw [← hl]; exact (hC.2.2.2.2.1 s hs).2.1 hT
    refine ⟨isS_s hs, ?_⟩
    rw [eL, show nI (3 * n) + 3 = nI (3 * n + 3) from nI_add _ 3]
    exact pk_lt L (3 * n + 3) (fun _ => h ρ hw hC) (fun c => by omega)
  | succ f ih =>
    intro n α ρ hn hw hC hT hl hit h
    apply hI
    have eL : ρ (10 + s) 2 = nI L := by rw [← hl]; exact (hC.2.2.2.2.1 s hs).2.1 hT
    have eI : ∀ i, i < 60 → ρ (38 + s) i = it i := by
      intro i hi; rw [← hit]; exact (hC.2.2.2.2.1 s hs).2.2 i hi
    refine ⟨isS_s hs, ?_⟩
    rw [eL, show nI (3 * n) + 3 = nI (3 * n + 3) from nI_add _ 3, show nI (3 * n) + 1 = nI (3 * n + 1) from nI_1 _, show nI (3 * n) + 2 = nI (3 * n + 2) from nI_add _ 2]
    refine pk_lt L (3 * n + 3) (fun c => ?_) (fun c => ⟨pk_in (3 * n) 60 (by omega), pk_in (3 * n + 1) 60 (by omega), pk_in (3 * n + 2) 60 (by omega), ?_⟩)
    · have e := rdA_no (L := L) (it := it) (n := n) (α := α) (f + 1) (fun z => by omega)
      rw [e] at h; exact h ρ hw hC
    rw [show 10 + s + 28 = 38 + s by omega, ixn (show 3 * n < 2 ^ 31 by omega), ixn (show 3 * n + 1 < 2 ^ 31 by omega), ixn (show 3 * n + 2 < 2 ^ 31 by omega), eI _ (by omega), eI _ (by omega), eI _ (by omega)]
    refine sp_P_suit hw hC (fun q => ?_) (fun q q2 => ?_) (fun d y x ρ2 ok hS e1 e2 e3 hd hy hx hne hw2 hR2 => ?_)
    · refine ⟨fun z => absurd z (by decide), fun _ => ?_⟩
      have e := rdA_no (L := L) (it := it) (n := n) (α := α) (f + 1) (fun z => q z.2.1)
      rw [e] at h; exact h ρ hw hC
    · refine ⟨fun z => absurd z (by decide), fun _ => ?_⟩
      have e := rdA_no (L := L) (it := it) (n := n) (α := α) (f + 1) (fun z => q2 z.2.2)
      rw [e] at h; exact h ρ hw hC
    · refine ⟨fun _ v9 e9 v10 e10 => ?_, fun z => absurd (nI_pos' (n := aS α + 1) (by omega)) z⟩
      rw [e9, e10, show nI n + 1 = nI (n + 1) from nI_1 _]
      have e : rdA L it (f + 1) n α = rdA L it f (n + 1) (addK α d y x) := by
        rw [show rdA L it (f + 1) n α = @ite _ _ (Classical.propDecidable _) _ _ from rfl, if_pos ⟨c, ok, hS⟩, e1, e2, e3, tN_nI (by omega), tN_nI (by omega), tN_nI (by omega)]
      rw [e] at h
      exact ih (n + 1) (addK α d y x) ρ2 (by omega) hw2 hR2 hT hl hit h
theorem R_read_loop {s L : Nat} {it : Nat → Int32} {P : Int32 → Hp → Prop} (hs : s < 4) (hL : L ≤ 60) {I : Hp → Int32 → Int32 → Prop} (hI : ∀ σ x1 x2, b_R_read_27_ P I σ x1 x2 → I σ x1 x2) : ∀ (f n : Nat) (α : Abs) (ρ : Hp), n + f = 21 → WF α → RR ρ α → aT α s = true → aL α s = L → aI α s = it → (∀ ρ', RR ρ' (rdA L it f n α).2 → P (nI (rdA L it f n α).1) ρ') → I ρ (nI s) (nI n) := by
  intro f
  induction f with
  | zero =>
    intro n α ρ hn hw hR hT hl hit h
    apply hI
    have eL : ρ 26 s = nI L := by rw [← hl]; exact ((hR.2.2.2.2.2.1 s hs).2.1 hT).2
    unfold b_R_read_27_
    rw [ixn (show s < 2 ^ 31 by omega), eL, show (3 : Int32) * nI n + 2 = nI (3 * n + 2) by rw [show (3 : Int32) = nI 3 from rfl, pk_mul]; exact nI_add _ 2]
    exact ⟨pk_in s 4 hs, pk_le L (3 * n + 2) (fun _ => h ρ hR) (fun c => by omega)⟩
  | succ f ih =>
    intro n α ρ hn hw hR hT hl hit h
    apply hI
    have eL : ρ 26 s = nI L := by rw [← hl]; exact ((hR.2.2.2.2.2.1 s hs).2.1 hT).2
    have eI : ∀ i, i < 60 → ρ 27 (60 * s + i) = it i := by
      intro i hi; rw [← hit]; exact (hR.2.2.2.2.2.1 s hs).2.2 i hi
    unfold b_R_read_27_
    rw [ixn (show s < 2 ^ 31 by omega), eL, show (3 : Int32) = nI 3 from rfl, show (60 : Int32) = nI 60 from rfl, pk_mul, pk_mul, nI_add, show nI (3 * n) + 2 = nI (3 * n + 2) from nI_add _ 2, show nI (60 * s + 3 * n) + 1 = nI (60 * s + (3 * n + 1)) from nI_1 _, show nI (60 * s + 3 * n) + 2 = nI (60 * s + (3 * n + 2)) from nI_add _ 2]
    refine ⟨pk_in s 4 hs, pk_le L (3 * n + 2) (fun c => ?_) (fun c => ⟨pk_in (60 * s + 3 * n) 240 (by omega), pk_in (60 * s + (3 * n + 1)) 240 (by omega), pk_in (60 * s + (3 * n + 2)) 240 (by omega), ?_⟩)⟩
    · have e := rdA_no (L := L) (it := it) (n := n) (α := α) (f + 1) (fun z => by omega)
      rw [e] at h; exact h ρ hR
    rw [ixn (show 60 * s + 3 * n < 2 ^ 31 by omega), ixn (show 60 * s + (3 * n + 1) < 2 ^ 31 by omega), ixn (show 60 * s + (3 * n + 2) < 2 ^ 31 by omega), eI _ (by omega), eI _ (by omega), eI _ (by omega)]
    refine sp_R_suit hw hR (fun q => ?_) (fun q q2 => ?_) (fun d y x ρ2 ok hS e1 e2 e3 hd hy hx hR2 => ?_)
    · refine ⟨fun _ => ?_, fun z => absurd (by decide) z⟩
      have e := rdA_no (L := L) (it := it) (n := n) (α := α) (f + 1) (fun z => q z.2.1)
      rw [e] at h; exact h ρ hR
    · refine ⟨fun _ => ?_, fun z => absurd (by decide) z⟩
      have e := rdA_no (L := L) (it := it) (n := n) (α := α) (f + 1) (fun z => q2 z.2.2)
      rw [e] at h; exact h ρ hR
    · refine pk_le (aS α + 1) 0 (fun z => by omega) (fun _ v9 e9 => ?_)
      rw [e9, show nI n + 1 = nI (n + 1) from nI_1 _]
      have e : rdA L it (f + 1) n α = rdA L it f (n + 1) (addK α d y x) := by
        rw [show rdA L it (f + 1) n α = @ite _ _ (Classical.propDecidable _) _ _ from rfl, if_pos ⟨by omega, ok, hS⟩, e1, e2, e3, tN_nI (by omega), tN_nI (by omega), tN_nI (by omega)]
      rw [e] at h
      have hne : y ≠ x := fun z => ok.2.2.2 (by rw [e2, e3, z])
      exact ih (n + 1) (addK α d y x) ρ2 (by omega) (WF_addK hw hS hd hy hx hne) hR2 hT hl hit h
/-- the two meet a finding -/
theorem find_R {σ τ : Hp} {α : Abs} {v : Int32} (hw : WF α) (hC : RC σ α) (hR : RR τ α) : Rel (st σ 0 9 v) (st τ 0 34 v) := by
  obtain ⟨c1, ⟨d1, d2, d3, d4, d5⟩, c3, c4, c5, c6⟩ := hC
  obtain ⟨r1, r2, r3, r4, r5, r6, r7⟩ := hR
  have hB : Bt [0] σ (st σ 0 9 v) := (Bt.rf _ σ).st (by decide)
  refine ⟨(α.1, α.2.1, α.2.2.1, α.2.2.2.1, α.2.2.2.2.1, α.2.2.2.2.2.1, v), hw, ⟨c1.bt hB (by simp), ⟨d1.bt hB (by simp; omega), d2.bt hB (by simp), d3.bt hB (by decide), d4.bt hB (by simp; omega), d5.bt hB (by decide)⟩, c3.bt hB (by simp; omega), c4.bt hB (by simp; omega), c5.bt hB (by simp; omega), ?_⟩, ⟨r1, r2, r3, r4, r5, r6, ?_⟩⟩
  · rw [st_at]; rfl
  · rw [st_at]; rfl
theorem m1_ne {k : Nat} (h : k < 2 ^ 31) : ¬ nI k = -1 := by
  intro e
  have := nI_pos' h
  rw [e] at this
  exact absurd this (by decide)
theorem sp_S_isLost {σ : Hp} {α : Abs} {s : Nat} {P : Int32 → Hp → Prop} (hw : WF α) (hC : RC σ α) (hs : s < 4) (h1 : aT α s = false → P 1 σ) (h0 : aT α s = true → P 0 σ) : wp_S_isLost σ (10 + s) P := by
  obtain ⟨e1, e2, e3⟩ := hC.2.2.2.2.1 s hs
  have hf := (hw.2.2.2.2.2 s hs).1
  refine ⟨isS_s hs, ?_⟩
  rw [e1]
  cases hT : aT α s with
  | true => rw [if_pos rfl]; exact br_nt (m1_ne (by omega)) (h0 hT)
  | false => rw [if_neg (by decide)]; exact br_nf rfl (h1 hT)
theorem sp_R_there {τ : Hp} {α : Abs} {s : Nat} {A B : Prop} (hR : RR τ α) (hs : s < 4) (h1 : aT α s = false → B) (h0 : aT α s = true → A) : (¬ (τ 24 (ix (nI s))) = 0 → A) ∧ ((τ 24 (ix (nI s))) = 0 → B) := by
  rw [ixn (show s < 2 ^ 31 by omega), (hR.2.2.2.2.2.1 s hs).1]
  cases hT : aT α s with
  | true => rw [if_pos rfl]; exact br_nt one0 (h0 hT)
  | false => rw [if_neg (by decide)]; exact br_nf rfl (h1 hT)
theorem h_read : H_read Rel := by
  intro σ τ x1 hrel
  obtain ⟨α, hw, hC, hR⟩ := hrel
  have keep : Rel σ τ := ⟨α, hw, hC, hR⟩
  refine sp_P_isSheet (fun q => br_nt one0 ?_) (fun q => br_nf rfl (sp_R_isSheet (fun z => absurd z q) (fun _ => br_nf rfl ⟨rfl, keep⟩)))
  obtain ⟨s, hs, rfl⟩ := q
  refine ⟨pk_in s 4 hs, fun o15 e15 => ?_⟩
  rw [ixn (by omega)] at e15
  subst e15
  refine ⟨isS_s hs, sp_S_isLost hw hC hs (fun hT => br_f one0 ?_) (fun hT => br_t rfl ?_)⟩
  · unfold wp_P_found wp_R_read
    refine sp_R_isSheet (fun _ => br_nt one0 ⟨pk_in s 4 hs, ?_⟩) (fun z => absurd ⟨s, hs, rfl⟩ z)
    exact sp_R_there hR hs (fun _ => ⟨rfl, find_R hw hC hR⟩) (fun z => by rw [hT] at z; cases z)
  · have hL := (hw.2.2.2.2.2 s hs).2
    intro I hI
    refine P_read_loop hs hL hI 21 0 α σ rfl hw hC hT rfl rfl (fun ρ' hw2 hC2 => ?_)
    refine sp_R_isSheet (fun _ => br_nt one0 ⟨pk_in s 4 hs, sp_R_there hR hs (fun z => by rw [hT] at z; cases z) (fun _ => ?_)⟩) (fun z => absurd ⟨s, hs, rfl⟩ z)
    intro J hJ
    exact R_read_loop hs hL hJ 21 0 α τ rfl hw hR hT rfl rfl (fun τ' hR2 => ⟨rfl, _, hw2, hC2, hR2⟩)
