/-! rings -/
theorem opn_anti {c : Nat → Bool} {s s' last : Nat} (h : s ≤ s') : opn c s' last ≤ opn c s last := by
  unfold opn
  apply fb_ct_sub
  intro k _ hk
  rw [Bool.and_eq_true] at hk ⊢
  refine ⟨?_, hk.2⟩
  have := of_decide_eq_true hk.1
  exact decide_eq_true (by omega)
/-- a suit among the first k by which x owes y -/
def owB (γ : Dc) (last x y : Nat) : Nat → Bool
  | 0 => false
  | k + 1 => owB γ last x y k || decide (gX γ k = x ∧ gY γ k = y ∧ 0 < gU γ (gY γ k) (gX γ k) * opn (gC γ (gY γ k)) (gD γ k) last)
theorem owB_iff {γ : Dc} {last x y : Nat} : ∀ {n : Nat}, owB γ last x y n = true ↔ ∃ k, k < n ∧ gX γ k = x ∧ gY γ k = y ∧ 0 < gU γ (gY γ k) (gX γ k) * opn (gC γ (gY γ k)) (gD γ k) last := by
  intro n
  induction n with
  | zero => exact ⟨fun h => (by cases h), fun ⟨k, hk, _⟩ => (by omega)⟩
  | succ n ih =>
    show (owB γ last x y n || _) = true ↔ _
    rw [Bool.or_eq_true, ih, decide_eq_true_eq]
    constructor
    · rintro (⟨k, hk, h⟩ | h)
      · exact ⟨k, by omega, h⟩
      · exact ⟨n, by omega, h⟩
    · rintro ⟨k, hk, h⟩
      by_cases e : k = n
      · subst e; exact Or.inr h
      · exact Or.inl ⟨k, by omega, h⟩
def owe (γ : Dc) (last x y : Nat) : Bool := decide (0 < wonN γ last y x)
theorem owB_owe {γ : Dc} {last x y : Nat} (ht : ∀ k, k < gS γ → gT γ k = true) (hl : last < 30) : owB γ last x y (gS γ) = owe γ last x y := by
  unfold owe
  have : owB γ last x y (gS γ) = true ↔ 0 < wonN γ last y x := by
    rw [owB_iff]
    unfold wonN
    constructor
    · rintro ⟨k, hk, rfl, rfl, h⟩
      refine Nat.lt_of_lt_of_le h (Nat.mul_le_mul_left _ (opn_anti (sin_le hk (ht k hk) rfl rfl)))
    · intro h
      rcases sin_ex (γ := γ) (y := y) (x := x) (gS γ) with e | ⟨j, hj, h1, h2, h3, h4⟩
      · rw [e, opn_99 _ hl, Nat.mul_zero] at h
        omega
      · subst h2; subst h3
        exact ⟨j, hj, rfl, rfl, by rw [h4]; exact h⟩
  by_cases c : 0 < wonN γ last y x
  · rw [this.mpr c]; simp [c]
  · have h2 : owB γ last x y (gS γ) = false := by
      cases hc : owB γ last x y (gS γ) with
      | false => rfl
      | true => exact absurd (this.mp hc) c
    rw [h2]; simp [c]
def OwP (σ : Hp) (f : Nat → Nat → Bool) : Prop := ∀ x, x < 8 → ∃ m : Nat, σ 18 x = nI m ∧ m < 2 ^ 8 ∧ ∀ y, y < 8 → m.testBit y = f x y
theorem sp_D_fillOwing {σ : Hp} {γ : Dc} {last : Nat} {P : Hp → Prop} (hw : WD γ) (hP : PC σ γ) (ht : ∀ k, k < gS γ → gT γ k = true) (hl : last < 30) (h : ∀ ρ, Bt [18] σ ρ → OwP ρ (owe γ last) → P ρ) : wp_D_fillOwing σ (nI last) P := by
  have hS := hw.1.2
  have hH := hw.1.1
  refine sp_JA_fill rfl (by decide) ?_
  generalize hρ0 : (fun q => if q = 18 then fun i => if i < 8 then (0 : Int32) else σ 18 i else σ q : Hp) = ρ0
  have B0 : Bt [18] σ ρ0 := by
    intro q hq
    rw [← hρ0]
    exact if_neg (fun e => hq (by rw [e]; decide))
  have z0 : ∀ j, j < 8 → ρ0 18 j = 0 := by
    intro j hj
    rw [← hρ0]
    show (if 18 = 18 then _ else _ : Nat → Int32) j = 0
    rw [if_pos rfl]
    exact if_pos hj
  intro I hI
  have key : ∀ (m k : Nat) (ρ : Hp), k + m = gS γ → Bt [18] σ ρ → OwP ρ (fun x y => owB γ last x y k) → I ρ (nI last) (nI k) := by
    intro m
    induction m with
    | zero =>
      intro k ρ hk hB hi
      have : k = gS γ := by omega
      subst this
      apply hI
      unfold b_D_fillOwing_10_
      rw [(hP.bt hB (by simp; omega)).1.2]
      refine pk_le (gS γ) (gS γ) (fun _ => h ρ hB ?_) (fun c => absurd c (by omega))
      intro x hx
      obtain ⟨m, m1, m2, m3⟩ := hi x hx
      exact ⟨m, m1, m2, fun y hy => (m3 y hy).trans (owB_owe ht hl)⟩
    | succ m ih =>
      intro k ρ hk hB hi
      have hP2 := hP.bt hB (by simp; omega)
      obtain ⟨f1, f2, f3⟩ := hP2.2.1 k (by omega)
      obtain ⟨u1, u2, u3, u4⟩ := hw.2.1 k (by omega)
      have hbig : gU γ (gY γ k) (gX γ k) * opn (gC γ (gY γ k)) (gD γ k) last ≤ 81 * 32 := Nat.mul_le_mul (hw.2.2.1 _ _) (opn_le _ _ _)
      apply hI
      unfold b_D_fillOwing_10_
      rw [hP2.1.2]
      refine pk_le (gS γ) k (fun c => absurd c (by omega)) (fun _ => sp_D_won hw hP2 (by omega) hl ?_)
      refine pk_le (gU γ (gY γ k) (gX γ k) * opn (gC γ (gY γ k)) (gD γ k) last) 0 (fun c v e => ?_) (fun c => ?_)
      · rw [e, show nI k + 1 = nI (k + 1) from nI_1 k]
        refine ih (k + 1) ρ (by omega) hB (fun x hx => ?_)
        obtain ⟨m, m1, m2, m3⟩ := hi x hx
        refine ⟨m, m1, m2, fun y hy => ?_⟩
        rw [m3 y hy]
        show _ = (owB γ last x y k || _)
        rw [decide_eq_false (fun z => by omega), Bool.or_false]
      · rw [ixn (show k < 2 ^ 31 by omega), f2, f3, ixn (show gX γ k < 2 ^ 31 by omega), i_bit _ (by omega)]
        refine ⟨pk_in k 12 (by omega), pk_in _ 8 u3 (by rfl), pk_in k 12 (by omega), pk_in _ 8 u3 (by rfl), fun v e => ?_⟩
        rw [e, show nI k + 1 = nI (k + 1) from nI_1 k]
        refine ih (k + 1) _ (by omega) (hB.st (by decide)) (fun x hx => ?_)
        obtain ⟨m, m1, m2, m3⟩ := hi x hx
        rw [st_at]; unfold upd
        by_cases e : x = gX γ k
        · subst e
          rw [if_pos rfl, m1, i_or]
          refine ⟨_, rfl, Nat.or_lt_two_pow m2 (Nat.pow_lt_pow_right (by decide) u2), fun y hy => ?_⟩
          rw [or_two, m3 y hy]
          show _ = (owB γ last _ y k || _)
          congr 1
          by_cases e2 : gY γ k = y
          · rw [decide_eq_true e2, decide_eq_true ⟨rfl, e2, c⟩]
          · rw [decide_eq_false e2, decide_eq_false (fun z => e2 z.2.1)]
        · rw [if_neg e]
          refine ⟨m, m1, m2, fun y hy => ?_⟩
          rw [m3 y hy]
          show _ = (owB γ last x y k || _)
          rw [decide_eq_false (fun z => e z.1.symm), Bool.or_false]
  exact key (gS γ) 0 ρ0 (by omega) B0 (fun x hx => ⟨0, z0 x hx, by decide, fun y hy => by rw [Nat.zero_testBit]; rfl⟩)
theorem and3_bit {p q r i j k : Nat} : ((p / 2 ^ i &&& q / 2 ^ j) &&& r / 2 ^ k) &&& 1 = if (p.testBit i && q.testBit j && r.testBit k) = true then 1 else 0 := by
  have t : ∀ a b : Nat, (a / 2 ^ b).testBit 0 = a.testBit b := fun a b => by rw [Nat.testBit_div_two_pow, Nat.zero_add]
  have h : ((p / 2 ^ i &&& q / 2 ^ j) &&& r / 2 ^ k).testBit 0 = (p.testBit i && q.testBit j && r.testBit k) := by
    rw [Nat.testBit_and, Nat.testBit_and, t, t, t]
  rw [Nat.and_one_is_mod]
  rw [Nat.testBit_zero] at h
  by_cases c : ((p / 2 ^ i &&& q / 2 ^ j) &&& r / 2 ^ k) % 2 = 1
  · rw [decide_eq_true c] at h
    rw [← h, if_pos rfl]; exact c
  · rw [decide_eq_false c] at h
    rw [← h, if_neg (by simp)]; omega
theorem sp_D_oweRound {σ : Hp} {f : Nat → Nat → Bool} {a b c : Nat} {P : Int32 → Hp → Prop} (hO : OwP σ f) (ha : a < 8) (hb : b < 8) (hc : c < 8) (h1 : (f a b && f b c && f c a) = true → P 1 σ) (h0 : (f a b && f b c && f c a) = false → P 0 σ) : wp_D_oweRound σ (nI a) (nI b) (nI c) P := by
  obtain ⟨p, p1, p2, p3⟩ := hO a ha
  obtain ⟨q, q1, q2, q3⟩ := hO b hb
  obtain ⟨r, r1, r2, r3⟩ := hO c hc
  refine ⟨pk_in a 8 ha, pk_in b 8 hb, pk_in c 8 hc, ?_⟩
  have e1 : (1 : Int32) = nI 1 := rfl
  rw [ixn (show a < 2 ^ 31 by omega), ixn (show b < 2 ^ 31 by omega), ixn (show c < 2 ^ 31 by omega), p1, q1, r1, pk_shrN (by omega) (nI b &&& 31) b (i_sm b (by omega)), pk_shrN (by omega) (nI c &&& 31) c (i_sm c (by omega)), pk_shrN (by omega) (nI a &&& 31) a (i_sm a (by omega)), i_and, i_and, e1, i_and, and3_bit, p3 b hb, q3 c hc, r3 a ha]
  cases hh : (f a b && f b c && f c a) with
  | true => exact br_nf rfl (h1 hh)
  | false => exact br_nt (by decide) (h0 hh)
def ringB (γ : Dc) (last a b c : Nat) : Bool := (owe γ last a b && owe γ last b c && owe γ last c a) || (owe γ last b a && owe γ last c b && owe γ last a c)
theorem sp_D_isRing {σ : Hp} {γ : Dc} {last a b c : Nat} {P : Int32 → Hp → Prop} (hO : OwP σ (owe γ last)) (ha : a < 8) (hb : b < 8) (hc : c < 8) (h1 : ringB γ last a b c = true → P 1 σ) (h0 : ringB γ last a b c = false → P 0 σ) : wp_D_isRing σ (nI a) (nI b) (nI c) P := by
  unfold ringB at h1 h0
  refine sp_D_oweRound hO ha hb hc (fun q => br_nt one0 (h1 (by rw [q]; rfl))) (fun q => br_nf rfl ?_)
  rw [q, Bool.false_or] at h1 h0
  have e : (owe γ last a c && owe γ last c b && owe γ last b a) = (owe γ last b a && owe γ last c b && owe γ last a c) := by
    cases owe γ last a c <;> cases owe γ last c b <;> cases owe γ last b a <;> rfl
  exact sp_D_oweRound hO ha hc hb (fun q2 => br_f one0 (h1 (by rw [← e]; exact q2))) (fun q2 => br_t rfl (h0 (by rw [← e]; exact q2)))
def rgS (R : Bool) (v : Int32) (s : Int32 × Int32) : Int32 × Int32 := if R = true then (s.1 + 1, if s.2 = -1 then v else s.2) else s
def rg3 (γ : Dc) (last a b : Nat) : Nat → Int32 × Int32 → Int32 × Int32 := fun c s => rgS (ringB γ last a b c) (64 * nI a + 8 * nI b + nI c) s
def rg2 (γ : Dc) (last H a : Nat) : Nat → Int32 × Int32 → Int32 × Int32 := fun b s => itr (rg3 γ last a b) (b + 1) (H - (b + 1)) s
def rg1 (γ : Dc) (last H : Nat) : Nat → Int32 × Int32 → Int32 × Int32 := fun a s => itr (rg2 γ last H a) (a + 1) (H - (a + 1)) s
def rgV (γ : Dc) (last H : Nat) : Int32 × Int32 := itr (rg1 γ last H) 0 H (0, -1)
def rgA (γ : Dc) (last H : Nat) (w : Int32) : Int32 := if w = 0 then (rgV γ last H).1 else (rgV γ last H).2
theorem sp_P_rings19 {σ : Hp} {α : Abs} {last : Nat} {x : Int32} {P : Int32 → Hp → Prop} (hw : WF α) (hC : RC σ α) (hl : last < 30) (h1 : ∀ ρ, RC ρ α → P (rgA (ctA α) last (nH α) x) ρ) : j_P_rings_19 P σ (nI last) x := by
  have hH := nH_le hw
  refine sp_D_fillOwing (γ := ctA α) (WD_ctx hw _) (PC_ctx hC _) (fun _ _ => rfl) hl (fun ρ hB hO => ?_)
  have h1 := h1 ρ (hC.fr (hB.mono (by decide)))
  have e46 : ρ 4 6 = nI (nH α) := by rw [hB 4 (by decide)]; exact hC.2.1.1.1
  intro I hI
  have key : ∀ (m a : Nat) (s : Int32 × Int32), a + m = nH α → itr (rg1 (ctA α) last (nH α)) a m s = rgV (ctA α) last (nH α) → I ρ x s.1 s.2 (nI a) := by
    intro m
    induction m with
    | zero =>
      intro a s ha hs
      have : a = nH α := by omega
      subst this
      have hs : s = rgV (ctA α) last (nH α) := hs
      subst hs
      apply hI
      unfold b_P_rings_35_
      rw [e46]
      unfold rgA at h1
      exact pk_le (nH α) (nH α) (fun _ => ⟨fun c => by rw [if_neg c] at h1; exact h1, fun c => by rw [if_pos c] at h1; exact h1⟩) (fun c => absurd c (by omega))
    | succ m ih =>
      intro a s ha hs
      apply hI
      unfold b_P_rings_35_
      rw [e46]
      refine pk_le (nH α) a (fun c => absurd c (by omega)) (fun _ v17 e17 => ?_)
      rw [e17, show nI a + 1 = nI (a + 1) from nI_1 a]
      intro J hJ
      have key2 : ∀ (m2 b : Nat) (s : Int32 × Int32), b + m2 = nH α → itr (rg1 (ctA α) last (nH α)) (a + 1) m (itr (rg2 (ctA α) last (nH α) a) b m2 s) = rgV (ctA α) last (nH α) → J ρ x s.1 s.2 (nI a) (nI b) := by
        intro m2
        induction m2 with
        | zero =>
          intro b s hb hs
          have : b = nH α := by omega
          subst this
          apply hJ
          unfold b_P_rings_53_
          rw [e46]
          refine pk_le (nH α) (nH α) (fun _ v e => ?_) (fun c => absurd c (by omega))
          rw [e, show nI a + 1 = nI (a + 1) from nI_1 a]
          exact ih (a + 1) s (by omega) hs
        | succ m2 ih2 =>
          intro b s hb hs
          apply hJ
          unfold b_P_rings_53_
          rw [e46]
          refine pk_le (nH α) b (fun c => absurd c (by omega)) (fun _ v14 e14 => ?_)
          rw [e14, show nI b + 1 = nI (b + 1) from nI_1 b]
          intro K hK
          have key3 : ∀ (m3 c : Nat) (s : Int32 × Int32), c + m3 = nH α → itr (rg1 (ctA α) last (nH α)) (a + 1) m (itr (rg2 (ctA α) last (nH α) a) (b + 1) m2 (itr (rg3 (ctA α) last a b) c m3 s)) = rgV (ctA α) last (nH α) → K ρ x s.1 s.2 (nI a) (nI b) (nI c) := by
            intro m3
            induction m3 with
            | zero =>
              intro c s hc hs
              have : c = nH α := by omega
              subst this
              apply hK
              unfold b_P_rings_71_
              rw [e46]
              refine pk_le (nH α) (nH α) (fun _ v e => ?_) (fun c => absurd c (by omega))
              rw [e, show nI b + 1 = nI (b + 1) from nI_1 b]
              exact ih2 (b + 1) s (by omega) hs
            | succ m3 ih3 =>
              intro c s hc hs
              have ih3 := fun s' => ih3 (c + 1) s' (by omega)
              have hs : itr (rg1 (ctA α) last (nH α)) (a + 1) m (itr (rg2 (ctA α) last (nH α) a) (b + 1) m2 (itr (rg3 (ctA α) last a b) (c + 1) m3 (rgS (ringB (ctA α) last a b c) (64 * nI a + 8 * nI b + nI c) s))) = rgV (ctA α) last (nH α) := hs
              unfold rgS at hs
              apply hK
              unfold b_P_rings_71_
              rw [e46]
              refine pk_le (nH α) c (fun c => absurd c (by omega)) (fun _ => sp_D_isRing hO (by omega) (by omega) (by omega) (fun q => br_nt one0 (fun v6 e6 => ?_)) (fun q => br_nf rfl (fun v e => ?_)))
              · rw [if_pos q] at hs
                subst e6
                refine ⟨fun c2 v e => ?_, fun c2 v9 e9 v e => ?_⟩
                · rw [if_neg c2] at hs
                  rw [e, show nI c + 1 = nI (c + 1) from nI_1 c]
                  exact ih3 _ hs
                · rw [if_pos c2] at hs
                  rw [e9, e, show nI c + 1 = nI (c + 1) from nI_1 c]
                  exact ih3 _ hs
              · rw [if_neg (by rw [q]; simp)] at hs
                rw [e, show nI c + 1 = nI (c + 1) from nI_1 c]
                exact ih3 _ hs
          exact key3 (nH α - (b + 1)) (b + 1) s (by omega) hs
      exact key2 (nH α - (a + 1)) (a + 1) s (by omega) hs
  exact key (nH α) 0 (0, -1) (by omega) rfl
theorem sp_P_rings {σ : Hp} {α : Abs} {d x : Int32} {P : Int32 → Hp → Prop} (hw : WF α) (hC : RC σ α) (h1 : ∀ last ρ, last < 30 → d = nI last → isD x 2 → RC ρ α → P (rgA (ctA α) last (nH α) x) ρ) (h0 : ¬ (isD d 30 ∧ isD x 2) → P (-2) σ) : wp_P_rings σ d x P := by
  refine sp_P_isDay (fun q0 => br_f one0 ?_) (fun q => br_t rfl (h0 (fun z => q z.1)))
  obtain ⟨last, hl, rfl⟩ := q0
  refine ⟨fun c => sp_P_rings19 hw hC hl (fun ρ hC2 => h1 last ρ hl rfl ⟨0, by decide, c⟩ hC2), fun c => ⟨fun c2 => sp_P_rings19 hw hC hl (fun ρ hC2 => h1 last ρ hl rfl ⟨1, by decide, c2⟩ hC2), fun c2 => h0 ?_⟩⟩
  rintro ⟨-, k, hk, e⟩
  rcases (show k = 0 ∨ k = 1 by omega) with rfl | rfl
  · exact c e
  · exact c2 e
theorem sp_R_isOwed {τ : Hp} {γ : Dc} {last x y : Nat} {P : Int32 → Hp → Prop} (hw : WD γ) (hP : PR τ γ) (hl : last < 30) (hx : x < gH γ) (hy : y < gH γ) (hxy : x ≠ y) (h1 : owe γ last x y = true → P 1 τ) (h0 : owe γ last x y = false → P 0 τ) : wp_R_isOwed τ (nI last) (nI x) (nI y) P := by
  have hb := wonN_le hw last y x
  unfold owe at h1 h0
  refine sp_R_owesNow hw hP hl hx hy hxy (pk_le (wonN γ last y x) 0 (fun c => h0 (decide_eq_false (by omega))) (fun c => h1 (decide_eq_true c)))
theorem sp_R_ringsOf {τ : Hp} {α : Abs} {last : Nat} {x : Int32} {P : Int32 → Hp → Prop} (hw : WF α) (hR : RR τ α) (hl : last < 30) (h1 : ∀ ρ, RR ρ α → Rd ρ α → P (rgA (ctA α) last (nH α) x) ρ) : wp_R_ringsOf τ (nI last) x P := by
  have hH := nH_le hw
  refine sp_R_laysTold hw hR (fun ρ hT hP => ?_)
  have h1 := h1 ρ hT.1 hT.2.1
  have e02 : ρ 0 2 = nI (nH α) := hT.2.1.1.1
  have hwd : WD (ctA α) := WD_ctx hw _
  intro I hI
  have key : ∀ (m a : Nat) (s : Int32 × Int32), a + m = nH α → itr (rg1 (ctA α) last (nH α)) a m s = rgV (ctA α) last (nH α) → I ρ (nI last) x s.1 s.2 (nI a) := by
    intro m
    induction m with
    | zero =>
      intro a s ha hs
      have : a = nH α := by omega
      subst this
      have hs : s = rgV (ctA α) last (nH α) := hs
      subst hs
      apply hI
      unfold b_R_ringsOf_12_
      rw [e02]
      unfold rgA at h1
      exact pk_le (nH α) (nH α) (fun _ => ⟨fun c => by rw [if_neg c] at h1; exact h1, fun c => by rw [if_pos c] at h1; exact h1⟩) (fun c => absurd c (by omega))
    | succ m ih =>
      intro a s ha hs
      apply hI
      unfold b_R_ringsOf_12_
      rw [e02]
      refine pk_le (nH α) a (fun c => absurd c (by omega)) (fun _ v17 e17 => ?_)
      rw [e17, show nI a + 1 = nI (a + 1) from nI_1 a]
      intro J hJ
      have key2 : ∀ (m2 b : Nat) (s : Int32 × Int32), b + m2 = nH α → a < b → itr (rg1 (ctA α) last (nH α)) (a + 1) m (itr (rg2 (ctA α) last (nH α) a) b m2 s) = rgV (ctA α) last (nH α) → J ρ (nI last) x s.1 s.2 (nI a) (nI b) := by
        intro m2
        induction m2 with
        | zero =>
          intro b s hb hab hs
          have : b = nH α := by omega
          subst this
          apply hJ
          unfold b_R_ringsOf_27_
          rw [e02]
          refine pk_le (nH α) (nH α) (fun _ v e => ?_) (fun c => absurd c (by omega))
          rw [e, show nI a + 1 = nI (a + 1) from nI_1 a]
          exact ih (a + 1) s (by omega) hs
        | succ m2 ih2 =>
          intro b s hb hab hs
          apply hJ
          unfold b_R_ringsOf_27_
          rw [e02]
          refine pk_le (nH α) b (fun c => absurd c (by omega)) (fun _ v14 e14 => ?_)
          rw [e14, show nI b + 1 = nI (b + 1) from nI_1 b]
          intro K hK
          have key3 : ∀ (m3 c : Nat) (s : Int32 × Int32), c + m3 = nH α → b < c → itr (rg1 (ctA α) last (nH α)) (a + 1) m (itr (rg2 (ctA α) last (nH α) a) (b + 1) m2 (itr (rg3 (ctA α) last a b) c m3 s)) = rgV (ctA α) last (nH α) → K ρ (nI last) x s.1 s.2 (nI a) (nI b) (nI c) := by
            intro m3
            induction m3 with
            | zero =>
              intro c s hc hbc hs
              have : c = nH α := by omega
              subst this
              apply hK
              unfold b_R_ringsOf_42_
              rw [e02]
              refine pk_le (nH α) (nH α) (fun _ v e => ?_) (fun c => absurd c (by omega))
              rw [e, show nI b + 1 = nI (b + 1) from nI_1 b]
              exact ih2 (b + 1) s (by omega) (by omega) hs
            | succ m3 ih3 =>
              intro c s hc hbc hs
              have ih3 := fun s' => ih3 (c + 1) s' (by omega) (by omega)
              have hs : itr (rg1 (ctA α) last (nH α)) (a + 1) m (itr (rg2 (ctA α) last (nH α) a) (b + 1) m2 (itr (rg3 (ctA α) last a b) (c + 1) m3 (rgS (ringB (ctA α) last a b c) (64 * nI a + 8 * nI b + nI c) s))) = rgV (ctA α) last (nH α) := hs
              unfold rgS at hs
              -- at the end of the test
              have f165 : ringB (ctA α) last a b c = true → j_R_ringsOf_165 P I J K ρ (nI last) x (s.1 + 1) s.2 (nI a) (nI b) (nI c) := by
                intro q
                rw [if_pos q] at hs
                refine ⟨fun c2 v e => ?_, fun c2 v9 e9 v e => ?_⟩
                · rw [if_neg c2] at hs
                  rw [e, show nI c + 1 = nI (c + 1) from nI_1 c]
                  exact ih3 _ hs
                · rw [if_pos c2] at hs
                  rw [e9, e, show nI c + 1 = nI (c + 1) from nI_1 c]
                  exact ih3 _ hs
              -- one, other: bits
              have f135 : ∀ p q : Bool, ringB (ctA α) last a b c = (p || q) → j_R_ringsOf_135 P I J K ρ (nI last) x s.1 s.2 (nI a) (nI b) (nI c) (if p = true then 1 else 0) (if q = true then 1 else 0) := by
                intro p q e
                cases p with
                | true =>
                  rw [if_pos rfl]
                  refine br_nt one0 (fun v5 e5 => ?_)
                  rw [e5]
                  exact br_nt one0 (f165 (by rw [e]; rfl))
                | false =>
                  rw [if_neg (by simp)]
                  cases q with
                  | true =>
                    rw [if_pos rfl]
                    refine br_nf rfl (br_f one0 (fun v5 e5 => ?_))
                    rw [e5]
                    exact br_nf rfl (br_f one0 (f165 (by rw [e]; rfl)))
                  | false =>
                    rw [if_neg (by simp)]
                    refine br_nf rfl (br_t rfl (fun v5 e5 => br_nf rfl (br_t rfl (fun v8 e8 => ?_))))
                    rw [if_neg (by rw [e]; simp)] at hs
                    rw [e5, e8, show nI c + 1 = nI (c + 1) from nI_1 c, Int32.add_zero]
                    exact ih3 _ hs
              have f92 : ∀ p : Bool, p = (owe (ctA α) last a b && owe (ctA α) last b c && owe (ctA α) last c a) → j_R_ringsOf_92 P I J K ρ (nI last) x s.1 s.2 (nI a) (nI b) (nI c) (if p = true then 1 else 0) := by
                intro p ep
                have er : ringB (ctA α) last a b c = (p || (owe (ctA α) last b a && owe (ctA α) last c b && owe (ctA α) last a c)) := by rw [ep]; rfl
                have no : (owe (ctA α) last b a && owe (ctA α) last c b && owe (ctA α) last a c) = false → j_R_ringsOf_134 P I J K ρ (nI last) x s.1 s.2 (nI a) (nI b) (nI c) (if p = true then 1 else 0) := fun e => f135 p false (by rw [er, e])
                refine sp_R_isOwed (γ := ctA α) hwd hP hl (show b < nH α by omega) (show a < nH α by omega) (by omega) (fun g1 => br_f one0 ?_) (fun g => br_t rfl (no (by rw [g]; rfl)))
                refine sp_R_isOwed (γ := ctA α) hwd hP hl (show c < nH α by omega) (show b < nH α by omega) (by omega) (fun g2 => br_f one0 ?_) (fun g => br_t rfl (no (by rw [g, g1]; rfl)))
                refine sp_R_isOwed (γ := ctA α) hwd hP hl (show a < nH α by omega) (show c < nH α by omega) (by omega) (fun g3 => br_f one0 ?_) (fun g => br_t rfl (no (by rw [g, g1, g2]; rfl)))
                exact f135 p true (by rw [er, g1, g2, g3]; rfl)
              have no : (owe (ctA α) last a b && owe (ctA α) last b c && owe (ctA α) last c a) = false → j_R_ringsOf_91 P I J K ρ (nI last) x s.1 s.2 (nI a) (nI b) (nI c) := fun e => f92 false e.symm
              apply hK
              unfold b_R_ringsOf_42_
              rw [e02]
              refine pk_le (nH α) c (fun c => absurd c (by omega)) (fun _ => ?_)
              refine sp_R_isOwed (γ := ctA α) hwd hP hl (show a < nH α by omega) (show b < nH α by omega) (by omega) (fun g1 => br_f one0 ?_) (fun g => br_t rfl (no (by rw [g]; rfl)))
              refine sp_R_isOwed (γ := ctA α) hwd hP hl (show b < nH α by omega) (show c < nH α by omega) (by omega) (fun g2 => br_f one0 ?_) (fun g => br_t rfl (no (by rw [g, g1]; rfl)))
              refine sp_R_isOwed (γ := ctA α) hwd hP hl (show c < nH α by omega) (show a < nH α by omega) (by omega) (fun g3 => br_f one0 ?_) (fun g => br_t rfl (no (by rw [g, g1, g2]; rfl)))
              exact f92 true (by rw [g1, g2, g3]; rfl)
          exact key3 (nH α - (b + 1)) (b + 1) s (by omega) (by omega) hs
      exact key2 (nH α - (a + 1)) (a + 1) s (by omega) (by omega) hs
  exact key (nH α) 0 (0, -1) (by omega) rfl
theorem h_rings : H_rings Rel := by
  intro σ τ x1 x2 hrel
  obtain ⟨α, hw, hC, hR⟩ := hrel
  refine sp_P_rings hw hC (fun last ρ hl e q2 hC2 => ?_) (fun n => ?_)
  · exact sp_R_isDay (fun _ => br_f one0 (sp_R_in 1 rfl (by decide) (fun _ => br_f one0 (by rw [e]; exact sp_R_ringsOf hw hR hl (fun ρ2 hR2 _ => ⟨rfl, α, hw, hC2, hR2⟩))) (fun z => absurd q2 z))) (fun z => absurd ⟨last, hl, e⟩ z)
  · exact sp_R_isDay (fun q1 => br_f one0 (sp_R_in 1 rfl (by decide) (fun q2 => absurd ⟨q1, q2⟩ n) (fun _ => br_t rfl ⟨rfl, α, hw, hC, hR⟩))) (fun _ => br_t rfl ⟨rfl, α, hw, hC, hR⟩)
