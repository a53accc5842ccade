/-! court: the class's bench -/
theorem opn_late {c : Nat → Bool} {s last : Nat} (h : last < s) : opn c s last = 0 := by
  unfold opn
  rw [fb_ct_zero]
  intro i _
  by_cases h1 : s ≤ i
  · have : ¬ i ≤ last := by omega
    simp [this]
  · simp [h1]
def wK (α : Abs) (last k : Nat) : Nat := dueA α (aY α k) (aX α k) * opn (cld α (aY α k)) (aD α k) last
def bnB (α : Abs) (last h k : Nat) : Bool := decide ((aY α k = h ∨ aX α k = h) ∧ wK α last k ≠ 0)
def btN (α : Abs) (h k : Nat) : Nat := if aY α k = h then aX α k else 8 + aY α k
def gZ (α : Abs) (last h k : Nat) : Int := if aY α k = h then (wK α last k : Int) else -(wK α last k : Int)
def psN (α : Abs) (k : Nat) : Nat := 12 * aD α k + k
def crJ (α : Abs) (last h : Nat) : Jd := (aS α, bnB α last h, btN α h, gZ α last h, psN α)
theorem WJ_cr {α : Abs} (hw : WF α) (last h : Nat) : WJ (crJ α last h) := by
  have hS := hw.2.2.1.1
  refine ⟨fun j k hj hk e => ?_, fun k hk => ?_⟩
  · have hj : j < aS α := hj
    have hk : k < aS α := hk
    have e : 12 * aD α j + j = 12 * aD α k + k := e
    omega
  · have hk : k < aS α := hk
    have := (hw.2.2.1.2 k hk).1
    show 12 * aD α k + k < 360
    omega
theorem same_pair {α : Abs} (hw : WF α) {last h j k : Nat} (hj : j < aS α) (hk : k < aS α) (bj : bnB α last h j = true) (bk : bnB α last h k = true) (e : btN α h j = btN α h k) : aY α j = aY α k ∧ aX α j = aX α k := by
  obtain ⟨j1, j2, j3, j4⟩ := hw.2.2.1.2 j hj
  obtain ⟨k1, k2, k3, k4⟩ := hw.2.2.1.2 k hk
  have cj := (of_decide_eq_true bj).1
  have ck := (of_decide_eq_true bk).1
  unfold btN at e
  by_cases c1 : aY α j = h
  · rw [if_pos c1] at e
    by_cases c2 : aY α k = h
    · rw [if_pos c2] at e
      exact ⟨by omega, e⟩
    · rw [if_neg c2] at e; omega
  · rw [if_neg c1] at e
    by_cases c2 : aY α k = h
    · rw [if_pos c2] at e; omega
    · rw [if_neg c2] at e
      have := cj.resolve_left c1
      have := ck.resolve_left c2
      exact ⟨by omega, by omega⟩
theorem ld_lead {α : Abs} (hw : WF α) {last h k : Nat} {b : Nat → Bool} (hk : k < aS α) (hb : bnB α last h k = true) : ldB (ctx α (fun j => !b j)) (aS α) k = leadB (crJ α last h) b k := by
  have hS := hw.2.2.1.1
  apply beq_of
  unfold ldB
  rw [Bool.and_eq_true, ldN_iff, lead_iff]
  constructor
  · rintro ⟨h1, h2⟩
    have h1 : (!b k) = true := h1
    refine ⟨by simpa using h1, fun j hj a1 a2 a3 => ?_⟩
    have hj : j < aS α := hj
    obtain ⟨s1, s2⟩ := same_pair hw hj hk a1 hb a3
    have h3 := okj_iff.mp (h2 j hj) (by show (!b j) = true; rw [a2]; rfl) s1 s2
    have h4 : aD α k ≤ aD α j ∧ (aD α j = aD α k → k ≤ j) := h3
    show 12 * aD α k + k ≤ 12 * aD α j + j
    by_cases c : aD α j = aD α k
    · have := h4.2 c; omega
    · omega
  · rintro ⟨h1, h2⟩
    refine ⟨by show (!b k) = true; rw [h1]; rfl, fun j hj => okj_iff.mpr (fun t eY eX => ?_)⟩
    have t : (!b j) = true := t
    have eY : aY α j = aY α k := eY
    have eX : aX α j = aX α k := eX
    show aD α k ≤ aD α j ∧ (aD α j = aD α k → k ≤ j)
    by_cases c : psN α k ≤ psN α j
    · have c : 12 * aD α k + k ≤ 12 * aD α j + j := c
      refine ⟨by omega, fun z => by omega⟩
    · exfalso
      have c2 : ¬ 12 * aD α k + k ≤ 12 * aD α j + j := c
      have hk2 := of_decide_eq_true hb
      have hw2 : wK α last k ≤ wK α last j := by
        unfold wK
        rw [eY, eX]
        exact Nat.mul_le_mul_left _ (opn_anti (by omega))
      have hbj : bnB α last h j = true := decide_eq_true ⟨by rw [eY, eX]; exact hk2.1, by have := hk2.2; omega⟩
      refine c (h2 j hj hbj (by simpa using t) ?_)
      show btN α h j = btN α h k
      unfold btN
      rw [eY, eX]
theorem cr_bal {α : Abs} (hw : WF α) {last h : Nat} (hl : last < 30) (hh : h < nH α) (b : Nat → Bool) : balZ (ctx α (fun j => !b j)) last h = balP (crJ α last h) 360 b := by
  rw [← bal_perK (γ := ctx α (fun j => !b j)) (WD_ctx hw _) hl hh]
  show fb_si (perK (ctx α (fun j => !b j)) last h) (aS α) = fb_si (fun k => if (decide (psN α k < 360) && (bnB α last h k && leadB (crJ α last h) b k)) = true then gZ α last h k else 0) (aS α)
  apply fb_si_cong
  intro k hk
  have h360 : psN α k < 360 := (WJ_cr hw last h).2 k hk
  rw [decide_eq_true h360, Bool.true_and]
  show (if ldB (ctx α (fun j => !b j)) (aS α) k = true then (if aY α k = h then ((wK α last k : Nat) : Int) else if aX α k = h then -((wK α last k : Nat) : Int) else 0) else 0) = _
  cases hb : bnB α last h k with
  | false =>
    have hz := of_decide_eq_false hb
    rw [Bool.false_and, if_neg (show ¬ false = true by simp)]
    split
    · by_cases c : aY α k = h
      · rw [if_pos c]
        have : wK α last k = 0 := Classical.byContradiction (fun z => hz ⟨Or.inl c, z⟩)
        rw [this]; rfl
      · rw [if_neg c]
        by_cases c2 : aX α k = h
        · rw [if_pos c2]
          have : wK α last k = 0 := Classical.byContradiction (fun z => hz ⟨Or.inr c2, z⟩)
          rw [this]; rfl
        · rw [if_neg c2]
    · rfl
  | true =>
    have ht := (of_decide_eq_true hb).1
    rw [Bool.true_and, ld_lead hw hk hb]
    unfold gZ
    split
    · by_cases c : aY α k = h
      · rw [if_pos c, if_pos c]
      · rw [if_neg c, if_neg c, if_pos (ht.resolve_left c)]
    · rfl
/-- the bench, behind those of the suits that lie ahead of p in the order -/
def BnP (σ : Hp) (J : Jd) (p : Nat) : Prop := σ 7 2 = nI (rJ J p) ∧ ∀ j, j < jS J → jB J j = true → jP J j < p → σ 36 (rJ J (jP J j)) = Int32.ofInt (jG J j) ∧ σ 37 (rJ J (jP J j)) = nI (2 ^ jT J j)
theorem BnP_congr {σ : Hp} {J : Jd} {p q : Nat} (hB : BnP σ J p) (h : ∀ j, j < jS J → jB J j = true → (jP J j < p ↔ jP J j < q)) : BnP σ J q := by
  refine ⟨?_, fun j hj hb hq => hB.2 j hj hb ((h j hj hb).mpr hq)⟩
  have : rJ J q = rJ J p := by
    unfold rJ
    apply fb_ct_cong
    intro k hk
    cases hb : jB J k with
    | false => rfl
    | true =>
      rw [Bool.true_and, Bool.true_and]
      apply beq_of
      rw [decide_eq_true_eq, decide_eq_true_eq]
      exact (h k hk hb).symm
  rw [this]; exact hB.1
theorem sp_B_take {σ : Hp} {α : Abs} {last h k p : Nat} {P : Hp → Prop} (hw : WF α) (hC : RC σ α) (hl : last < 30) (hh : h < nH α) (hk : k < aS α) (hp : psN α k = p) (hB : BnP σ (crJ α last h) p) (k1 : ∀ ρ, Bt [7, 36, 37] σ ρ → BnP ρ (crJ α last h) (p + 1) → P ρ) : wp_B_take σ (nI k) (nI last) (nI h) P := by
  have hS := hw.2.2.1.1
  have hH := nH_le hw
  have hJ := WJ_cr hw last h
  obtain ⟨u1, u2, u3, u4⟩ := hw.2.2.1.2 k hk
  obtain ⟨f1, f2, f3⟩ := hC.2.1.2.2.2.1.2 k hk
  have hwb : wK α last k ≤ 81 * 32 := Nat.mul_le_mul ((WD_ctx hw T1).2.2.1 _ _) (opn_le _ _ _)
  have stay : bnB α last h k = false → P σ := by
    intro hb
    refine k1 σ (Bt.rf _ _) (BnP_congr hB (fun j hj hbj => ?_))
    have : j ≠ k := fun e => by
      have hbj : bnB α last h j = true := hbj
      rw [e, hb] at hbj; cases hbj
    have hne : jP (crJ α last h) j ≠ p := fun e => this (hJ.1 j k hj hk (e.trans hp.symm))
    omega
  have go : bnB α last h k = true → ∀ s2 : Int32, s2 = Int32.ofInt (gZ α last h k) → j_B_take_73 P σ (nI h) (nI (aY α k)) (nI (aX α k)) (σ 7 2) s2 := by
    intro hb s2 es
    have hr := rJ_step hJ hk hp hb
    have hr12 : rJ (crJ α last h) (p + 1) ≤ aS α := fb_ct_le _ _
    have e72 := hB.1
    generalize hn : rJ (crJ α last h) p = n at hr e72
    have fin : ∀ bt, bt = btN α h k → P (st (st (st σ 36 n s2) 37 n (nI (2 ^ bt))) 7 2 (nI n + 1)) := by
      intro bt eb
      refine k1 _ (((Bt.rf _ σ).st (by decide)).st (by decide) |>.st (by decide)) ⟨?_, fun j hj hbj hpj => ?_⟩
      · rw [st_at, hr]; unfold upd; rw [if_pos rfl]; exact nI_1 n
      · rw [st_ne _ _ _ (by decide), st_ne _ _ _ (by decide), st_at, st_ne _ _ _ (by decide), st_at]
        unfold upd
        by_cases e : j = k
        · subst e
          have ej : rJ (crJ α last h) (jP (crJ α last h) j) = n := by
            have : jP (crJ α last h) j = p := hp
            rw [this, hn]
          rw [ej, if_pos rfl, if_pos rfl]
          exact ⟨es, by rw [eb]; rfl⟩
        · have hne : jP (crJ α last h) j ≠ p := fun z => e (hJ.1 j k hj hk (z.trans hp.symm))
          have h1 := rJ_step hJ hj rfl hbj
          have h2 : rJ (crJ α last h) (jP (crJ α last h) j + 1) ≤ rJ (crJ α last h) p := rJ_mono (by omega)
          rw [if_neg (by omega), if_neg (by omega)]
          exact hB.2 j hj hbj (by omega)
    unfold j_B_take_73
    rw [e72, ixn (show n < 2 ^ 31 by omega)]
    simp (disch := decide) only [st_ne, e72, ixn (show n < 2 ^ 31 by omega)]
    refine ⟨pk_in n 12 (by omega), fun c => ⟨pk_in n 12 (by omega), ?_⟩, fun c => ⟨pk_in n 12 (by omega), ?_⟩⟩
    · have cY : ¬ aY α k = h := fun z => c (by rw [z])
      rw [show (8 : Int32) = nI 8 from rfl, nI_add, i_bit _ (by omega)]
      exact fin (8 + aY α k) (by unfold btN; rw [if_neg cY])
    · have cY : aY α k = h := (nI_eq (by omega) (by omega)).mp c
      rw [i_bit _ (by omega)]
      exact fin (aX α k) (by unfold btN; rw [if_pos cY])
  have j44 : (aY α k = h ∨ aX α k = h) → j_B_take_44 P σ (nI h) (nI (aY α k)) (nI (aX α k)) (nI (wK α last k)) := by
    intro hor
    refine pk_ne (wK α last k) 0 (fun c => ?_) (fun c => stay (decide_eq_false (fun z => z.2 c)))
    have hb : bnB α last h k = true := decide_eq_true ⟨hor, c⟩
    refine pk_ne (aY α k) h (fun c2 => go hb _ ?_) (fun c2 => go hb _ ?_)
    · unfold gZ; rw [if_neg c2, ofI_nI, Int32.ofInt_neg]
    · unfold gZ; rw [if_pos c2, ofI_nI]
  unfold wp_B_take
  rw [ixn (show k < 2 ^ 31 by omega), f2, f3]
  refine ⟨pk_in k 12 (by omega), fun v8 e8 => ⟨pk_in k 12 (by omega), fun v10 e10 => ?_⟩⟩
  subst e8; subst e10
  refine sp_D_won (γ := ctA α) (WD_ctx hw _) (PC_ctx hC _) hk hl ?_
  refine pk_eq (aY α k) h (fun c => j44 (Or.inl c)) (fun c => pk_ne (aX α k) h (fun c2 => stay (decide_eq_false (fun z => z.1.elim c c2))) (fun c2 => j44 (Or.inr c2)))
theorem sp_B_hear {σ : Hp} {α : Abs} {last h : Nat} {P : Hp → Prop} (hw : WF α) (hC : RC σ α) (hl : last < 30) (hh : h < nH α) (k1 : ∀ ρ, Bt [7, 36, 37] σ ρ → BnP ρ (crJ α last h) 360 → P ρ) : wp_B_hear σ (nI last) (nI h) P := by
  have hS := hw.2.2.1.1
  have hJ := WJ_cr hw last h
  have rc : ∀ ρ, Bt [7, 36, 37] σ ρ → RC ρ α := fun ρ hB => hC.fr (hB.mono (by decide))
  have B0 : Bt [7, 36, 37] σ (st σ 7 2 0) := (Bt.rf _ σ).st (by decide)
  have P0 : BnP (st σ 7 2 0) (crJ α last h) (12 * 0) := by
    refine ⟨?_, fun j _ _ z => by omega⟩
    rw [st_at, Nat.mul_zero, rJ_0]; rfl
  intro I hI
  have key : ∀ (m d : Nat) (ρ : Hp), d + m = last + 1 → Bt [7, 36, 37] σ ρ → BnP ρ (crJ α last h) (12 * d) → I ρ (nI last) (nI h) (nI d) := by
    intro m
    induction m with
    | zero =>
      intro d ρ hd hB hP
      have : d = last + 1 := by omega
      subst this
      apply hI
      refine pk_lt last (last + 1) (fun _ => k1 ρ hB (BnP_congr hP (fun j hj hbj => ?_))) (fun c => absurd c (by omega))
      have hj : j < aS α := hj
      have h3 := hJ.2 j hj
      have hb2 := (of_decide_eq_true hbj).2
      have hD : aD α j ≤ last := by
        by_cases c : aD α j ≤ last
        · exact c
        · exact absurd (by unfold wK; rw [opn_late (by omega), Nat.mul_zero]) hb2
      have ep : jP (crJ α last h) j = 12 * aD α j + j := rfl
      rw [ep] at h3 ⊢
      omega
    | succ m ih =>
      intro d ρ hd hB hP
      apply hI
      refine pk_lt last d (fun c => absurd c (by omega)) (fun _ => ?_)
      intro K hK
      have key2 : ∀ (m2 k : Nat) (ρ : Hp), k + m2 = aS α → Bt [7, 36, 37] σ ρ → BnP ρ (crJ α last h) (12 * d + k) → K ρ (nI last) (nI h) (nI d) (nI k) := by
        intro m2
        induction m2 with
        | zero =>
          intro k ρ hk hB hP
          have : k = aS α := by omega
          subst this
          apply hK
          unfold b_B_hear_23_
          rw [(rc ρ hB).2.1.2.2.2.1.1]
          refine pk_le (aS α) (aS α) (fun _ v e => ?_) (fun c => absurd c (by omega))
          rw [e, show nI d + 1 = nI (d + 1) from nI_1 d]
          refine ih (d + 1) ρ (by omega) hB (BnP_congr hP (fun j hj _ => ?_))
          have hj : j < aS α := hj
          have ep : jP (crJ α last h) j = 12 * aD α j + j := rfl
          rw [ep]; omega
        | succ m2 ih2 =>
          intro k ρ hk hB hP
          have hC2 := rc ρ hB
          obtain ⟨f1, f2, f3⟩ := hC2.2.1.2.2.2.1.2 k (by omega)
          obtain ⟨u1, u2, u3, u4⟩ := hw.2.2.1.2 k (by omega)
          apply hK
          unfold b_B_hear_23_
          rw [hC2.2.1.2.2.2.1.1, ixn (show k < 2 ^ 31 by omega), f1]
          refine pk_le (aS α) k (fun c => absurd c (by omega)) (fun _ => ⟨pk_in k 12 (by omega), pk_ne (aD α k) d (fun c v e => ?_) (fun c => ?_)⟩)
          · rw [e, show nI k + 1 = nI (k + 1) from nI_1 k]
            refine ih2 (k + 1) ρ (by omega) hB (BnP_congr hP (fun j hj _ => ?_))
            have hj : j < aS α := hj
            have ep : jP (crJ α last h) j = 12 * aD α j + j := rfl
            rw [ep]
            by_cases e : j = k
            · subst e; omega
            · omega
          · refine sp_B_take hw hC2 hl hh (by omega) (show psN α k = 12 * d + k by unfold psN; rw [c]) hP (fun ρ2 hB2 hP2 v e => ?_)
            rw [e, show nI k + 1 = nI (k + 1) from nI_1 k]
            exact ih2 (k + 1) ρ2 (by omega) (hB.tr hB2) hP2
      exact key2 (aS α) 0 ρ (by omega) hB hP
  exact key (last + 1) 0 _ (by omega) B0 P0
theorem nI_of32 (x : Int32) : x = nI x.toBitVec.toNat := by
  apply Int32.toBitVec_inj.1
  show x.toBitVec = BitVec.ofNat 32 x.toBitVec.toNat
  simp
theorem nI_tb {n : Nat} (h : n < 2 ^ 32) : (nI n).toBitVec.toNat = n := by
  show (BitVec.ofNat 32 n).toNat = n
  rw [BitVec.toNat_ofNat]; exact Nat.mod_eq_of_lt h
theorem nI_z {n : Nat} (h : n < 2 ^ 32) : nI n = 0 ↔ n = 0 := by
  constructor
  · intro e
    have := congrArg (fun x : Int32 => x.toBitVec.toNat) e
    simp only [nI_tb h] at this
    exact this
  · intro e; rw [e]; rfl
theorem sp_B_weigh {σ : Hp} {c n : Nat} {gn : Nat → Int32} {tw : Nat → Nat} (hc : c ≤ 16) (hn : σ 7 2 = nI n) (hn12 : n ≤ 12) (hg : ∀ i, σ 36 i = gn i) (ht : ∀ i, σ 37 i = nI (tw i) ∧ tw i < 2 ^ 32) : ∀ (f i : Nat) (bal : Int32) (s : Nat) (dp : Nat) (P : Int64 → Hp → Prop), i + f = n → f < dp → s < 2 ^ 32 → P (lN (wgF c (16 - c) gn tw f i bal s)) σ → wp_B_weigh dp σ (nI c) (nI i) bal (nI s) P := by
  intro f
  induction f with
  | zero =>
    intro i bal s dp P hi hdp hs h
    obtain ⟨dp, rfl⟩ : ∃ e, dp = e + 1 := ⟨dp - 1, by omega⟩
    have : i = n := by omega
    subst this
    unfold wp_B_weigh
    rw [hn]
    refine pk_lt i i (fun z => absurd z (by omega)) (fun _ => ?_)
    have h : P (lN (if bal ≤ 0 then 0 else 1)) σ := h
    refine ⟨fun z => ?_, fun z => ?_⟩
    · rw [if_pos z] at h; exact h
    · rw [if_neg z] at h; exact h
  | succ f ih =>
    intro i bal s dp P hi hdp hs h
    obtain ⟨dp, rfl⟩ : ∃ e, dp = e + 1 := ⟨dp - 1, by omega⟩
    have h : P (lN (if s &&& tw i = 0 then c * wgF c (16 - c) gn tw f (i + 1) (bal + gn i) (s ||| tw i) + (16 - c) * wgF c (16 - c) gn tw f (i + 1) bal s else 16 * wgF c (16 - c) gn tw f (i + 1) bal s)) σ := h
    obtain ⟨t1, t2⟩ := ht i
    have hi31 : i < 2 ^ 31 := by omega
    unfold wp_B_weigh
    rw [hn, ixn hi31, t1, hg i]
    refine pk_lt i n (fun _ => ⟨pk_in i 12 (by omega), fun v3 e3 => ?_⟩) (fun z => absurd z (by omega))
    subst e3
    have e1 : nI i + 1 = nI (i + 1) := nI_1 i
    have c1 : (nI c).toInt64 = lN c := nI_l (by omega)
    have c2 : ((16 : Int32) - nI c).toInt64 = lN (16 - c) := by
      rw [show (16 : Int32) = nI 16 from rfl, pk_sub hc]; exact nI_l (by omega)
    have hand : s &&& tw i < 2 ^ 32 := Nat.lt_of_le_of_lt Nat.and_le_left hs
    rw [i_and, i_or, e1]
    refine ⟨fun z => ⟨pk_in i 12 (by omega), ?_⟩, fun z => ?_⟩
    · rw [if_pos ((nI_z hand).mp z)] at h
      refine ih (i + 1) _ _ dp _ (by omega) (by omega) (Nat.or_lt_two_pow hs t2) ?_
      refine ih (i + 1) _ _ dp _ (by omega) (by omega) hs ?_
      rw [c1, c2, lN_mul, lN_mul, lN_add]; exact h
    · rw [if_neg (fun q => z ((nI_z hand).mpr q))] at h
      refine ih (i + 1) _ _ dp _ (by omega) (by omega) hs ?_
      rw [show (16 : Int64) = lN 16 from rfl, lN_mul]; exact h
/-- lowest terms: a over 2 ^ m -/
def red : Nat → Nat → Nat × Nat
  | 0, a => (a, 1)
  | m + 1, a => if a % 2 = 0 then red m (a / 2) else (a, 2 ^ (m + 1))
theorem red_zero : ∀ m, red m 0 = (0, 1) := by
  intro m
  induction m with
  | zero => rfl
  | succ m ih => exact ih
theorem red_shift (m a : Nat) : ∀ j, red (m + j) (a * 2 ^ j) = red m a := by
  intro j
  induction j with
  | zero => rw [Nat.pow_zero, Nat.mul_one]; rfl
  | succ j ih =>
    have e : red (m + (j + 1)) (a * 2 ^ (j + 1)) = if a * 2 ^ (j + 1) % 2 = 0 then red (m + j) (a * 2 ^ (j + 1) / 2) else (a * 2 ^ (j + 1), 2 ^ (m + j + 1)) := rfl
    have e2 : a * 2 ^ (j + 1) = (a * 2 ^ j) * 2 := by rw [Nat.pow_succ, Nat.mul_assoc]
    rw [e, e2, if_pos (Nat.mul_mod_left _ _), Nat.mul_div_cancel _ (by decide)]
    exact ih
theorem red_spec : ∀ m a, ∃ t, 0 < t ∧ a = (red m a).1 * t ∧ 2 ^ m = (red m a).2 * t ∧ Nat.gcd (red m a).1 (red m a).2 = 1 := by
  intro m
  induction m with
  | zero => intro a; exact ⟨1, by decide, by show a = a * 1; omega, rfl, Nat.gcd_one_right a⟩
  | succ m ih =>
    intro a
    have e : red (m + 1) a = if a % 2 = 0 then red m (a / 2) else (a, 2 ^ (m + 1)) := rfl
    by_cases c : a % 2 = 0
    · rw [if_pos c] at e
      obtain ⟨t, t0, t1, t2, t3⟩ := ih (a / 2)
      rw [e]
      refine ⟨t * 2, by omega, ?_, ?_, t3⟩
      · rw [← Nat.mul_assoc, ← t1]; omega
      · rw [← Nat.mul_assoc, ← t2, Nat.pow_succ]
    · rw [if_neg c] at e
      rw [e]
      refine ⟨1, by decide, by show a = a * 1; omega, by show 2 ^ (m + 1) = 2 ^ (m + 1) * 1; omega, ?_⟩
      have h : Nat.Coprime a 2 := by
        show Nat.gcd a 2 = 1
        rw [Nat.gcd_comm, Nat.gcd_rec, show a % 2 = 1 by omega]
        rfl
      exact Nat.Coprime.pow_right (m + 1) h
def crF (α : Abs) (last h : Nat) (b : Nat → Bool) : Nat := if balI (ctx α (fun j => !b j)) last h ≤ 0 then 0 else 1
def crM (α : Abs) (c last h : Nat) : Nat := fb_sm (fun s => wtN c (16 - c) s (aS α) * crF α last h (fun k => s.testBit k)) (2 ^ aS α)
def crA (α : Abs) (c last h : Nat) (x : Int32) : Int64 := lN (if x = 0 then (red (4 * aS α) (crM α c last h)).1 else (red (4 * aS α) (crM α c last h)).2)
theorem sh16 : ∀ n, n < 13 → (1 : Int64) <<< (((4 : Int32) * nI n).toInt64 &&& 63) = lN (2 ^ (4 * n)) := by decide +kernel
theorem p16 (q : Nat) : 16 ^ q = 2 ^ (4 * q) := by rw [Nat.pow_mul]
theorem lg_0 {a : Nat} (ha : a < 2 ^ 63) : lg_cmp (lN a) 0 = 0 ↔ a = 0 := by
  rw [lg_cmp_eq, show (0 : Int64) = lN 0 from rfl]
  exact pk_lEQ ha (by decide)
theorem sp_P_court41 {σ : Hp} {α : Abs} {c last h : Nat} {x : Int32} {P : Int64 → Hp → Prop} (hw : WF α) (hC : RC σ α) (hc : c ≤ 16) (hl : last < 30) (hh : h < nH α) (hx : x = 0 ∨ x = 1) (k1 : ∀ ρ, RC ρ α → P (crA α c last h x) ρ) : j_P_court_41 P σ (nI c) (nI last) (nI h) x 1 := by
  have hS := hw.2.2.1.1
  have hJ := WJ_cr hw last h
  refine br_nt one0 (sp_B_hear hw hC hl hh (fun ρ hB hP => ?_))
  have hC2 : RC ρ α := hC.fr (hB.mono (by decide))
  have k1 := k1 ρ hC2
  obtain ⟨n, hn⟩ : ∃ n, n = rJ (crJ α last h) 360 := ⟨_, rfl⟩
  have hrn : rJ (crJ α last h) 360 + nJ (crJ α last h) 0 = aS α := rn_J hJ
  have hn12 : n ≤ 12 := by omega
  have hsum := weigh_sum (c := c) (d := 16 - c) (J := crJ α last h) (F := crF α last h) (gn := fun i => ρ 36 i) (tw := fun i => (ρ 37 i).toBitVec.toNat) hJ (by omega) (fun k hk hb => by
    have hbt : btN α h k < 16 := by
      obtain ⟨u1, u2, u3, u4⟩ := hw.2.2.1.2 k hk
      unfold btN; split <;> omega
    obtain ⟨g1, g2⟩ := hP.2 k hk hb (hJ.2 k hk)
    refine ⟨g1, ?_⟩
    show (ρ 37 _).toBitVec.toNat = _
    rw [g2]
    exact nI_tb (Nat.pow_lt_pow_right (by decide) (show btN α h k < 32 by omega))) (fun b => by
    unfold crF balI
    rw [cr_bal hw hl hh])
  have hsum : crM α c last h = 16 ^ nJ (crJ α last h) 0 * wgF c (16 - c) (fun i => ρ 36 i) (fun i => (ρ 37 i).toBitVec.toNat) (rJ (crJ α last h) 360) 0 0 0 := hsum
  rw [← hn] at hsum hrn
  obtain ⟨W, hW⟩ : ∃ W, W = wgF c (16 - c) (fun i => ρ 36 i) (fun i => (ρ 37 i).toBitVec.toNat) n 0 0 0 := ⟨_, rfl⟩
  have hWle : W ≤ 16 ^ n := by rw [hW]; exact wgF_le (by omega) n 0 0 0
  have hW48 : W ≤ 2 ^ 48 := Nat.le_trans hWle (by rw [p16]; exact Nat.pow_le_pow_right (by decide) (by omega))
  rw [← hW] at hsum
  have ered : red (4 * aS α) (crM α c last h) = red (4 * n) W := by
    rw [hsum, p16, Nat.mul_comm (2 ^ (4 * nJ (crJ α last h) 0)) W, show 4 * aS α = 4 * n + 4 * nJ (crJ α last h) 0 by omega]
    exact red_shift _ _ _
  unfold crA at k1
  rw [ered] at k1
  have e72 : ρ 7 2 = nI n := by rw [hn]; exact hP.1
  refine sp_B_weigh (gn := fun i => ρ 36 i) (tw := fun i => (ρ 37 i).toBitVec.toNat) hc e72 hn12 (fun _ => rfl) (fun i => ⟨nI_of32 _, (ρ 37 i).toBitVec.isLt⟩) n 0 0 0 13 _ (by omega) (by omega) (by decide) ?_
  rw [← hW]
  have j144 : ∀ a b : Nat, (a, b) = red (4 * n) W → j_P_court_144 P ρ x (lN a) (lN b) := by
    intro a b e
    rw [← e] at k1
    refine ⟨fun z => ?_, fun z => ?_⟩
    · rw [if_neg z] at k1; exact k1
    · rw [if_pos z] at k1; exact k1
  refine ⟨fun z => ?_, fun z => ?_⟩
  · unfold wp_B_weightOfAll
    rw [e72, sh16 n (by omega)]
    intro v14 e14
    have hp48 : ∀ m, m ≤ 48 → 2 ^ m ≤ 2 ^ 48 := fun m hm => Nat.pow_le_pow_right (by decide) hm
    have e14 : v14 = lN (2 ^ (4 * n) / 2) := by
      rw [e14, show (2 : Int64) = lN 2 from rfl]
      exact pk_lDiv (by have := hp48 (4 * n) (by omega); omega) (by decide) (by decide)
    subst e14
    intro I hI
    have key : ∀ m a, m ≤ 48 → a ≤ 2 ^ 48 → red m a = red (4 * n) W → I ρ x (lN a) (lN (2 ^ m)) (lN (2 ^ m / 2)) := by
      intro m
      induction m with
      | zero =>
        intro a _ ha hv
        apply hI
        exact ⟨fun _ => j144 a 1 hv, fun q => absurd (show lg_cmp (lN (2 ^ 0 / 2)) 0 ≤ 0 by decide) q⟩
      | succ m ih =>
        intro a hm ha hv
        have e : red (m + 1) a = if a % 2 = 0 then red m (a / 2) else (a, 2 ^ (m + 1)) := rfl
        rw [e] at hv
        have e2 : 2 ^ (m + 1) / 2 = 2 ^ m := by rw [Nat.pow_succ]; exact Nat.mul_div_cancel _ (by decide)
        have hm48 := hp48 m (by omega)
        have hm0 : 0 < 2 ^ m := Nat.two_pow_pos m
        have erem : lN a - lN a / (2 : Int64) * (2 : Int64) = lN (a % 2) := by
          rw [show (2 : Int64) = lN 2 from rfl]
          exact pk_lRem (by omega) (by decide) (by decide)
        apply hI
        unfold b_P_court_103_
        rw [e2, erem]
        refine ⟨fun q => ?_, fun _ => ⟨fun q => ?_, fun q v4 e4 v5 e5 => ?_⟩⟩
        · exfalso
          have q2 : lN (2 ^ m) ≤ lN 0 := (lg_cmp_le _ _).mp q
          have := (pk_lLE (by omega) (by decide)).mp q2
          omega
        · have c : ¬ a % 2 = 0 := fun w => q ((lg_0 (by omega)).mpr w)
          rw [if_neg c] at hv
          exact j144 a (2 ^ (m + 1)) hv
        · have c : a % 2 = 0 := (lg_0 (by omega)).mp q
          rw [if_pos c] at hv
          have f4 : v4 = lN (a / 2) := by
            rw [e4, show (2 : Int64) = lN 2 from rfl]
            exact pk_lDiv (by omega) (by decide) (by decide)
          have f5 : v5 = lN (2 ^ m / 2) := by
            rw [e5, show (2 : Int64) = lN 2 from rfl]
            exact pk_lDiv (by omega) (by decide) (by decide)
          rw [f4, f5]
          exact ih (a / 2) (by omega) (by omega) hv
    exact key (4 * n) W (by omega) hW48 rfl
  · have hz : W = 0 := (lg_0 (by omega)).mp z
    rw [hz, red_zero] at k1
    rcases hx with rfl | rfl
    · exact k1
    · exact k1
theorem isD2 {x : Int32} : isD x 2 ↔ x = 0 ∨ x = 1 := by
  constructor
  · rintro ⟨k, hk, rfl⟩
    rcases (show k = 0 ∨ k = 1 by omega) with rfl | rfl
    · exact Or.inl rfl
    · exact Or.inr rfl
  · rintro (rfl | rfl)
    · exact ⟨0, by decide, rfl⟩
    · exact ⟨1, by decide, rfl⟩
theorem isD17 {x : Int32} : isD x 17 ↔ ¬ x < 0 ∧ ¬ 16 < x := by
  have a : (16 : Int32).toInt = 16 := by decide
  constructor
  · rintro ⟨k, hk, rfl⟩
    refine ⟨nI_pos (by omega), fun z => ?_⟩
    rw [show (16 : Int32) = nI 16 from rfl, nI_ltI (by decide) (by omega)] at z
    omega
  · rintro ⟨h1, h2⟩
    rcases pk_ix x (show 17 < 2 ^ 31 by decide) with h | h | ⟨j, h3, h4⟩
    · exact absurd h h1
    · exfalso
      apply h2
      have b : (nI 17).toInt = 17 := by decide
      rw [Int32.le_iff_toInt_le, b] at h
      rw [Int32.lt_iff_toInt_lt, a]
      omega
    · exact ⟨j, h3, h4⟩
theorem sp_P_court {σ : Hp} {α : Abs} {c d a x : Int32} {P : Int64 → Hp → Prop} (hw : WF α) (hC : RC σ α) (h1 : ∀ e last h ρ, e ≤ 16 → last < 30 → h < nH α → c = nI e → d = nI last → a = nI h → isD x 2 → RC ρ α → P (crA α e last h x) ρ) (h0 : ¬ (isD c 17 ∧ isD d 30 ∧ isD a (nH α) ∧ isD x 2) → P (-9223372036854775806) σ) : wp_P_court σ c d a x P := by
  have bad : ¬ (isD c 17 ∧ isD d 30 ∧ isD a (nH α) ∧ isD x 2) → j_P_court_40 P σ c d a x := fun n => br_nf rfl (h0 n)
  refine ⟨fun q => bad (fun z => (isD17.mp z.1).1 q), fun q => ⟨fun q2 => bad (fun z => (isD17.mp z.1).2 q2), fun q2 => ?_⟩⟩
  refine sp_P_isDay (fun q3 => br_f one0 (sp_P_isHouse hw hC.2.1.1 (fun q4 => br_f one0 ?_) (fun q4 => br_t rfl (bad (fun z => q4 z.2.2.1))))) (fun q3 => br_t rfl (bad (fun z => q3 z.2.1)))
  have go : isD x 2 → j_P_court_36 P σ c d a x := by
    intro q5
    obtain ⟨e, he, rfl⟩ := isD17.mpr ⟨q, q2⟩
    obtain ⟨last, hl, rfl⟩ := q3
    obtain ⟨h, hh, rfl⟩ := q4
    exact sp_P_court41 hw hC (by omega) hl hh (isD2.mp q5) (fun ρ hC2 => h1 e last h ρ (by omega) hl hh rfl rfl rfl q5 hC2)
  refine ⟨fun z => go (isD2.mpr (Or.inl z)), fun z => ⟨fun z2 => bad (fun w => (isD2.mp w.2.2.2).elim z z2), fun z2 => go (isD2.mpr (Or.inr z2))⟩⟩
theorem sp_R_lowest {τ : Hp} {a m : Nat} {x : Int32} {P : Int64 → Hp → Prop} (ha : a ≤ 2 ^ 48) (hm : m ≤ 48) (h : P (lN (if x = 0 then (red m a).1 else (red m a).2)) τ) : wp_R_lowest τ (lN a) (lN (2 ^ m)) x P := by
  have hm48 : 2 ^ m ≤ 2 ^ 48 := Nat.pow_le_pow_right (by decide) hm
  obtain ⟨t, t0, t1, t2, t3⟩ := red_spec m a
  have hg : Nat.gcd a (2 ^ m) = t := by
    have : Nat.gcd ((red m a).1 * t) ((red m a).2 * t) = t := by rw [Nat.gcd_mul_right, t3, Nat.one_mul]
    rw [← t1, ← t2] at this; exact this
  have htle : t ≤ 2 ^ 48 := by
    have : t ∣ 2 ^ m := ⟨(red m a).2, by rw [Nat.mul_comm]; exact t2⟩
    exact Nat.le_trans (Nat.le_of_dvd (Nat.two_pow_pos m) this) hm48
  have d1 : a / t = (red m a).1 := by
    have : (red m a).1 * t / t = (red m a).1 := Nat.mul_div_cancel _ t0
    rw [← t1] at this; exact this
  have d2 : 2 ^ m / t = (red m a).2 := by
    have : (red m a).2 * t / t = (red m a).2 := Nat.mul_div_cancel _ t0
    rw [← t2] at this; exact this
  intro I hI
  have key : ∀ N v u, v < N → u ≤ 2 ^ 48 → v ≤ 2 ^ 48 → Nat.gcd u v = t → I τ (lN a) (lN (2 ^ m)) x (lN u) (lN v) := by
    intro N
    induction N with
    | zero => intro v u hv; exact absurd hv (Nat.not_lt_zero _)
    | succ N ih =>
      intro v u hv hu hv2 hgc
      apply hI
      unfold b_R_lowest_6_
      by_cases c : v = 0
      · subst c
        have hut : u = t := by rw [Nat.gcd_zero_right] at hgc; exact hgc
        subst hut
        have hne : ¬ lN u = 0 := fun z => by
          have := (pk_lEQ (a := u) (b := 0) (by omega) (by decide)).mp z
          omega
        refine br_t ((lg_0 (by decide)).mpr rfl) ⟨fun z => ⟨hne, ?_⟩, fun z => ⟨hne, ?_⟩⟩
        · rw [pk_lDiv (by omega) t0 (by omega), d2]
          rw [if_neg z] at h; exact h
        · rw [pk_lDiv (by omega) t0 (by omega), d1]
          rw [if_pos z] at h; exact h
      · have hne : ¬ lN v = 0 := fun z => c ((pk_lEQ (a := v) (b := 0) (by omega) (by decide)).mp z)
        have hmod := Nat.mod_lt u (show 0 < v by omega)
        refine br_f (fun z => c ((lg_0 (by omega)).mp z)) ⟨hne, fun v6 e6 => ?_⟩
        rw [e6, pk_lRem (by omega) (by omega) (by omega)]
        refine ih (u % v) v (by omega) hv2 (by omega) ?_
        rw [← hgc, Nat.gcd_comm u v, Nat.gcd_rec v u, Nat.gcd_comm]
  exact key (2 ^ m + 1) (2 ^ m) a (by omega) ha hm48 hg
theorem sp_R_courtOf {τ : Hp} {α : Abs} {c last h : Nat} {x : Int32} {P : Int64 → Hp → Prop} (hw : WF α) (hR : RR τ α) (hc : c ≤ 16) (hl : last < 30) (hh : h < nH α) (k1 : ∀ ρ, RR ρ α → Rd ρ α → P (crA α c last h x) ρ) : wp_R_courtOf τ (nI c) (nI last) (nI h) x P := by
  have hS := hw.2.2.1.1
  have hJ := WJ_cr hw last h
  have c1 : (nI c).toInt64 = lN c := nI_l (by omega)
  have c2 : ((16 : Int32) - nI c).toInt64 = lN (16 - c) := by
    rw [show (16 : Int32) = nI 16 from rfl, pk_sub hc]; exact nI_l (by omega)
  have hM48 : crM α c last h ≤ 2 ^ 48 := by
    have hrn : rJ (crJ α last h) 360 + nJ (crJ α last h) 0 = aS α := rn_J hJ
    -- a row of gains and one of twos, as the bench would have them
    have hrlt : ∀ k, k < aS α → bnB α last h k = true → ∀ j, j < aS α → bnB α last h j = true → rJ (crJ α last h) (psN α j) = rJ (crJ α last h) (psN α k) → j = k := by
      intro k hk hbk j hj hbj e
      have one : ∀ i i', i < aS α → bnB α last h i = true → psN α i < psN α i' → rJ (crJ α last h) (psN α i) < rJ (crJ α last h) (psN α i') := by
        intro i i' hi hbi hlt
        have h1 := rJ_step (J := crJ α last h) hJ (k := i) (p := psN α i) hi rfl hbi
        have h2 : rJ (crJ α last h) (psN α i + 1) ≤ rJ (crJ α last h) (psN α i') := rJ_mono (by omega)
        omega
      by_cases c1 : psN α j < psN α k
      · have := one j k hj hbj c1; omega
      · by_cases c2 : psN α k < psN α j
        · have := one k j hk hbk c2; omega
        · exact hJ.1 j k hj hk (show psN α j = psN α k by omega)
    have hsum := weigh_sum (c := c) (d := 16 - c) (J := crJ α last h) (F := crF α last h) (gn := fun i => Int32.ofInt (fb_si (fun k => if bnB α last h k = true ∧ rJ (crJ α last h) (psN α k) = i then gZ α last h k else 0) (aS α))) (tw := fun i => fb_sm (fun k => if bnB α last h k = true ∧ rJ (crJ α last h) (psN α k) = i then 2 ^ btN α h k else 0) (aS α)) hJ (by omega) (fun k hk hb => by
      have hk : k < aS α := hk
      have hb : bnB α last h k = true := hb
      refine ⟨?_, ?_⟩
      · show Int32.ofInt (fb_si (fun j => if bnB α last h j = true ∧ rJ (crJ α last h) (psN α j) = rJ (crJ α last h) (psN α k) then gZ α last h j else 0) (aS α)) = Int32.ofInt (gZ α last h k)
        rw [si_add1 (g := fun _ => 0) (k := k) (aS α) hk (fun j hj hn => if_neg (fun z => hn (hrlt k hk hb j hj z.1 z.2))) rfl, fb_si_0, if_pos ⟨hb, rfl⟩, Int.zero_add]
      · show fb_sm (fun j => if bnB α last h j = true ∧ rJ (crJ α last h) (psN α j) = rJ (crJ α last h) (psN α k) then 2 ^ btN α h j else 0) (aS α) = 2 ^ btN α h k
        have one : ∀ n, k < n → n ≤ aS α → fb_sm (fun j => if bnB α last h j = true ∧ rJ (crJ α last h) (psN α j) = rJ (crJ α last h) (psN α k) then 2 ^ btN α h j else 0) n = 2 ^ btN α h k := by
          intro n
          induction n with
          | zero => intro z; omega
          | succ n ih =>
            intro h1 h2
            rw [fb_sm_succ]
            by_cases e : n = k
            · subst e
              have hz : fb_sm (fun j => if bnB α last h j = true ∧ rJ (crJ α last h) (psN α j) = rJ (crJ α last h) (psN α n) then 2 ^ btN α h j else 0) n = 0 := by
                have := fb_sm_cong (f := fun j => if bnB α last h j = true ∧ rJ (crJ α last h) (psN α j) = rJ (crJ α last h) (psN α n) then 2 ^ btN α h j else 0) (g := fun _ => 0) (n := n) (fun j hj => if_neg (fun z => by have := hrlt n hk hb j (by omega) z.1 z.2; omega))
                rw [this, fb_sm_const, Nat.mul_zero]
              rw [hz, if_pos ⟨hb, rfl⟩, Nat.zero_add]
            · rw [ih (by omega) (by omega), if_neg (fun z => e (hrlt k hk hb n (by omega) z.1 z.2)), Nat.add_zero]
        exact one (aS α) hk (Nat.le_refl _)) (fun b => by
      unfold crF balI
      rw [cr_bal hw hl hh])
    have hsum : crM α c last h = 16 ^ nJ (crJ α last h) 0 * wgF c (16 - c) _ _ (rJ (crJ α last h) 360) 0 0 0 := hsum
    rw [hsum]
    refine Nat.le_trans (Nat.mul_le_mul_left _ (wgF_le (by omega) _ 0 0 0)) ?_
    rw [← Nat.pow_add, p16]
    exact Nat.pow_le_pow_right (by decide) (by omega)
  refine sp_R_asTold hw hR (fun τ0 hT0 _ => ?_)
  obtain ⟨N, hN⟩ : ∃ N, N = 2 ^ aS α := ⟨_, rfl⟩
  have hN12 : N ≤ 2 ^ 12 := by rw [hN]; exact Nat.pow_le_pow_right (by decide) hS
  have eN : (1 : Int32) <<< (nI (aS α) &&& 31) = nI N := by rw [i_bit _ (by omega), hN]
  intro I hI
  have key : ∀ m s (ρ : Hp), s + m = N → Told ρ α → I ρ (nI c) (nI last) (nI h) x (lN (fb_sm (fun s => wtN c (16 - c) s (aS α) * crF α last h (fun k => s.testBit k)) s)) (nI s) := by
    intro m
    induction m with
    | zero =>
      intro s ρ hs hT
      have : s = N := by omega
      subst this
      apply hI
      unfold b_R_courtOf_10_
      rw [hT.1.2.2.1.1, eN, sh16 _ (by omega)]
      refine pk_le s s (fun _ => ?_) (fun z => absurd z (by omega))
      have e : fb_sm (fun s => wtN c (16 - c) s (aS α) * crF α last h (fun k => s.testBit k)) s = crM α c last h := by rw [hN]; rfl
      rw [e]
      exact sp_R_lowest hM48 (by omega) (k1 ρ hT.1 hT.2.1)
    | succ m ih =>
      intro s ρ hs hT
      apply hI
      unfold b_R_courtOf_10_
      rw [hT.1.2.2.1.1, eN]
      refine pk_le N s (fun z => absurd z (by omega)) (fun _ => ?_)
      intro K hK
      have key2 : ∀ m2 k, k + m2 = aS α → K ρ (nI c) (nI last) (nI h) x (lN (fb_sm (fun s => wtN c (16 - c) s (aS α) * crF α last h (fun k => s.testBit k)) s)) (nI s) (lN (wtN c (16 - c) s k)) (nI k) := by
        intro m2
        induction m2 with
        | zero =>
          intro k hk
          have : k = aS α := by omega
          subst this
          apply hK
          unfold b_R_courtOf_27_
          rw [hT.1.2.2.1.1]
          refine pk_le (aS α) (aS α) (fun _ => sp_R_laysD (dr := s) hw hT rfl (by omega) (fun ρ2 hT2 hB2 hP2 => ?_)) (fun z => absurd z (by omega))
          refine sp_R_balanceNow (γ := ctD α s) (WD_ctx hw _) hP2 hl hh ?_
          have ef : crF α last h (fun k => s.testBit k) = if Int32.ofInt (balZ (ctD α s) last h) ≤ 0 then 0 else 1 := rfl
          have es : fb_sm (fun s => wtN c (16 - c) s (aS α) * crF α last h (fun k => s.testBit k)) (s + 1) = fb_sm (fun s => wtN c (16 - c) s (aS α) * crF α last h (fun k => s.testBit k)) s + wtN c (16 - c) s (aS α) * crF α last h (fun k => s.testBit k) := rfl
          have ih := ih (s + 1) ρ2 (by omega) hT2
          rw [es, ef] at ih
          refine ⟨fun z v e v2 e2 => ?_, fun z v e v2 e2 => ?_⟩
          · rw [if_pos z, Nat.mul_zero] at ih
            rw [e, e2, show nI s + 1 = nI (s + 1) from nI_1 s, show (0 : Int64) = lN 0 from rfl, lN_add]
            exact ih
          · rw [if_neg z, Nat.mul_one] at ih
            rw [e, e2, show nI s + 1 = nI (s + 1) from nI_1 s, lN_add]
            exact ih
        | succ m2 ih2 =>
          intro k hk
          have ih2 := ih2 (k + 1) (by omega)
          have ew : wtN c (16 - c) s (k + 1) = wtN c (16 - c) s k * (if s.testBit k = true then 16 - c else c) := rfl
          rw [ew] at ih2
          apply hK
          unfold b_R_courtOf_27_
          rw [hT.1.2.2.1.1, c1, c2]
          refine pk_le (aS α) k (fun z => absurd z (by omega)) (fun _ => sp_R_isIn (by omega) (by omega) (fun q => br_f one0 (fun v e v2 e2 => ?_)) (fun q => br_t rfl (fun v e v2 e2 => ?_)))
          · rw [if_pos q] at ih2
            rw [e, e2, show nI k + 1 = nI (k + 1) from nI_1 k, lN_mul]
            exact ih2
          · rw [if_neg (by rw [q]; simp)] at ih2
            rw [e, e2, show nI k + 1 = nI (k + 1) from nI_1 k, lN_mul]
            exact ih2
      exact key2 (aS α) 0 (by omega)
  exact key N 0 τ0 (by omega) hT0
theorem h_court : H_court Rel := by
  intro σ τ x1 x2 x3 x4 hrel
  obtain ⟨α, hw, hC, hR⟩ := hrel
  have e2 : ∀ (ρ : Hp), RR ρ α → j_R_court_47 (fun r2 τ1 => (-9223372036854775806 : Int64) = r2 ∧ Rel σ τ1) ρ := fun ρ hR2 => ⟨by decide, α, hw, hC, hR2⟩
  refine sp_P_court hw hC (fun e last h ρ he hl hh e1 e2 e3 q4 hC2 => ?_) (fun n => ?_)
  · refine sp_R_in 16 rfl (by decide) (fun _ => br_f one0 (sp_R_isDay (fun _ => br_f one0 (sp_R_isHouse hw hR.1 (fun ρ2 hB hd _ => br_f one0 (sp_R_in 1 rfl (by decide) (fun _ => br_f one0 ?_) (fun z => absurd q4 z))) (fun _ _ _ z => absurd ⟨h, hh, e3⟩ z))) (fun z => absurd ⟨last, hl, e2⟩ z))) (fun z => absurd ⟨e, by omega, e1⟩ z)
    rw [e1, e2, e3]
    exact sp_R_courtOf hw (hR.ps hB.ps) he hl hh (fun ρ3 hR3 _ => ⟨rfl, α, hw, hC2, hR3⟩)
  · exact sp_R_in 16 rfl (by decide) (fun q1 => br_f one0 (sp_R_isDay (fun q2 => br_f one0 (sp_R_isHouse hw hR.1 (fun ρ2 hB hd q3 => br_f one0 (sp_R_in 1 rfl (by decide) (fun q4 => absurd ⟨q1, q2, q3, q4⟩ n) (fun _ => br_t rfl (e2 _ (hR.ps hB.ps))))) (fun ρ2 hB hd _ => br_t rfl (e2 _ (hR.ps hB.ps))))) (fun _ => br_t rfl (e2 _ hR)))) (fun _ => br_t rfl (e2 _ hR))
