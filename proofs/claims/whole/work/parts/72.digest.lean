/-! digest: what it says, and the class -/
def dgS (v : Int64) (r : Int32) : Int64 := 31 * v + r.toInt64
def fltA (α : Abs) (t : Nat) : Int32 := if t = 0 then faultT 5 4 (aB0 α) (aN0 α) else faultT 3 3 (aB1 α) (aN1 α)
def hsA (α : Abs) (k w : Nat) : Int32 := if w = 0 then nI (hK α k) else if w = 1 then nI (hM α k) else if w = 2 then nI (hJ α k) else nI (hCo α k)
noncomputable def dgB (α : Abs) (k : Nat) (v : Int64) : Int64 := dgS (dgS (dgS (dgS (dgS v (v2 α 0 (nI k) (thrA α))) (v2 α 0 (nI k) (owsA α 9))) (balI (ctA α) 9 k)) (balI (ctA α) 29 k)) (brkA α k)
def dgC (α : Abs) (k : Nat) (v : Int64) : Int64 := dgS (31 * (31 * dgS v (nI (lkN α k)) + crA α 5 9 k 0) + crA α 5 9 k 1) (moA α 7 20 (nI k))
noncomputable def dgH (α : Abs) (k : Nat) (v : Int64) : Int64 := dgC α k (itr (fun w v => dgS v (bdA α 9 k (nI w))) 0 3 (dgB α k (itr (fun w v => dgS v (hsA α k w)) 0 4 v)))
def dgK (α : Abs) (k : Nat) (v : Int64) : Int64 := dgS (dgS (dgS v (nI (rT α k))) (frA α 9 k 0)) (frA α 9 k 1)
def dgT (α : Abs) (d : Nat) (v : Int64) : Int64 := dgS (dgS (dgS (dgS (dgS (dgS (dgS (dgS v (coinA α d)) (richV (balI (ctA α) d) (nH α))) (payV (balI (ctA α) d) (nH α))) (rgA (ctA α) d (nH α) 0)) (rgA (ctA α) d (nH α) 1)) (drX (drA α d) (-1))) (drX (drA α d) 0)) (askA α d).1
def dgE (α : Abs) (v : Int64) : Int64 := dgS (dgS (dgT α 29 (dgT α 5 (dgT α 0 v))) (nI (nvN α))) (moA α 7 20 (-1))
noncomputable def dgV (α : Abs) : Int64 := dgE α (itr (dgK α) 0 3 (itr (dgH α) 0 (nH α) (itr (fun t v => dgS v (fltA α t)) 0 2 (itr (fun k v => dgS v (cntA α k)) 0 8 17))))
theorem inj {a b : Nat} (ha : a < 100) (hb : b < 100) (e : nI a = nI b) : a = b := (nI_eq (by omega) (by omega)).mp e
theorem dP_house {σ : Hp} {α : Abs} {k w : Nat} {P : Int32 → Hp → Prop} (hw : WF α) (hC : RC σ α) (hk : k < nH α) (hw4 : w < 4) (h : P (hsA α k w) σ) : wp_P_house σ (nI k) (nI w) P := by
  have hH := nH_le hw
  obtain ⟨s1, s2, s3, s4⟩ := hC.2.1.1.2 k hk
  refine sp_P_isHouse hw hC.2.1.1 (fun _ => br_nt one0 ?_) (fun z => absurd ⟨k, hk, rfl⟩ z)
  rw [ixn (show k < 2 ^ 31 by omega), s1, s2, s3, s4]
  have h8 : vp_in (nI k) 8 := pk_in k 8 (by omega)
  have e : ∀ w', w' < 4 → nI w = nI w' → w = w' := fun w' hw' e => inj (by omega) (by omega) e
  refine ⟨fun c => ?_, fun c => ⟨h8, ?_⟩, fun c => ⟨h8, ?_⟩, fun c => ⟨h8, ?_⟩, fun c => ⟨h8, ?_⟩⟩
  · rw [nI_toInt (by omega)] at c; omega
  · have := e 0 (by omega) c; subst this; exact h
  · have := e 1 (by omega) c; subst this; exact h
  · have := e 2 (by omega) c; subst this; exact h
  · have := e 3 (by omega) c; subst this; exact h
theorem dP_fault {σ : Hp} {α : Abs} {t : Nat} {P : Int32 → Hp → Prop} (hw : WF α) (hC : RC σ α) (ht : t < 2) (h : P (fltA α t) σ) : wp_P_fault σ (nI t) P :=
  sp_P_isText (fun _ => br_f one0 (sp_P_textOf ht ⟨isT_t ht, sp_P_faultT hw hC.1 ht h⟩)) (fun z => absurd ⟨t, ht, rfl⟩ z)
theorem dP_owes {σ : Hp} {α : Abs} {last : Nat} {a b : Int32} {P : Int32 → Hp → Prop} (hw : WF α) (hC : RC σ α) (hl : last < 30) (h : P (v2 α a b (owsA α last)) σ) : wp_P_owes σ (nI last) a b P :=
  sp_P_owes hw hC (fun l' hl' e => by have := inj (by omega) (by omega) e; subst this; exact h) (fun n => absurd ⟨last, hl, rfl⟩ n)
theorem dP_balance {σ : Hp} {α : Abs} {last k : Nat} {P : Int32 → Hp → Prop} (hw : WF α) (hC : RC σ α) (hl : last < 30) (hk : k < nH α) (h : P (balI (ctA α) last k) σ) : wp_P_balance σ (nI last) (nI k) P := by
  have hH := nH_le hw
  refine sp_P_balance hw hC (fun l' h' hl' hh' e1 e2 => ?_) (fun n => absurd ⟨⟨last, hl, rfl⟩, ⟨k, hk, rfl⟩⟩ n)
  have a := inj (by omega) (by omega) e1
  have b := inj (by omega) (by omega) e2
  subst a; subst b; exact h
theorem dP_broke {σ : Hp} {α : Abs} {k : Nat} {P : Int32 → Hp → Prop} (hw : WF α) (hC : RC σ α) (hk : k < nH α) (h : P (brkA α k) σ) : wp_P_broke σ (nI k) P := by
  have hH := nH_le hw
  refine sp_P_broke hw hC (fun h' hh' e => ?_) (fun n => absurd ⟨k, hk, rfl⟩ n)
  have a := inj (by omega) (by omega) e
  subst a; exact h
theorem dP_build {σ : Hp} {α : Abs} {last k w : Nat} {P : Int32 → Hp → Prop} (hw : WF α) (hC : RC σ α) (hl : last < 30) (hk : k < nH α) (hw3 : w < 3) (h : ∀ ρ, RC ρ α → P (bdA α last k (nI w)) ρ) : wp_P_build σ (nI last) (nI k) (nI w) P := by
  have hH := nH_le hw
  refine sp_P_build hw hC (fun l' h' ρ hl' hh' e1 e2 _ hC2 => ?_) (fun n => absurd ⟨⟨last, hl, rfl⟩, ⟨k, hk, rfl⟩, ⟨w, hw3, rfl⟩⟩ n)
  have a := inj (by omega) (by omega) e1
  have b := inj (by omega) (by omega) e2
  subst a; subst b; exact h ρ hC2
theorem dP_leaked {σ : Hp} {α : Abs} {k : Nat} {P : Int32 → Hp → Prop} (hw : WF α) (hC : RC σ α) (hk : k < nH α) (h : ∀ ρ, RC ρ α → P (nI (lkN α k)) ρ) : wp_P_leaked σ (nI k) P := by
  have hH := nH_le hw
  refine sp_P_leaked hw hC (fun h' ρ hh' e hC2 => ?_) (fun n => absurd ⟨k, hk, rfl⟩ n)
  have a := inj (by omega) (by omega) e
  subst a; exact h ρ hC2
theorem dP_court {σ : Hp} {α : Abs} {c last k : Nat} {x : Int32} {P : Int64 → Hp → Prop} (hw : WF α) (hC : RC σ α) (hc : c ≤ 16) (hl : last < 30) (hk : k < nH α) (hx : isD x 2) (h : ∀ ρ, RC ρ α → P (crA α c last k x) ρ) : wp_P_court σ (nI c) (nI last) (nI k) x P := by
  have hH := nH_le hw
  refine sp_P_court hw hC (fun c' l' h' ρ hc' hl' hh' e0 e1 e2 _ hC2 => ?_) (fun n => absurd ⟨⟨c, by omega, rfl⟩, ⟨last, hl, rfl⟩, ⟨k, hk, rfl⟩, hx⟩ n)
  have a := inj (by omega) (by omega) e1
  have b := inj (by omega) (by omega) e2
  have d := inj (by omega) (by omega) e0
  subst a; subst b; subst d; exact h ρ hC2
theorem dP_month {σ : Hp} {α : Abs} {seed x : Int32} {day : Nat} {P : Int32 → Hp → Prop} (hw : WF α) (hC : RC σ α) (hd : day < 30) (hx : x = -1 ∨ isD x (nH α)) (h : ∀ ρ, RC ρ α → P (moA α seed day x) ρ) : wp_P_month σ seed (nI day) x P := by
  refine sp_P_month hw hC (fun d' ρ hd' e _ hC2 => ?_) (fun n => absurd ⟨⟨day, hd, rfl⟩, hx⟩ n)
  have a := inj (by omega) (by omega) e
  subst a; exact h ρ hC2
theorem dP_rate {σ : Hp} {α : Abs} {k : Nat} {P : Int32 → Hp → Prop} (hC : RC σ α) (hk : k < 3) (h : P (nI (rT α k)) σ) : wp_P_rate σ (nI k) P := by
  refine sp_P_isKind (fun _ => br_f one0 ⟨pk_in k 3 hk, ?_⟩) (fun z => absurd ⟨k, hk, rfl⟩ z)
  rw [ixn (by omega), hC.2.1.2.1.2 k hk]; exact h
theorem dP_fair {σ : Hp} {α : Abs} {last k : Nat} {x : Int32} {P : Int32 → Hp → Prop} (hw : WF α) (hC : RC σ α) (hl : last < 30) (hk : k < 3) (hx : isD x 2) (h : ∀ ρ, RC ρ α → P (frA α last k x) ρ) : wp_P_fair σ (nI last) (nI k) x P := by
  refine sp_P_fair hw hC (fun l' k' ρ hl' hk' e1 e2 _ hC2 => ?_) (fun n => absurd ⟨⟨last, hl, rfl⟩, ⟨k, hk, rfl⟩, hx⟩ n)
  have a := inj (by omega) (by omega) e1
  have b := inj (by omega) (by omega) e2
  subst a; subst b; exact h ρ hC2
theorem dP_coin {σ : Hp} {α : Abs} {last : Nat} {P : Int32 → Hp → Prop} (hw : WF α) (hC : RC σ α) (hl : last < 30) (h : ∀ ρ, RC ρ α → P (coinA α last) ρ) : wp_P_coin σ (nI last) P :=
  sp_P_coin hw hC (fun l' ρ hl' e hC2 => by have := inj (by omega) (by omega) e; subst this; exact h ρ hC2) (fun n => absurd ⟨last, hl, rfl⟩ n)
theorem dP_richest {σ : Hp} {α : Abs} {last : Nat} {P : Int32 → Hp → Prop} (hw : WF α) (hC : RC σ α) (hl : last < 30) (h : ∀ ρ, RC ρ α → P (richV (balI (ctA α) last) (nH α)) ρ) : wp_P_richest σ (nI last) P :=
  sp_P_richest hw hC (fun l' ρ hl' e hC2 => by have := inj (by omega) (by omega) e; subst this; exact h ρ hC2) (fun n => absurd ⟨last, hl, rfl⟩ n)
theorem dP_payments {σ : Hp} {α : Abs} {last : Nat} {P : Int32 → Hp → Prop} (hw : WF α) (hC : RC σ α) (hl : last < 30) (h : ∀ ρ, RC ρ α → P (payV (balI (ctA α) last) (nH α)) ρ) : wp_P_payments σ (nI last) P :=
  sp_P_payments hw hC (fun l' ρ hl' e hC2 => by have := inj (by omega) (by omega) e; subst this; exact h ρ hC2) (fun n => absurd ⟨last, hl, rfl⟩ n)
theorem dP_rings {σ : Hp} {α : Abs} {last : Nat} {x : Int32} {P : Int32 → Hp → Prop} (hw : WF α) (hC : RC σ α) (hl : last < 30) (hx : isD x 2) (h : ∀ ρ, RC ρ α → P (rgA (ctA α) last (nH α) x) ρ) : wp_P_rings σ (nI last) x P :=
  sp_P_rings hw hC (fun l' ρ hl' e _ hC2 => by have := inj (by omega) (by omega) e; subst this; exact h ρ hC2) (fun n => absurd ⟨⟨last, hl, rfl⟩, hx⟩ n)
theorem dP_drop {σ : Hp} {α : Abs} {day : Nat} {x : Int32} {P : Int32 → Hp → Prop} (hw : WF α) (hC : RC σ α) (hd : day < 30) (hx : isM x) (h : ∀ ρ, RC ρ α → P (drX (drA α day) x) ρ) : wp_P_drop σ (nI day) x P :=
  sp_P_drop hw hC (fun l' ρ hl' e _ hC2 => by have := inj (by omega) (by omega) e; subst this; exact h ρ hC2) (fun n => absurd ⟨⟨day, hd, rfl⟩, hx⟩ n)
theorem dP_ask {σ : Hp} {α : Abs} {last : Nat} {P : Int32 → Hp → Prop} (hw : WF α) (hC : RC σ α) (hl : last < 30) (h : ∀ ρ, RC ρ α → P (askA α last).1 ρ) : wp_P_ask σ (nI last) P :=
  sp_P_ask hw hC (fun l' ρ hl' e hC2 => by have := inj (by omega) (by omega) e; subst this; exact h ρ hC2) (fun n => absurd ⟨last, hl, rfl⟩ n)
theorem dP_count {σ : Hp} {α : Abs} {k : Nat} {P : Int32 → Hp → Prop} (hC : RC σ α) (hk : k < 9) (h : P (cntA α k) σ) : wp_P_count σ (nI k) P :=
  sp_P_count hC (fun k' hk' e => by have := inj (by omega) (by omega) e; subst this; exact h) (fun n => absurd ⟨k, hk, rfl⟩ n)
theorem d2_0 : isD (0 : Int32) 2 := ⟨0, by decide, rfl⟩
theorem d2_1 : isD (1 : Int32) 2 := ⟨1, by decide, rfl⟩
-- days, and the end
theorem P_dg342 {σ : Hp} {α : Abs} {v : Int64} {P : Int64 → Hp → Prop} (hw : WF α) (hC : RC σ α) (h : ∀ ρ, RC ρ α → P (dgE α v) ρ) : j_P_digest_342 P σ v 3 0 := by
  intro I hI
  have e0 : dgD (ix (nI 0)) = nI 0 := by rw [ixn (by decide)]; rfl
  have e1 : dgD (ix (nI 1)) = nI 5 := by rw [ixn (by decide)]; rfl
  have e2 : dgD (ix (nI 2)) = nI 29 := by rw [ixn (by decide)]; rfl
  have day : ∀ (i d : Nat) (v : Int64) (ρ : Hp), i < 3 → d < 30 → dgD (ix (nI i)) = nI d → RC ρ α → (∀ ρ2, RC ρ2 α → I ρ2 (dgT α d v) 3 (nI (i + 1))) → I ρ v 3 (nI i) := by
    intro i d v ρ hi hd ed hC hn
    apply hI
    refine pk_le 3 i (fun c => absurd c (by omega)) (fun _ => ⟨pk_in i 3 hi, fun v8 e8 => ?_⟩)
    rw [ed] at e8
    subst e8
    refine dP_coin hw hC hd (fun ρ1 hC1 w1 f1 => ?_)
    refine dP_richest hw hC1 hd (fun ρ2 hC2 w2 f2 => ?_)
    refine dP_payments hw hC2 hd (fun ρ3 hC3 w3 f3 => ?_)
    refine dP_rings hw hC3 hd d2_0 (fun ρ4 hC4 w4 f4 => ?_)
    refine dP_rings hw hC4 hd d2_1 (fun ρ5 hC5 w5 f5 => ?_)
    refine dP_drop hw hC5 hd (Or.inl rfl) (fun ρ6 hC6 w6 f6 => ?_)
    refine dP_drop hw hC6 hd (Or.inr (Or.inl rfl)) (fun ρ7 hC7 w7 f7 => ?_)
    refine dP_ask hw hC7 hd (fun ρ8 hC8 w8 f8 w9 f9 => ?_)
    have hn := hn ρ8 hC8
    rw [f9, show nI i + 1 = nI (i + 1) from nI_1 i, f8, f7, f6, f5, f4, f3, f2, f1]
    exact hn
  refine day 0 0 v σ (by decide) (by decide) e0 hC (fun ρ1 hC1 => ?_)
  refine day 1 5 _ ρ1 (by decide) (by decide) e1 hC1 (fun ρ2 hC2 => ?_)
  refine day 2 29 _ ρ2 (by decide) (by decide) e2 hC2 (fun ρ3 hC3 => ?_)
  apply hI
  refine pk_le 3 3 (fun _ => ?_) (fun c => absurd c (by omega))
  refine sp_P_never hw hC3 (fun w1 f1 => ?_)
  refine dP_month (day := 20) hw hC3 (by decide) (Or.inl rfl) (fun ρ4 hC4 => ?_)
  rw [f1]; exact h ρ4 hC4
theorem P_dg275 {σ : Hp} {α : Abs} {v : Int64} {P : Int64 → Hp → Prop} (hw : WF α) (hC : RC σ α) (h : ∀ ρ, RC ρ α → P (dgE α (itr (dgK α) 0 3 v)) ρ) : j_P_digest_275 P σ v 0 := by
  intro I hI
  have key : ∀ m k (v' : Int64) (ρ : Hp), k + m = 3 → RC ρ α → itr (dgK α) k m v' = itr (dgK α) 0 3 v → I ρ v' (nI k) := by
    intro m
    induction m with
    | zero =>
      intro k v' ρ hk hC hv
      have : k = 3 := by omega
      subst this
      have hv : v' = itr (dgK α) 0 3 v := hv
      subst hv
      apply hI
      exact pk_le 3 3 (fun _ => P_dg342 hw hC h) (fun c => absurd c (by omega))
    | succ m ih =>
      intro k v' ρ hk hC hv
      apply hI
      refine pk_le 3 k (fun c => absurd c (by omega)) (fun _ => dP_rate hC (by omega) (fun w1 f1 => ?_))
      refine dP_fair (last := 9) hw hC (by decide) (by omega) d2_0 (fun ρ2 hC2 w2 f2 => ?_)
      refine dP_fair (last := 9) hw hC2 (by decide) (by omega) d2_1 (fun ρ3 hC3 w3 f3 w4 f4 => ?_)
      rw [f4, show nI k + 1 = nI (k + 1) from nI_1 k, f3, f2, f1]
      exact ih (k + 1) _ ρ3 (by omega) hC3 hv
  exact key 3 0 v σ rfl hC rfl
theorem P_dg59 {σ : Hp} {α : Abs} {v : Int64} {P : Int64 → Hp → Prop} (hw : WF α) (hC : RC σ α) (h : ∀ ρ, RC ρ α → P (dgE α (itr (dgK α) 0 3 (itr (dgH α) 0 (nH α) v))) ρ) : j_P_digest_59 P σ v 0 := by
  have hH := nH_le hw
  intro I hI
  have key : ∀ m k (v' : Int64) (ρ : Hp), k + m = nH α → RC ρ α → itr (dgH α) k m v' = itr (dgH α) 0 (nH α) v → I ρ v' (nI k) := by
    intro m
    induction m with
    | zero =>
      intro k v' ρ hk hC hv
      have : k = nH α := by omega
      subst this
      have hv : v' = itr (dgH α) 0 (nH α) v := hv
      subst hv
      apply hI
      unfold b_P_digest_59_
      rw [hC.2.1.1.1]
      exact pk_le (nH α) (nH α) (fun _ => P_dg275 hw hC h) (fun c => absurd c (by omega))
    | succ m ih =>
      intro k v' ρ hk hC hv
      have hkH : k < nH α := by omega
      apply hI
      unfold b_P_digest_59_
      rw [hC.2.1.1.1]
      refine pk_le (nH α) k (fun c => absurd c (by omega)) (fun _ => ?_)
      intro J hJJ
      -- build, and behind it
      have three : ∀ (u : Int64) (ρ : Hp), RC ρ α → u = dgB α k (itr (fun w v => dgS v (hsA α k w)) 0 4 v') → j_P_digest_176 P I ρ u (nI k) 0 := by
        intro u ρ hC hu K hK
        have key3 : ∀ m2 w (u' : Int64) (ρ : Hp), w + m2 = 3 → RC ρ α → itr (fun w v => dgS v (bdA α 9 k (nI w))) w m2 u' = itr (fun w v => dgS v (bdA α 9 k (nI w))) 0 3 u → K ρ u' (nI k) (nI w) := by
          intro m2
          induction m2 with
          | zero =>
            intro w u' ρ hw2 hC hv2
            have : w = 3 := by omega
            subst this
            have hv2 : u' = itr (fun w v => dgS v (bdA α 9 k (nI w))) 0 3 u := hv2
            apply hK
            refine pk_lt 2 3 (fun _ => ?_) (fun c => absurd c (by omega))
            refine dP_leaked hw hC hkH (fun ρ1 hC1 w1 f1 => ?_)
            refine dP_court (c := 5) (last := 9) hw hC1 (by decide) (by decide) hkH d2_0 (fun ρ2 hC2 w2 f2 => ?_)
            refine dP_court (c := 5) (last := 9) hw hC2 (by decide) (by decide) hkH d2_1 (fun ρ3 hC3 w3 f3 => ?_)
            refine dP_month (day := 20) hw hC3 (by decide) (Or.inr ⟨k, hkH, rfl⟩) (fun ρ4 hC4 w4 f4 w5 f5 => ?_)
            rw [f5, show nI k + 1 = nI (k + 1) from nI_1 k, f4, f3, f2, f1, hv2, hu]
            exact ih (k + 1) _ ρ4 (by omega) hC4 hv
          | succ m2 ih2 =>
            intro w u' ρ hw2 hC hv2
            apply hK
            refine pk_lt 2 w (fun c => absurd c (by omega)) (fun _ => dP_build (last := 9) hw hC (by decide) hkH (by omega) (fun ρ2 hC2 w1 f1 w2 f2 => ?_))
            rw [f2, show nI w + 1 = nI (w + 1) from nI_1 w, f1]
            exact ih2 (w + 1) _ ρ2 (by omega) hC2 hv2
        exact key3 3 0 u ρ rfl hC rfl
      have key2 : ∀ m2 w (u : Int64), w + m2 = 4 → itr (fun w v => dgS v (hsA α k w)) w m2 u = itr (fun w v => dgS v (hsA α k w)) 0 4 v' → J ρ u (nI k) (nI w) := by
        intro m2
        induction m2 with
        | zero =>
          intro w u hw2 hv2
          have : w = 4 := by omega
          subst this
          have hv2 : u = itr (fun w v => dgS v (hsA α k w)) 0 4 v' := hv2
          apply hJJ
          refine pk_lt 3 4 (fun _ => ?_) (fun c => absurd c (by omega))
          refine sp_P_through hw hC (fun w1 f1 => ?_)
          refine dP_owes (last := 9) hw hC (by decide) (fun w2 f2 => ?_)
          refine dP_balance (last := 9) hw hC (by decide) hkH (fun w3 f3 => ?_)
          refine dP_balance (last := 29) hw hC (by decide) hkH (fun w4 f4 => ?_)
          refine dP_broke hw hC hkH (fun w5 f5 => ?_)
          refine three w5 ρ hC ?_
          rw [f5, f4, f3, f2, f1, hv2]; rfl
        | succ m2 ih2 =>
          intro w u hw2 hv2
          apply hJJ
          refine pk_lt 3 w (fun c => absurd c (by omega)) (fun _ => dP_house hw hC hkH (by omega) (fun w1 f1 w2 f2 => ?_))
          rw [f2, show nI w + 1 = nI (w + 1) from nI_1 w, f1]
          exact ih2 (w + 1) _ (by omega) hv2
      exact key2 4 0 v' rfl rfl
  exact key (nH α) 0 v σ (by omega) hC rfl
theorem sp_P_digest {σ : Hp} {α : Abs} {P : Int64 → Hp → Prop} (hw : WF α) (hC : RC σ α) (h : ∀ ρ, RC ρ α → P (dgV α) ρ) : wp_P_digest σ P := by
  intro I hI
  have two : ∀ u : Int64, u = itr (fun k v => dgS v (cntA α k)) 0 8 17 → j_P_digest_33 P σ u 0 := by
    intro u hu J hJJ
    have key : ∀ m t (u' : Int64), t + m = 2 → itr (fun t v => dgS v (fltA α t)) t m u' = itr (fun t v => dgS v (fltA α t)) 0 2 u → J σ u' (nI t) := by
      intro m
      induction m with
      | zero =>
        intro t u' ht hv
        have : t = 2 := by omega
        subst this
        have hv : u' = itr (fun t v => dgS v (fltA α t)) 0 2 u := hv
        subst hv
        apply hJJ
        refine pk_lt 1 2 (fun _ => P_dg59 hw hC ?_) (fun c => absurd c (by omega))
        rw [hu]; exact h
      | succ m ih =>
        intro t u' ht hv
        apply hJJ
        refine pk_lt 1 t (fun c => absurd c (by omega)) (fun _ => dP_fault hw hC (by omega) (fun w1 f1 w2 f2 => ?_))
        rw [f2, show nI t + 1 = nI (t + 1) from nI_1 t, f1]
        exact ih (t + 1) _ (by omega) hv
    exact key 2 0 u rfl rfl
  have key : ∀ m k (u : Int64), k + m = 8 → itr (fun k v => dgS v (cntA α k)) k m u = itr (fun k v => dgS v (cntA α k)) 0 8 17 → I σ u (nI k) := by
    intro m
    induction m with
    | zero =>
      intro k u hk hv
      have : k = 8 := by omega
      subst this
      apply hI
      exact pk_lt 7 8 (fun _ => two u hv) (fun c => absurd c (by omega))
    | succ m ih =>
      intro k u hk hv
      apply hI
      refine pk_lt 7 k (fun c => absurd c (by omega)) (fun _ => dP_count hC (by omega) (fun w1 f1 w2 f2 => ?_))
      rw [f2, show nI k + 1 = nI (k + 1) from nI_1 k, f1]
      exact ih (k + 1) _ (by omega) hv
  exact key 8 0 17 rfl rfl
