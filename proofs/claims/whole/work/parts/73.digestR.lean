/-! digest: the reference -/
theorem dR_owes {τ : Hp} {α : Abs} {last : Nat} {a b : Int32} {P : Int32 → Hp → Prop} (hw : WF α) (hR : RR τ α) (hl : last < 30) (h : ∀ ρ, RR ρ α → Rd ρ α → P (v2 α a b (owsA α last)) ρ) : wp_R_owes τ (nI last) a b P :=
  sp_R_owes hw hR (fun l' ρ hl' e hR2 hd2 => by have := inj (by omega) (by omega) e; subst this; exact h ρ hR2 hd2) (fun n => absurd ⟨last, hl, rfl⟩ n)
theorem dR_house {τ : Hp} {α : Abs} {k w : Nat} {P : Int32 → Hp → Prop} (hw : WF α) (hd : Rd τ α) (hk : k < nH α) (hw4 : w < 4) (h : P (hsA α k w) τ) : wp_R_houseOf τ (nI k) (nI w) P := by
  have hH := nH_le hw
  obtain ⟨s1, s2, s3, s4⟩ := hd.1.2 k hk
  unfold wp_R_houseOf
  rw [ixn (show k < 2 ^ 31 by omega), s1, s2, s3, s4]
  have h9 : vp_in (nI k) 9 := pk_in k 9 (by omega)
  unfold hsA at h
  refine pk_ne w 0 (fun c0 => ?_) (fun c0 => ⟨h9, ?_⟩)
  · rw [if_neg c0] at h
    refine pk_ne w 1 (fun c1 => ?_) (fun c1 => ⟨h9, ?_⟩)
    · rw [if_neg c1] at h
      refine pk_ne w 2 (fun c2 => ⟨h9, ?_⟩) (fun c2 => ⟨h9, ?_⟩)
      · rw [if_neg c2] at h; exact h
      · rw [if_pos c2] at h; exact h
    · rw [if_pos c1] at h; exact h
  · rw [if_pos c0] at h; exact h
theorem dR_rate {τ : Hp} {α : Abs} {k : Nat} {P : Int32 → Hp → Prop} (hw : WF α) (hR : RR τ α) (hk : k < 3) (h : ∀ ρ, RR ρ α → Rd ρ α → P (nI (rT α k)) ρ) : wp_R_rateOf τ (nI k) P := by
  refine sp_R_reads hw hR.1 (fun ρ hB hd => ⟨pk_in k 3 hk, ?_⟩)
  rw [ixn (by omega), hd.2.2 k hk]
  exact h ρ (hR.ps hB.ps) hd
theorem dR_count {τ : Hp} {α : Abs} {k : Nat} {P : Int32 → Hp → Prop} (hw : WF α) (hR : RR τ α) (hk : k < 9) (h : ∀ ρ, RR ρ α → P (cntA α k) ρ) : wp_R_count τ (nI k) P :=
  sp_R_count hw hR (fun k' ρ hk' e hR2 _ _ => by have := inj (by omega) (by omega) e; subst this; exact h ρ hR2) (fun n => absurd ⟨k, hk, rfl⟩ n)
theorem sp_R_dayDigest {τ : Hp} {α : Abs} {d : Nat} {v : Int64} {P : Int64 → Hp → Prop} (hw : WF α) (hR : RR τ α) (hd : d < 30) (h : ∀ ρ, RR ρ α → P (dgT α d v) ρ) : wp_R_dayDigest τ v (nI d) P := by
  refine sp_R_coinOf hw hR hd (fun ρ1 h1 _ w1 f1 => ?_)
  refine sp_R_richestOf hw h1 hd (fun ρ2 h2 _ w2 f2 => ?_)
  refine sp_R_paymentsOf hw h2 hd (fun ρ3 h3 _ w3 f3 => ?_)
  refine sp_R_ringsOf hw h3 hd (fun ρ4 h4 _ w4 f4 => ?_)
  refine sp_R_ringsOf hw h4 hd (fun ρ5 h5 _ w5 f5 => ?_)
  refine sp_R_dropBy hw h5 hd (fun ρ6 hT6 hrow w6 f6 => ?_)
  refine sp_R_ofRow (drA_ok hw d) hrow (Or.inr (Or.inl rfl)) (fun w7 f7 => ?_)
  refine sp_R_askOf hw hT6.1 hd (fun ρ8 h8 _ => ?_)
  rw [f7, f6, f5, f4, f3, f2, f1]
  exact h ρ8 h8
theorem sp_R_houseDigest {τ : Hp} {α : Abs} {k : Nat} {v : Int64} {P : Int64 → Hp → Prop} (hw : WF α) (hR : RR τ α) (hd : Rd τ α) (hk : k < nH α) (h : ∀ ρ, RR ρ α → Rd ρ α → P (dgH α k v) ρ) : wp_R_houseDigest τ v (nI k) P := by
  have hH := nH_le hw
  intro I hI
  have three : ∀ (u : Int64) (ρ : Hp), RR ρ α → u = dgB α k (itr (fun w v => dgS v (hsA α k w)) 0 4 v) → j_R_houseDigest_121 P ρ (nI k) u 0 := by
    intro u ρ hR hu K hK
    have key3 : ∀ m2 w (u' : Int64) (ρ : Hp), w + m2 = 3 → RR ρ α → itr (fun w v => dgS v (bdA α 9 k (nI w))) w m2 u' = itr (fun w v => dgS v (bdA α 9 k (nI w))) 0 3 u → K ρ (nI k) u' (nI w) := by
      intro m2
      induction m2 with
      | zero =>
        intro w u' ρ hw2 hR hv2
        have : w = 3 := by omega
        subst this
        have hv2 : u' = itr (fun w v => dgS v (bdA α 9 k (nI w))) 0 3 u := hv2
        apply hK
        refine pk_le 3 3 (fun _ => ?_) (fun c => absurd c (by omega))
        refine sp_R_leakedOf hw hR hk (fun ρ1 h1 _ w1 f1 => ?_)
        refine sp_R_courtOf (c := 5) (last := 9) hw h1 (by decide) (by decide) hk (fun ρ2 h2 _ w2 f2 => ?_)
        refine sp_R_courtOf (c := 5) (last := 9) hw h2 (by decide) (by decide) hk (fun ρ3 h3 _ w3 f3 => ?_)
        refine sp_R_monthOf (day := 20) hw h3 (by decide) (Or.inr ⟨k, hk, rfl⟩) (fun ρ4 h4 hd4 => ?_)
        rw [f3, f2, f1, hv2, hu]
        exact h ρ4 h4 hd4
      | succ m2 ih2 =>
        intro w u' ρ hw2 hR hv2
        apply hK
        refine pk_le 3 w (fun c => absurd c (by omega)) (fun _ => sp_R_buildOf (last := 9) hw hR (by decide) hk (fun ρ2 h2 _ w1 f1 w2 f2 => ?_))
        rw [f2, show nI w + 1 = nI (w + 1) from nI_1 w, f1]
        exact ih2 (w + 1) _ ρ2 (by omega) h2 hv2
    exact key3 3 0 u ρ rfl hR rfl
  have key2 : ∀ m2 w (u : Int64), w + m2 = 4 → itr (fun w v => dgS v (hsA α k w)) w m2 u = itr (fun w v => dgS v (hsA α k w)) 0 4 v → I τ (nI k) u (nI w) := by
    intro m2
    induction m2 with
    | zero =>
      intro w u hw2 hv2
      have : w = 4 := by omega
      subst this
      have hv2 : u = itr (fun w v => dgS v (hsA α k w)) 0 4 v := hv2
      apply hI
      refine pk_le 4 4 (fun _ => ?_) (fun c => absurd c (by omega))
      refine sp_R_through hw hR (fun ρ1 h1 _ w1 f1 => ?_)
      refine dR_owes (last := 9) hw h1 (by decide) (fun ρ2 h2 _ w2 f2 => ?_)
      refine sp_R_balanceOf (last := 9) hw h2 (by decide) hk (fun ρ3 h3 _ w3 f3 => ?_)
      refine sp_R_balanceOf (last := 29) hw h3 (by decide) hk (fun ρ4 h4 _ w4 f4 => ?_)
      refine sp_R_brokeOf hw h4 hk (fun ρ5 h5 _ w5 f5 => ?_)
      refine three w5 ρ5 h5 ?_
      rw [f5, f4, f3, f2, f1, hv2]; rfl
    | succ m2 ih2 =>
      intro w u hw2 hv2
      apply hI
      refine pk_le 4 w (fun c => absurd c (by omega)) (fun _ => dR_house hw hd hk (by omega) (fun w1 f1 w2 f2 => ?_))
      rw [f2, show nI w + 1 = nI (w + 1) from nI_1 w, f1]
      exact ih2 (w + 1) _ (by omega) hv2
  exact key2 4 0 v rfl rfl
theorem R_dg82 {τ : Hp} {α : Abs} {v : Int64} {P : Int64 → Hp → Prop} (hw : WF α) (hR : RR τ α) (h : ∀ ρ, RR ρ α → P (dgE α (itr (dgK α) 0 3 v)) ρ) : j_R_digest_82 P τ v 0 := by
  intro I hI
  have key : ∀ m k (v' : Int64) (ρ : Hp), k + m = 3 → RR ρ α → itr (dgK α) k m v' = itr (dgK α) 0 3 v → I ρ v' (nI k) := by
    intro m
    induction m with
    | zero =>
      intro k v' ρ hk hR hv
      have : k = 3 := by omega
      subst this
      have hv : v' = itr (dgK α) 0 3 v := hv
      subst hv
      apply hI
      refine pk_le 3 3 (fun _ => ?_) (fun c => absurd c (by omega))
      refine sp_R_dayDigest (d := 0) hw hR (by decide) (fun ρ1 h1 => ?_)
      refine sp_R_dayDigest (d := 5) hw h1 (by decide) (fun ρ2 h2 => ?_)
      refine sp_R_dayDigest (d := 29) hw h2 (by decide) (fun ρ3 h3 => ?_)
      refine sp_R_neverNow hw h3 (fun ρ4 hT4 w1 f1 => ?_)
      refine sp_R_monthOf (day := 20) hw hT4.1 (by decide) (Or.inl rfl) (fun ρ5 h5 _ => ?_)
      rw [f1]; exact h ρ5 h5
    | succ m ih =>
      intro k v' ρ hk hR hv
      apply hI
      refine pk_le 3 k (fun c => absurd c (by omega)) (fun _ => dR_rate hw hR (by omega) (fun ρ1 h1 _ w1 f1 => ?_))
      refine sp_R_fairOf (last := 9) hw h1 (by decide) (by omega) (fun ρ2 h2 _ w2 f2 => ?_)
      refine sp_R_fairOf (last := 9) hw h2 (by decide) (by omega) (fun ρ3 h3 _ w3 f3 w4 f4 => ?_)
      rw [f4, show nI k + 1 = nI (k + 1) from nI_1 k, f3, f2, f1]
      exact ih (k + 1) _ ρ3 (by omega) h3 hv
  exact key 3 0 v τ rfl hR rfl
theorem R_dg59 {τ : Hp} {α : Abs} {v : Int64} {P : Int64 → Hp → Prop} (hw : WF α) (hR : RR τ α) (hd : Rd τ α) (h : ∀ ρ, RR ρ α → P (dgE α (itr (dgK α) 0 3 (itr (dgH α) 0 (nH α) v))) ρ) : j_R_digest_59 P τ v 0 := by
  have hH := nH_le hw
  intro I hI
  have key : ∀ m k (v' : Int64) (ρ : Hp), k + m = nH α → RR ρ α → Rd ρ α → itr (dgH α) k m v' = itr (dgH α) 0 (nH α) v → I ρ v' (nI k) := by
    intro m
    induction m with
    | zero =>
      intro k v' ρ hk hR hd hv
      have : k = nH α := by omega
      subst this
      have hv : v' = itr (dgH α) 0 (nH α) v := hv
      subst hv
      apply hI
      unfold b_R_digest_59_
      rw [hd.1.1]
      exact pk_le (nH α) (nH α) (fun _ => R_dg82 hw hR h) (fun c => absurd c (by omega))
    | succ m ih =>
      intro k v' ρ hk hR hd hv
      apply hI
      unfold b_R_digest_59_
      rw [hd.1.1]
      refine pk_le (nH α) k (fun c => absurd c (by omega)) (fun _ => sp_R_houseDigest hw hR hd (by omega) (fun ρ2 h2 hd2 w1 f1 => ?_))
      rw [f1, show nI k + 1 = nI (k + 1) from nI_1 k]
      exact ih (k + 1) _ ρ2 (by omega) h2 hd2 hv
  exact key (nH α) 0 v τ (by omega) hR hd rfl
theorem sp_R_digest {τ : Hp} {α : Abs} {P : Int64 → Hp → Prop} (hw : WF α) (hR : RR τ α) (h : ∀ ρ, RR ρ α → P (dgV α) ρ) : wp_R_digest τ P := by
  intro I hI
  have key : ∀ m k (u : Int64) (ρ : Hp), k + m = 8 → RR ρ α → itr (fun k v => dgS v (cntA α k)) k m u = itr (fun k v => dgS v (cntA α k)) 0 8 17 → I ρ u (nI k) := by
    intro m
    induction m with
    | zero =>
      intro k u ρ hk hR hv
      have : k = 8 := by omega
      subst this
      have hv : u = itr (fun k v => dgS v (cntA α k)) 0 8 17 := hv
      subst hv
      apply hI
      refine pk_le 8 8 (fun _ => ?_) (fun c => absurd c (by omega))
      refine sp_R_faultOf (t := 0) hw hR.1 (by decide) (fun ρ1 hB1 _ w1 f1 => ?_)
      have h1 := hR.ps hB1.ps
      refine sp_R_faultOf (t := 1) hw h1.1 (by decide) (fun ρ2 hB2 hd2 w2 f2 => ?_)
      rw [f2, f1]
      exact R_dg59 hw (h1.ps hB2.ps) hd2 h
    | succ m ih =>
      intro k u ρ hk hR hv
      apply hI
      refine pk_le 8 k (fun c => absurd c (by omega)) (fun _ => dR_count hw hR (by omega) (fun ρ1 h1 w1 f1 w2 f2 => ?_))
      rw [f2, show nI k + 1 = nI (k + 1) from nI_1 k, f1]
      exact ih (k + 1) _ ρ1 (by omega) h1 hv
  exact key 8 0 17 τ rfl hR rfl
theorem h_digest : H_digest Rel := by
  intro σ τ hrel
  obtain ⟨α, hw, hC, hR⟩ := hrel
  exact sp_P_digest hw hC (fun ρ hC2 => sp_R_digest hw hR (fun ρ2 hR2 => ⟨rfl, α, hw, hC2, hR2⟩))
