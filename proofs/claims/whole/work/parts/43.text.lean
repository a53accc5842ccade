/-! texts, of the class -/
theorem ch_i8 : ∀ c, c < 256 → (((nI c).toInt8.toInt32 = 99 ↔ c = 99) ∧ ((nI c).toInt8.toInt32 = 109 ↔ c = 109) ∧ ((nI c).toInt8.toInt32 = 104 ↔ c = 104) ∧ ((nI c).toInt8.toInt32 = 111 ↔ c = 111)) := by decide +kernel
theorem ch_c : ∀ c, c < 256 → ((nI c).toUInt32 % 65536).toInt32 = nI c := by decide +kernel
theorem kindN_le (c : Nat) : kindN c ≤ 4 := by unfold kindN; (repeat' split) <;> omega
theorem sp_indexOfChar {σ : Hp} {o c : Nat} {P : Int32 → Hp → Prop} (ho : isN o) (hc : c < 256) (h1 : kindN c < strN o → P (nI (kindN c)) σ) (h0 : ¬ kindN c < strN o → P (-1) σ) : wp_JL_indexOfChar σ (o + 2) (nI c) 0 (Int32.ofNat (strN o)) P := by
  have hv : isV (o + 2) := by rcases ho with rfl | rfl <;> first | exact Or.inl rfl | exact Or.inr rfl
  obtain ⟨e1, e2, e3, e4⟩ := ch_i8 c hc
  refine ⟨hv, fun v7 e7 => ?_⟩
  subst e7
  generalize (nI c).toInt8.toInt32 = ch at e1 e2 e3 e4 ⊢
  intro I hI
  have hlen : strN o < 2 ^ 31 := by rcases ho with rfl | rfl <;> decide
  have step : ∀ k, k < strN o → (strB o k = ch → P (nI k) σ) → (¬ strB o k = ch → I σ (o + 2) (Int32.ofNat (strN o)) ch (nI (k + 1))) → I σ (o + 2) (Int32.ofNat (strN o)) ch (nI k) := by
    intro k hk f g
    apply hI
    refine ⟨hv, pk_le (strN o) k (fun q => absurd q (by omega)) (fun _ => ⟨?_, ?_⟩)⟩
    · rw [Nat.add_sub_cancel]; exact pk_in k _ hk
    · rw [Nat.add_sub_cancel, show ix (nI k) = k from nI_clamp (by omega)]
      exact ⟨fun q v5 e5 => by rw [e5, show nI k + 1 = nI (k + 1) from nI_1 k]; exact g q, f⟩
  have stop : P (-1) σ → I σ (o + 2) (Int32.ofNat (strN o)) ch (nI (strN o)) := by
    intro f
    apply hI
    exact ⟨hv, pk_le (strN o) (strN o) (fun _ => f) (fun q => absurd q (by omega))⟩
  have hk0 : ∀ z, z = kindN c → (z = 0 ↔ c = 99) ∧ (z = 1 ↔ c = 109) ∧ (z = 2 ↔ c = 104) ∧ (z = 3 ↔ c = 111) := by
    intro z hz; subst hz; unfold kindN
    refine ⟨?_, ?_, ?_, ?_⟩ <;> constructor <;> intro h <;> (repeat' split at h) <;> (repeat' split) <;> omega
  obtain ⟨k0, k1, k2, k3⟩ := hk0 _ rfl
  have fin : ∀ j, j < strN o → kindN c = j → P (nI j) σ := fun j hj e => by
    have := h1 (by omega)
    rw [e] at this; exact this
  have non : (¬ strN o ≤ 0 → kindN c ≠ 0) → (1 < strN o → kindN c ≠ 1) → (2 < strN o → kindN c ≠ 2) → (3 < strN o → kindN c ≠ 3) → P (-1) σ := by
    intro a b d f
    apply h0
    intro h
    rcases ho with rfl | rfl
    · have : strN 50 = 4 := rfl
      have a := a (by omega); have b := b (by omega); have d := d (by omega); have f := f (by omega)
      omega
    · have : strN 51 = 3 := rfl
      have a := a (by omega); have b := b (by omega); have d := d (by omega)
      omega
  rcases ho with rfl | rfl
  · refine step 0 (by decide) (fun q => fin 0 (by decide) (k0.mpr (e1.mp q.symm))) (fun q0 => ?_)
    refine step 1 (by decide) (fun q => fin 1 (by decide) (k1.mpr (e2.mp q.symm))) (fun q1 => ?_)
    refine step 2 (by decide) (fun q => fin 2 (by decide) (k2.mpr (e3.mp q.symm))) (fun q2 => ?_)
    refine step 3 (by decide) (fun q => fin 3 (by decide) (k3.mpr (e4.mp q.symm))) (fun q3 => ?_)
    exact stop (non (fun _ z => q0 (e1.mpr (k0.mp z)).symm) (fun _ z => q1 (e2.mpr (k1.mp z)).symm) (fun _ z => q2 (e3.mpr (k2.mp z)).symm) (fun _ z => q3 (e4.mpr (k3.mp z)).symm))
  · refine step 0 (by decide) (fun q => fin 0 (by decide) (k0.mpr (e1.mp q.symm))) (fun q0 => ?_)
    refine step 1 (by decide) (fun q => fin 1 (by decide) (k1.mpr (e2.mp q.symm))) (fun q1 => ?_)
    refine step 2 (by decide) (fun q => fin 2 (by decide) (k2.mpr (e3.mp q.symm))) (fun q2 => ?_)
    exact stop (non (fun _ z => q0 (e1.mpr (k0.mp z)).symm) (fun _ z => q1 (e2.mpr (k1.mp z)).symm) (fun _ z => q2 (e3.mpr (k2.mp z)).symm) (fun h => absurd h (by decide)))
theorem sp_indexOf {σ : Hp} {o c : Nat} {P : Int32 → Hp → Prop} (ho : isN o) (hc : c < 256) (h1 : kindN c < strN o → P (nI (kindN c)) σ) (h0 : ¬ kindN c < strN o → P (-1) σ) : wp_JS_indexOf1 σ o (nI c) P := by
  have hv : isV (o + 2) := by rcases ho with rfl | rfl <;> first | exact Or.inl rfl | exact Or.inr rfl
  refine ⟨ho, ho, ho, ?_⟩
  refine ⟨fun z => absurd z one0, fun _ => ⟨fun z => absurd rfl z, fun _ => ⟨fun z => absurd z one0, fun _ => ?_⟩⟩⟩
  refine ⟨ho, hv, ho, ⟨fun z => absurd z one0, fun _ => ?_⟩⟩
  refine ⟨hv, ?_⟩
  have e0 : (Int32.ofNat (strN (o + 2 - 2)) >>> ((0 : Int32) &&& 31)) = Int32.ofNat (strN o) := by rcases ho with rfl | rfl <;> decide
  rw [e0]
  refine ⟨fun z => absurd z (nI_pos (by omega)), fun _ => ⟨fun z => ?_, fun _ => ⟨fun _ => ?_, fun z => absurd z one0⟩⟩⟩
  · exfalso
    have : (255 : Int32) = nI 255 := rfl
    rw [this, nI_ltI (by decide) (by omega)] at z
    omega
  · intro v5 e5 v6 e6
    rw [Nat.add_sub_cancel] at e6
    have e5 : v5 = 0 := by rw [e5]; rfl
    have e6 : v6 = Int32.ofNat (strN o) := by rw [e6]; split <;> rfl
    subst e5; subst e6
    refine ⟨fun _ => sp_indexOfChar ho hc h1 h0, fun z => absurd ?_ z⟩
    rcases ho with rfl | rfl <;> decide
theorem sp_T_goesOn {σ : Hp} {o per km k : Nat} {b : Nat → Nat} {P : Int32 → Hp → Prop} (ho : isT o) (hp : σ o 1 = nI per) (hp2 : 2 ≤ per) (hp3 : per < 100) (hkm : strN (o + 49) = km) (hk : k < tlen o) (hb : σ (o + 13) k = nI (b k)) (hb2 : b k < 256) (h1 : goes per km b k = true → P 1 σ) (h0 : goes per km b k = false → P 0 σ) : wp_T_goesOn σ o (nI k) P := by
  have hkl : k < 100 := by rcases ho with rfl | rfl <;> simp [tlen] at hk <;> omega
  have hmod : k % per < per := Nat.mod_lt _ (by omega)
  refine ⟨ho, by rw [hp]; exact nI_ne0 (by omega) (by omega), fun v3 e3 => ⟨pk_in k _ hk (by rfl) (by rcases ho with rfl | rfl <;> decide), fun v5 e5 => ?_⟩⟩
  rw [show ix (nI k) = k from nI_clamp (by omega), hb] at e5
  rw [hp, pk_rem (by omega) (by omega) (by omega)] at e3
  subst e3; subst e5
  rw [hp, show nI per - 1 = nI (per - 1) from pk_sub (b := 1) (by omega)]
  have e2 : nI (k % per) - nI (k % per) / 2 * 2 = nI (k % per % 2) := pk_rem (a := k % per) (d := 2) (by omega) (by omega) (by omega)
  rw [e2]
  unfold goes at h1 h0
  refine pk_ne (k % per) (per - 1) (fun c => ?_) (fun c => ?_)
  · rw [if_neg c] at h1 h0
    refine pk_ne (k % per % 2) 1 (fun c2 => ?_) (fun c2 => ?_)
    · rw [if_neg c2] at h1 h0
      rw [ch_c _ hb2]
      have hn : kindN (b k) < 2 ^ 31 := by have := kindN_le (b k); omega
      refine sp_indexOf (isN_T ho) hb2 (fun q => ?_) (fun q => ?_)
      · rw [hkm] at q
        exact br_f (nI_pos hn) (h1 (by simp [q]))
      · rw [hkm] at q
        exact br_t (by decide) (h0 (by simp; omega))
    · rw [if_pos c2] at h1 h0
      refine pk_lt (b k) 48 (fun q => h0 (by simp; omega)) (fun q => ?_)
      exact pk_lt 57 (b k) (fun q2 => h0 (by simp; omega)) (fun q2 => h1 (by simp; omega))
  · rw [if_pos c] at h1 h0
    exact pk_ne (b k) 59 (fun q => h0 (by simp [q])) (fun q => h1 (by simp [q]))
theorem sp_T_faultPlace {σ : Hp} {o per km n : Nat} {b : Nat → Nat} {P : Int32 → Hp → Prop} (ho : isT o) (hp : σ o 1 = nI per) (hp2 : 2 ≤ per) (hp3 : per < 100) (hkm : strN (o + 49) = km) (hn : σ o 3 = nI n) (hnl : n ≤ tlen o) (hb : ∀ i, i < n → σ (o + 13) i = nI (b i) ∧ b i < 256) (h : P (faultT per km b n) σ) : wp_T_faultPlace σ o P := by
  have hnl2 : n < 100 := by rcases ho with rfl | rfl <;> simp [tlen] at hnl <;> omega
  refine ⟨ho, ?_⟩
  intro I hI
  have key : ∀ m k, k + m = n → (∀ i, i < k → goes per km b i = true) → I σ o (nI k) := by
    intro m
    induction m with
    | zero =>
      intro k hk hg
      have hkn : k = n := by omega
      subst hkn
      have hbad : badP per km b k = k := badP_all per km b k hg
      apply hI
      refine ⟨ho, ?_⟩
      rw [hn]
      refine pk_le k k (fun _ => ?_) (fun c => absurd c (by omega))
      have yes : (k = 0 ∨ k % per = per - 1) → j_T_faultPlace_51 P σ o := by
        intro hz
        refine ⟨ho, ho, br_f one0 ?_⟩
        have : faultT per km b k = -1 := by
          unfold faultT wellT
          rw [hbad, if_pos]
          rcases hz with hz | hz <;> simp [hz]
        rw [this] at h; exact h
      refine pk_eq k 0 (fun c => yes (Or.inl c)) (fun c => ⟨by rw [hp]; exact nI_ne0 (by omega) (by omega), ?_⟩)
      rw [hp, pk_rem (by omega) (by omega) (by omega), show nI per - 1 = nI (per - 1) from pk_sub (b := 1) (by omega)]
      refine pk_ne (k % per) (per - 1) (fun c2 => ?_) (fun c2 => yes (Or.inr c2)) (by rfl) (by rfl) (by have := Nat.mod_lt k (show 0 < per by omega); omega) (by omega)
      refine ⟨ho, br_t rfl ?_⟩
      rw [hn]
      have : faultT per km b k = nI k := by
        unfold faultT wellT
        rw [hbad, if_neg]
        simp [c, c2]
      rw [this] at h; exact h
    | succ m ih =>
      intro k hk hg
      apply hI
      refine ⟨ho, ?_⟩
      rw [hn]
      refine pk_le n k (fun c => absurd c (by omega)) (fun _ => ?_)
      refine sp_T_goesOn ho hp hp2 hp3 hkm (by omega) (hb k (by omega)).1 (hb k (by omega)).2 (fun q => ?_) (fun q => ?_)
      · refine br_nt one0 (fun v12 e12 => ?_)
        rw [e12, show nI k + 1 = nI (k + 1) from nI_1 k]
        refine ih (k + 1) (by omega) (fun i hi => ?_)
        by_cases hik : i = k
        · rw [hik]; exact q
        · exact hg i (by omega)
      · refine br_nf rfl ?_
        have hbad : badP per km b n = k := badP_at per km b n k (by omega) hg q
        have : faultT per km b n = nI k := by
          unfold faultT wellT
          rw [hbad, if_neg]
          simp; omega
        rw [this] at h; exact h
  exact key n 0 (by omega) (fun i hi => by omega)
theorem faultT_m1 {per km n : Nat} {b : Nat → Nat} (hn : n < 2 ^ 31) : faultT per km b n = -1 ↔ wellT per km b n = true := by
  unfold faultT
  by_cases h : wellT per km b n = true
  · rw [if_pos h]; simp [h]
  · rw [if_neg h]
    constructor
    · intro e
      have := nI_pos' (n := badP per km b n) (by have := badP_le per km b n; omega)
      rw [e] at this
      exact absurd this (by decide)
    · intro e; exact absurd e h
/-- rows: how many, where the text is well -/
theorem sp_T_rows {σ : Hp} {o per km n : Nat} {b : Nat → Nat} {P : Int32 → Hp → Prop} (ho : isT o) (hp : σ o 1 = nI per) (hp2 : 2 ≤ per) (hp3 : per < 100) (hkm : strN (o + 49) = km) (hn : σ o 3 = nI n) (hnl : n ≤ tlen o) (hb : ∀ i, i < n → σ (o + 13) i = nI (b i) ∧ b i < 256) (h : P (nI (if wellT per km b n then (n + 1) / per else 0)) σ) : wp_T_rows σ o P := by
  have hnl2 : n < 100 := by rcases ho with rfl | rfl <;> simp [tlen] at hnl <;> omega
  refine ⟨ho, sp_T_faultPlace ho hp hp2 hp3 hkm hn hnl hb ?_⟩
  by_cases hw : wellT per km b n = true
  · rw [if_pos hw] at h
    refine br_nf ((faultT_m1 (by omega)).mpr hw) ⟨by rw [hp]; exact nI_ne0 (by omega) (by omega), ?_⟩
    rw [hn, hp, show nI n + 1 = nI (n + 1) from nI_1 n, pk_div (by omega) (by omega) (by omega)]
    exact h
  · rw [if_neg hw] at h
    exact br_nt (fun e => hw ((faultT_m1 (by omega)).mp e)) h
theorem sp_T_kindAt {σ : Hp} {o per r c x : Nat} {P : Int32 → Hp → Prop} (ho : isT o) (hp : σ o 1 = nI per) (hi : r * per + c < tlen o) (hx : σ (o + 13) (r * per + c) = nI x) (hx2 : x < 256) (hk : kindN x < strN (o + 49)) (h : P (nI (kindN x)) σ) : wp_T_kindAt σ o (nI r) (nI c) P := by
  have hl : tlen o < 100 := by rcases ho with rfl | rfl <;> decide
  unfold wp_T_kindAt
  rw [hp, pk_mul, nI_add, show ix (nI (r * per + c)) = r * per + c from nI_clamp (by omega), hx, ch_c _ hx2]
  exact ⟨ho, pk_in _ _ hi, sp_indexOf (isN_T ho) hx2 (fun _ => h) (fun q => absurd hk q)⟩
theorem sp_T_figureAt {σ : Hp} {o per r c x : Nat} {P : Int32 → Hp → Prop} (ho : isT o) (hp : σ o 1 = nI per) (hi : r * per + c < tlen o) (hx : σ (o + 13) (r * per + c) = nI x) (hx2 : 48 ≤ x) (h : P (nI (x - 48)) σ) : wp_T_figureAt σ o (nI r) (nI c) P := by
  have hl : tlen o < 100 := by rcases ho with rfl | rfl <;> decide
  unfold wp_T_figureAt
  rw [hp, pk_mul, nI_add, show ix (nI (r * per + c)) = r * per + c from nI_clamp (by omega), hx, show nI x - 48 = nI (x - 48) from pk_sub hx2]
  exact ⟨ho, pk_in _ _ hi, h⟩
