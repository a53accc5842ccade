/-! texts, of the reference -/
def aN (α : Abs) (t : Nat) : Nat := if t = 0 then aN0 α else aN1 α
def aB (α : Abs) (t : Nat) : Nat → Nat := if t = 0 then aB0 α else aB1 α
theorem aN_lt {α : Abs} (hw : WF α) (t : Nat) : aN α t < 40 := by
  have h1 := hw.1.1.1
  have h2 := hw.1.2.1
  unfold aN; split <;> omega
theorem aB_lt {α : Abs} (hw : WF α) {t i : Nat} (hi : i < aN α t) : aB α t i < 256 := by
  unfold aN at hi
  unfold aB
  split <;> rename_i h
  · rw [if_pos h] at hi; exact hw.1.1.2 i hi
  · rw [if_neg h] at hi; exact hw.1.2.2 i hi
theorem sp_R_byteAt {τ : Hp} {α : Abs} {t k : Nat} {P : Int32 → Hp → Prop} (hw : WF α) (hr : RRt τ α) (ht : t < 2) (hk : k < 1000) (h1 : k < aN α t → P (nI (aB α t k)) τ) (h0 : ¬ k < aN α t → P (-1) τ) : wp_R_byteAt τ (nI t) (nI k) P := by
  obtain ⟨r1, r2, r3, r4⟩ := hr
  have hN := aN_lt hw t
  unfold wp_R_byteAt
  rw [ixn (show t < 2 ^ 31 by omega)]
  have e1 : τ 1 t = nI (aN α t) := by
    rcases (show t = 0 ∨ t = 1 by omega) with rfl | rfl
    · exact r1
    · exact r2
  rw [e1]
  refine ⟨pk_in t 2 ht, pk_le (aN α t) k (fun c => h0 (by omega)) (fun c => ?_)⟩
  rw [show (39 : Int32) = nI 39 from rfl, pk_mul, nI_add, ixn (show 39 * t + k < 2 ^ 31 by omega)]
  refine ⟨pk_in (39 * t + k) 78 ?_, ?_⟩
  · have h3 := hw.1.2.1
    have h4 := hw.1.1.1
    rcases (show t = 0 ∨ t = 1 by omega) with rfl | rfl
    · unfold aN at c; rw [if_pos rfl] at c; omega
    · unfold aN at c; rw [if_neg (by omega)] at c; omega
  · have := h1 c
    have e2 : τ 2 (39 * t + k) = nI (aB α t k) := by
      rcases (show t = 0 ∨ t = 1 by omega) with rfl | rfl
      · rw [show 39 * 0 + k = k by omega]
        exact r3 k (by unfold aN at c; rw [if_pos rfl] at c; exact c)
      · rw [show 39 * 1 + k = 39 + k by omega]
        exact r4 k (by unfold aN at c; rw [if_neg (by omega)] at c; exact c)
    rw [e2]; exact this
theorem sp_R_kindOf {τ : Hp} {c : Nat} {P : Int32 → Hp → Prop} (hc : c < 256) (h1 : kindN c < 4 → P (nI (kindN c)) τ) (h0 : ¬ kindN c < 4 → P (-1) τ) : wp_R_kindOf τ (nI c) P := by
  unfold wp_R_kindOf
  unfold kindN at h1 h0
  refine pk_ne c 99 (fun q => ?_) (fun q => ?_)
  · rw [if_neg q] at h1 h0
    refine pk_ne c 109 (fun q => ?_) (fun q => ?_)
    · rw [if_neg q] at h1 h0
      refine pk_ne c 104 (fun q => ?_) (fun q => ?_)
      · rw [if_neg q] at h1 h0
        refine pk_ne c 111 (fun q => ?_) (fun q => ?_)
        · rw [if_neg q] at h0; exact h0 (by omega)
        · rw [if_pos q] at h1; exact h1 (by omega)
      · rw [if_pos q] at h1; exact h1 (by omega)
    · rw [if_pos q] at h1; exact h1 (by omega)
  · rw [if_pos q] at h1; exact h1 (by omega)
theorem sp_R_kindOfN {τ : Hp} {P : Int32 → Hp → Prop} (h0 : P (-1) τ) : wp_R_kindOf τ (-1) P :=
  ⟨fun _ => ⟨fun _ => ⟨fun _ => ⟨fun _ => h0, fun c => absurd c (by decide)⟩, fun c => absurd c (by decide)⟩, fun c => absurd c (by decide)⟩, fun c => absurd c (by decide)⟩
/-- the kind, the figure at a place of a text: -1 where there is none -/
def kbI (α : Abs) (t k : Nat) : Int32 := if k < aN α t ∧ kindN (aB α t k) < 4 then nI (kindN (aB α t k)) else -1
def fbI (α : Abs) (t k : Nat) : Int32 := if k < aN α t ∧ 48 ≤ aB α t k ∧ aB α t k ≤ 57 then nI (aB α t k - 48) else -1
theorem sp_R_kb {τ : Hp} {α : Abs} {t k : Nat} {P : Int32 → Hp → Prop} (hw : WF α) (hr : RRt τ α) (ht : t < 2) (hk : k < 1000) (h : P (kbI α t k) τ) : wp_R_byteAt τ (nI t) (nI k) (fun r1 t2 => wp_R_kindOf t2 r1 P) := by
  unfold kbI at h
  refine sp_R_byteAt hw hr ht hk (fun c => sp_R_kindOf (aB_lt hw c) (fun q => ?_) (fun q => ?_)) (fun c => sp_R_kindOfN ?_)
  · rw [if_pos ⟨c, q⟩] at h; exact h
  · rw [if_neg (fun z => q z.2)] at h; exact h
  · rw [if_neg (fun z => c z.1)] at h; exact h
theorem sp_R_fb {τ : Hp} {α : Abs} {t k : Nat} {P : Int32 → Hp → Prop} (hw : WF α) (hr : RRt τ α) (ht : t < 2) (hk : k < 1000) (h : P (fbI α t k) τ) : wp_R_figureAt τ (nI t) (nI k) P := by
  unfold fbI at h
  refine sp_R_byteAt hw hr ht hk (fun c => ?_) (fun c => ?_)
  · intro v3 e3
    have hb := aB_lt hw c
    generalize aB α t k = x at h hb e3 ⊢
    refine sp_R_in 9 rfl (by decide) (fun q => ?_) (fun q => ?_)
    · obtain ⟨j, hj, ej⟩ := q
      have hx : x = j + 48 := by
        rw [ej] at e3
        have e5 : nI j + nI 48 = nI x := by
          rw [e3, show (48 : Int32) = nI 48 from rfl, Int32.sub_add_cancel]
        rw [nI_add] at e5
        exact ((nI_eq (by omega) (by omega)).mp e5).symm
      rw [if_pos ⟨c, by omega, by omega⟩] at h
      rw [ej, show j = x - 48 by omega]
      exact br_f one0 h
    · rw [if_neg] at h
      · exact br_t rfl h
      · rintro ⟨-, z1, z2⟩
        exact q ⟨x - 48, by omega, by rw [e3]; exact pk_sub z1⟩
  · intro v3 e3
    rw [if_neg (fun z => c z.1)] at h
    refine sp_R_in 9 rfl (by decide) (fun q => ?_) (fun q => br_t rfl h)
    obtain ⟨j, hj, ej⟩ := q
    rw [ej] at e3
    exfalso
    have e5 : ((-1 : Int32) - 48).toInt = -49 := by decide
    rw [← e3, nI_toInt (by omega)] at e5
    omega
theorem kb_m1 {α : Abs} {t k : Nat} : kbI α t k = -1 ↔ ¬ (k < aN α t ∧ kindN (aB α t k) < 4) := by
  unfold kbI
  split <;> rename_i h
  · refine ⟨fun e => ?_, fun z => absurd h z⟩
    have := nI_pos' (n := kindN (aB α t k)) (by omega)
    rw [e] at this
    exact absurd this (by decide)
  · exact ⟨fun _ => h, fun _ => rfl⟩
theorem fb_m1 {α : Abs} {t k : Nat} : fbI α t k = -1 ↔ ¬ (k < aN α t ∧ 48 ≤ aB α t k ∧ aB α t k ≤ 57) := by
  unfold fbI
  split <;> rename_i h
  · refine ⟨fun e => ?_, fun z => absurd h z⟩
    have := nI_pos' (n := aB α t k - 48) (by omega)
    rw [e] at this
    exact absurd this (by decide)
  · exact ⟨fun _ => h, fun _ => rfl⟩
theorem br_ne {c A B : Prop} (f : ¬ c → A) (g : c → B) : (¬ c → A) ∧ (c → B) := ⟨f, g⟩
/-- one house: how many of its four bytes are well -/
def g4 (α : Abs) (n : Nat) : Nat := if ¬ (5 * n < aN0 α ∧ kindN (aB0 α (5 * n)) < 4) then 0 else if ¬ (5 * n + 1 < aN0 α ∧ 48 ≤ aB0 α (5 * n + 1) ∧ aB0 α (5 * n + 1) ≤ 57) then 1 else if ¬ (5 * n + 2 < aN0 α ∧ kindN (aB0 α (5 * n + 2)) < 4) then 2 else if ¬ (5 * n + 3 < aN0 α ∧ 48 ≤ aB0 α (5 * n + 3) ∧ aB0 α (5 * n + 3) ≤ 57) then 3 else 4
theorem sp_R_readsHouse {τ : Hp} {α : Abs} {n : Nat} {P : Int32 → Hp → Prop} (hw : WF α) (hr : RRt τ α) (hn : n < 8) (h0 : g4 α n < 4 → P (nI (g4 α n)) τ) (h1 : g4 α n = 4 → P 4 (st (st (st (st τ 3 (ix (nI n)) (nI (hK α n))) 4 (ix (nI n)) (nI (hM α n))) 5 (ix (nI n)) (nI (hJ α n))) 6 (ix (nI n)) (nI (hCo α n)))) : wp_R_readsHouse τ (nI n) (nI (5 * n)) P := by
  unfold wp_R_readsHouse
  rw [show nI (5 * n) + 1 = nI (5 * n + 1) from nI_1 _, show nI (5 * n) + 2 = nI (5 * n + 2) from nI_add _ 2, show nI (5 * n) + 3 = nI (5 * n + 3) from nI_add _ 3]
  refine sp_R_kb (t := 0) hw hr (by omega) (by omega) ?_
  refine sp_R_fb (t := 0) hw hr (by omega) (by omega) ?_
  refine sp_R_kb (t := 0) hw hr (by omega) (by omega) ?_
  refine sp_R_fb (t := 0) hw hr (by omega) (by omega) ?_
  unfold g4 at h0 h1
  have ea : aN α 0 = aN0 α := rfl
  have eb : aB α 0 = aB0 α := rfl
  refine br_ne (fun c => ?_) (fun c => ?_)
  · rw [kb_m1, ea, eb, Classical.not_not] at c
    rw [if_neg (fun z => z c)] at h0 h1
    refine br_ne (fun c2 => ?_) (fun c2 => ?_)
    · rw [fb_m1, ea, eb, Classical.not_not] at c2
      rw [if_neg (fun z => z c2)] at h0 h1
      refine br_ne (fun c3 => ?_) (fun c3 => ?_)
      · rw [kb_m1, ea, eb, Classical.not_not] at c3
        rw [if_neg (fun z => z c3)] at h0 h1
        refine br_ne (fun c4 => ?_) (fun c4 => ?_)
        · rw [fb_m1, ea, eb, Classical.not_not] at c4
          rw [if_neg (fun z => z c4)] at h0 h1
          refine ⟨pk_in n 9 (by omega), pk_in n 9 (by omega), pk_in n 9 (by omega), pk_in n 9 (by omega), ?_⟩
          have e1 : kbI α 0 (5 * n) = nI (hK α n) := by unfold kbI; rw [ea, eb, if_pos c]; rfl
          have e2 : fbI α 0 (5 * n + 1) = nI (hM α n) := by unfold fbI; rw [ea, eb, if_pos c2]; rfl
          have e3 : kbI α 0 (5 * n + 2) = nI (hJ α n) := by unfold kbI; rw [ea, eb, if_pos c3]; rfl
          have e4 : fbI α 0 (5 * n + 3) = nI (hCo α n) := by unfold fbI; rw [ea, eb, if_pos c4]; rfl
          rw [e1, e2, e3, e4]
          exact h1 rfl
        · rw [fb_m1, ea, eb] at c4
          rw [if_pos c4] at h0; exact h0 (by omega)
      · rw [kb_m1, ea, eb] at c3
        rw [if_pos c3] at h0; exact h0 (by omega)
    · rw [fb_m1, ea, eb] at c2
      rw [if_pos c2] at h0; exact h0 (by omega)
  · rw [kb_m1, ea, eb] at c
    rw [if_pos c] at h0; exact h0 (by omega)
/-- behind the reading: cells 0 (places 2, 7) and 3 to 7 alone have changed -/
def BtR (τ ρ : Hp) : Prop := Bt [0, 3, 4, 5, 6, 7] τ ρ ∧ ∀ j, j ≠ 2 → j ≠ 7 → ρ 0 j = τ 0 j
theorem BtR.rf (τ : Hp) : BtR τ τ := ⟨Bt.rf _ _, fun _ _ _ => rfl⟩
theorem BtR.arr {τ ρ : Hp} {o i : Nat} {v : Int32} (h : BtR τ ρ) (ho : 3 ≤ o ∧ o ≤ 7) : BtR τ (st ρ o i v) := ⟨h.1.st (by simp; omega), fun j h1 h2 => by rw [st_ne _ _ _ (by omega)]; exact h.2 j h1 h2⟩
theorem BtR.obj {τ ρ : Hp} {i : Nat} {v : Int32} (h : BtR τ ρ) (hi : i = 2 ∨ i = 7) : BtR τ (st ρ 0 i v) := ⟨h.1.st (by simp), fun j h1 h2 => by
  rw [st_at]; unfold upd; rw [if_neg (by omega)]; exact h.2 j h1 h2⟩
theorem BtR.tr {a b c : Hp} (h : BtR a b) (g : BtR b c) : BtR a c := ⟨fun o ho => (g.1 o ho).trans (h.1 o ho), fun j h1 h2 => (g.2 j h1 h2).trans (h.2 j h1 h2)⟩
theorem BtR.ps {a b : Hp} (h : BtR a b) : PsR a b := by
  refine ⟨⟨?_, ?_, ?_, ?_, ?_, ?_, ?_, ?_⟩, ⟨?_, ?_, ?_, ?_, ?_, ?_, ?_⟩, ⟨?_, ?_, ?_, ?_⟩⟩
  all_goals first | exact h.1 _ (by decide) | exact h.2 _ (by decide) (by decide)
theorem BtR.rt {a b : Hp} {α : Abs} (h : BtR a b) (g : RRt a α) : RRt b α := by
  unfold RRt at *
  rw [h.1 1 (by decide), h.1 2 (by decide)]; exact g
/-- what the reference has read of the houses -/
def RdH (ρ : Hp) (α : Abs) : Prop := ρ 0 2 = nI (nH α) ∧ ∀ i, i < nH α → ρ 3 i = nI (hK α i) ∧ ρ 4 i = nI (hM α i) ∧ ρ 5 i = nI (hJ α i) ∧ ρ 6 i = nI (hCo α i)
theorem g4_spec (α : Abs) (n : Nat) (h : g4 α n < 4) (hle : 5 * n ≤ aN0 α) (hg : ∀ i, i < 5 * n → goes 5 4 (aB0 α) i = true) (hz : ¬ aN0 α = 0) : wellT 5 4 (aB0 α) (aN0 α) = false ∧ badP 5 4 (aB0 α) (aN0 α) = 5 * n + g4 α n := by
  have gk : ∀ j, j < 4 → (goes 5 4 (aB0 α) (5 * n + j) = (if j % 2 = 1 then decide (48 ≤ aB0 α (5 * n + j) ∧ aB0 α (5 * n + j) ≤ 57) else decide (kindN (aB0 α (5 * n + j)) < 4))) := by
    intro j hj
    unfold goes
    rw [show (5 * n + j) % 5 = j by omega, if_neg (by omega)]
  -- the first j places are well
  have fin : ∀ j, j < 4 → (∀ i, i < j → 5 * n + i < aN0 α ∧ goes 5 4 (aB0 α) (5 * n + i) = true) → ¬ (5 * n + j < aN0 α ∧ goes 5 4 (aB0 α) (5 * n + j) = true) → wellT 5 4 (aB0 α) (aN0 α) = false ∧ badP 5 4 (aB0 α) (aN0 α) = 5 * n + j := by
    intro j hj ha hb
    have hall : ∀ i, i < 5 * n + j → goes 5 4 (aB0 α) i = true := by
      intro i hi
      by_cases h5 : i < 5 * n
      · exact hg i h5
      · have := (ha (i - 5 * n) (by omega)).2
        rw [show 5 * n + (i - 5 * n) = i by omega] at this; exact this
    by_cases hN : 5 * n + j < aN0 α
    · have hgf : goes 5 4 (aB0 α) (5 * n + j) = false := by
        cases hq : goes 5 4 (aB0 α) (5 * n + j) with
        | true => exact absurd ⟨hN, hq⟩ hb
        | false => rfl
      have hbad := badP_at 5 4 (aB0 α) (aN0 α) (5 * n + j) hN hall hgf
      refine ⟨?_, hbad⟩
      unfold wellT; rw [hbad]; simp; omega
    · have hNe : aN0 α = 5 * n + j := by
        by_cases hj0 : j = 0
        · omega
        · have := (ha (j - 1) (by omega)).1; omega
      have hbad : badP 5 4 (aB0 α) (aN0 α) = aN0 α := badP_all _ _ _ _ (by rw [hNe]; exact hall)
      refine ⟨?_, by rw [hbad]; exact hNe⟩
      unfold wellT; rw [hbad, hNe]; simp; omega
  have e0 := gk 0 (by omega); have e1 := gk 1 (by omega); have e2 := gk 2 (by omega); have e3 := gk 3 (by omega)
  simp only [Nat.add_zero, Nat.zero_mod, Nat.reduceMod] at e0 e1 e2 e3
  rw [if_neg (by omega)] at e0
  rw [if_pos trivial] at e1
  rw [if_neg (by omega)] at e2
  rw [if_pos trivial] at e3
  unfold g4 at h ⊢
  by_cases c0 : 5 * n < aN0 α ∧ kindN (aB0 α (5 * n)) < 4
  · rw [if_neg (fun z => z c0)] at h ⊢
    have d0 : 5 * n + 0 < aN0 α ∧ goes 5 4 (aB0 α) (5 * n + 0) = true := ⟨c0.1, by rw [Nat.add_zero, e0]; simp [c0.2]⟩
    by_cases c1 : 5 * n + 1 < aN0 α ∧ 48 ≤ aB0 α (5 * n + 1) ∧ aB0 α (5 * n + 1) ≤ 57
    · rw [if_neg (fun z => z c1)] at h ⊢
      have d1 : 5 * n + 1 < aN0 α ∧ goes 5 4 (aB0 α) (5 * n + 1) = true := ⟨c1.1, by rw [e1]; simp [c1.2]⟩
      by_cases c2 : 5 * n + 2 < aN0 α ∧ kindN (aB0 α (5 * n + 2)) < 4
      · rw [if_neg (fun z => z c2)] at h ⊢
        have d2 : 5 * n + 2 < aN0 α ∧ goes 5 4 (aB0 α) (5 * n + 2) = true := ⟨c2.1, by rw [e2]; simp [c2.2]⟩
        by_cases c3 : 5 * n + 3 < aN0 α ∧ 48 ≤ aB0 α (5 * n + 3) ∧ aB0 α (5 * n + 3) ≤ 57
        · rw [if_neg (fun z => z c3)] at h; omega
        · rw [if_pos c3]
          refine fin 3 (by omega) (fun i hi => ?_) (fun z => c3 ⟨z.1, by have := z.2; rw [e3] at this; simpa using this⟩)
          rcases (show i = 0 ∨ i = 1 ∨ i = 2 by omega) with rfl | rfl | rfl
          · exact d0
          · exact d1
          · exact d2
      · rw [if_pos c2]
        refine fin 2 (by omega) (fun i hi => ?_) (fun z => c2 ⟨z.1, by have := z.2; rw [e2] at this; simpa using this⟩)
        rcases (show i = 0 ∨ i = 1 by omega) with rfl | rfl
        · exact d0
        · exact d1
    · rw [if_pos c1]
      refine fin 1 (by omega) (fun i hi => ?_) (fun z => c1 ⟨z.1, by have := z.2; rw [e1] at this; simpa using this⟩)
      rw [show i = 0 by omega]; exact d0
  · rw [if_pos c0]
    refine fin 0 (by omega) (fun i hi => by omega) (fun z => c0 ⟨z.1, by have := z.2; rw [Nat.add_zero, e0] at this; simpa using this⟩)
theorem g4_four (α : Abs) (n : Nat) (h : g4 α n = 4) : 5 * n + 3 < aN0 α ∧ ∀ i, i < 4 → goes 5 4 (aB0 α) (5 * n + i) = true := by
  unfold g4 at h
  by_cases c0 : 5 * n < aN0 α ∧ kindN (aB0 α (5 * n)) < 4
  · rw [if_neg (fun z => z c0)] at h
    by_cases c1 : 5 * n + 1 < aN0 α ∧ 48 ≤ aB0 α (5 * n + 1) ∧ aB0 α (5 * n + 1) ≤ 57
    · rw [if_neg (fun z => z c1)] at h
      by_cases c2 : 5 * n + 2 < aN0 α ∧ kindN (aB0 α (5 * n + 2)) < 4
      · rw [if_neg (fun z => z c2)] at h
        by_cases c3 : 5 * n + 3 < aN0 α ∧ 48 ≤ aB0 α (5 * n + 3) ∧ aB0 α (5 * n + 3) ≤ 57
        · refine ⟨c3.1, fun i hi => ?_⟩
          unfold goes
          rw [show (5 * n + i) % 5 = i by omega, if_neg (by omega)]
          rcases (show i = 0 ∨ i = 1 ∨ i = 2 ∨ i = 3 by omega) with rfl | rfl | rfl | rfl
          · simp [c0.2]
          · simp [c1.2]
          · simp [c2.2]
          · simp [c3.2]
        · rw [if_pos c3] at h; omega
      · rw [if_pos c2] at h; omega
    · rw [if_pos c1] at h; omega
  · rw [if_pos c0] at h; omega
theorem g4_le (α : Abs) (n : Nat) : g4 α n ≤ 4 := by
  unfold g4
  (repeat' split) <;> omega
