/-! debts: what both reckon with: houses, suits; a day's due; which suits stand; days shut; the suits -/
abbrev Dc : Type := (Nat × Nat) × (Nat → Nat → Nat) × (Nat → Bool) × (Nat → Nat → Bool) × ((Nat → Nat) × (Nat → Nat) × (Nat → Nat))
def gH (γ : Dc) : Nat := γ.1.1
def gS (γ : Dc) : Nat := γ.1.2
def gU (γ : Dc) : Nat → Nat → Nat := γ.2.1
def gT (γ : Dc) : Nat → Bool := γ.2.2.1
def gC (γ : Dc) : Nat → Nat → Bool := γ.2.2.2.1
def gD (γ : Dc) : Nat → Nat := γ.2.2.2.2.1
def gY (γ : Dc) : Nat → Nat := γ.2.2.2.2.2.1
def gX (γ : Dc) : Nat → Nat := γ.2.2.2.2.2.2
def WD (γ : Dc) : Prop := (gH γ ≤ 8 ∧ gS γ ≤ 12) ∧ (∀ k, k < gS γ → gD γ k < 30 ∧ gY γ k < 8 ∧ gX γ k < 8 ∧ gY γ k ≠ gX γ k) ∧ (∀ y x, gU γ y x ≤ 81) ∧ ∀ y x, ¬ (y < gH γ ∧ x < gH γ) → gU γ y x = 0
/-- suit j doesn't stand in the way of suit k -/
def okj (γ : Dc) (k j : Nat) : Bool := !(gT γ j && (gY γ j == gY γ k && gX γ j == gX γ k)) || (decide (gD γ k ≤ gD γ j) && (!(gD γ j == gD γ k) || decide (k ≤ j)))
def ldN (γ : Dc) (k : Nat) : Nat → Bool
  | 0 => true
  | n + 1 => ldN γ k n && okj γ k n
/-- suit k counts, among the first n -/
def ldB (γ : Dc) (n k : Nat) : Bool := gT γ k && ldN γ k n
/-- the first day of a suit of y against x, among the first n; 99: none -/
def sinN (γ : Dc) (y x : Nat) : Nat → Nat
  | 0 => 99
  | n + 1 => if gT γ n = true ∧ gY γ n = y ∧ gX γ n = x then min (gD γ n) (sinN γ y x n) else sinN γ y x n
theorem ldN_iff {γ : Dc} {k : Nat} : ∀ {n : Nat}, ldN γ k n = true ↔ ∀ j, j < n → okj γ k j = true := by
  intro n
  induction n with
  | zero => exact ⟨fun _ j hj => by omega, fun _ => rfl⟩
  | succ n ih =>
    show (ldN γ k n && okj γ k n) = true ↔ _
    rw [Bool.and_eq_true, ih]
    constructor
    · rintro ⟨h1, h2⟩ j hj
      by_cases e : j = n
      · rw [e]; exact h2
      · exact h1 j (by omega)
    · intro h
      exact ⟨fun j hj => h j (by omega), h n (by omega)⟩
theorem okj_iff {γ : Dc} {k j : Nat} : okj γ k j = true ↔ (gT γ j = true → gY γ j = gY γ k → gX γ j = gX γ k → gD γ k ≤ gD γ j ∧ (gD γ j = gD γ k → k ≤ j)) := by
  unfold okj
  by_cases h1 : gT γ j = true
  · by_cases h2 : gY γ j = gY γ k
    · by_cases h3 : gX γ j = gX γ k
      · simp [h1, h2, h3]
        intro _
        constructor
        · intro b e
          rcases b with b | b
          · exact absurd e b
          · exact b
        · intro b
          by_cases e : gD γ j = gD γ k
          · exact Or.inr (b e)
          · exact Or.inl e
      · simp [h3]
    · simp [h2]
  · simp [h1]
theorem sin_le {γ : Dc} {y x : Nat} : ∀ {n j : Nat}, j < n → gT γ j = true → gY γ j = y → gX γ j = x → sinN γ y x n ≤ gD γ j := by
  intro n
  induction n with
  | zero => intro j hj; omega
  | succ n ih =>
    intro j hj h1 h2 h3
    unfold sinN
    by_cases e : j = n
    · subst e
      rw [if_pos ⟨h1, h2, h3⟩]; omega
    · have := ih (show j < n by omega) h1 h2 h3
      split <;> omega
theorem sin_ex {γ : Dc} {y x : Nat} : ∀ n, sinN γ y x n = 99 ∨ ∃ j, j < n ∧ gT γ j = true ∧ gY γ j = y ∧ gX γ j = x ∧ gD γ j = sinN γ y x n := by
  intro n
  induction n with
  | zero => exact Or.inl rfl
  | succ n ih =>
    unfold sinN
    split
    · rename_i h
      by_cases hlt : gD γ n ≤ sinN γ y x n
      · exact Or.inr ⟨n, by omega, h.1, h.2.1, h.2.2, by omega⟩
      · rcases ih with e | ⟨j, hj, h1, h2, h3, h4⟩
        · exact Or.inl (by omega)
        · exact Or.inr ⟨j, by omega, h1, h2, h3, by omega⟩
    · rcases ih with e | ⟨j, hj, h1, h2, h3, h4⟩
      · exact Or.inl e
      · exact Or.inr ⟨j, by omega, h1, h2, h3, h4⟩
theorem sin_99 {γ : Dc} {y x : Nat} (n : Nat) (hD : ∀ k, k < n → gD γ k < 30) : sinN γ y x n = 99 ∨ sinN γ y x n < 30 := by
  rcases sin_ex (γ := γ) (y := y) (x := x) n with e | ⟨j, hj, h1, h2, h3, h4⟩
  · exact Or.inl e
  · exact Or.inr (by have := hD j hj; omega)
theorem ld_sin {γ : Dc} {y x n k : Nat} (hD : ∀ k, k < n → gD γ k < 30) (hk : k < n) (hl : ldB γ n k = true) (hy : gY γ k = y) (hx : gX γ k = x) : gD γ k = sinN γ y x n := by
  unfold ldB at hl
  rw [Bool.and_eq_true] at hl
  have le := sin_le (y := y) (x := x) hk hl.1 hy hx
  have hd := hD k hk
  rcases sin_ex (γ := γ) (y := y) (x := x) n with e | ⟨j, hj, h1, h2, h3, h4⟩
  · omega
  · have := (okj_iff.mp (ldN_iff.mp hl.2 j hj) h1 (by rw [h2, hy]) (by rw [h3, hx])).1
    omega
theorem fb_si_0 (n : Nat) : fb_si (fun _ => 0) n = 0 := by
  induction n with
  | zero => rfl
  | succ n ih => show fb_si (fun _ => 0) n + 0 = 0; rw [ih]; rfl
theorem fb_si_z {f : Nat → Int} {n : Nat} (h : ∀ k, k < n → f k = 0) : fb_si f n = 0 := by
  rw [fb_si_cong (g := fun _ => 0) h, fb_si_0]
/-- of two houses at most one suit counts, and that of the first day -/
theorem lead_sum {γ : Dc} {y x : Nat} (F : Nat → Int) (hF : F 99 = 0) : ∀ n, (∀ k, k < n → gD γ k < 30) → fb_si (fun k => if ldB γ n k = true ∧ gY γ k = y ∧ gX γ k = x then F (gD γ k) else 0) n = F (sinN γ y x n) := by
  intro n
  induction n with
  | zero => intro _; exact hF.symm
  | succ n ih =>
    intro hD
    have ih := ih (fun k hk => hD k (by omega))
    have hDn := hD n (by omega)
    rw [fb_si_succ]
    have ldS : ∀ k, ldB γ (n + 1) k = (ldB γ n k && okj γ k n) := by
      intro k; unfold ldB; show (gT γ k && (ldN γ k n && okj γ k n)) = _; rw [Bool.and_assoc]
    by_cases hq : gT γ n = true ∧ gY γ n = y ∧ gX γ n = x
    · have es : sinN γ y x (n + 1) = min (gD γ n) (sinN γ y x n) := by
        show (if _ then _ else _) = _; rw [if_pos hq]
      by_cases hlt : gD γ n < sinN γ y x n
      · rw [fb_si_z, if_pos, es, Nat.min_eq_left (by omega)]
        · simp
        · refine ⟨?_, hq.2⟩
          unfold ldB
          rw [Bool.and_eq_true, ldN_iff]
          refine ⟨hq.1, fun j hj => okj_iff.mpr (fun h1 h2 h3 => ?_)⟩
          by_cases e : j = n
          · subst e; exact ⟨Nat.le_refl _, fun _ => Nat.le_refl _⟩
          · have := sin_le (y := y) (x := x) (show j < n by omega) h1 (h2.trans hq.2.1) (h3.trans hq.2.2)
            exact ⟨by omega, fun z => by omega⟩
        · intro k hk
          rw [if_neg]
          rintro ⟨h1, h2, h3⟩
          rw [ldS, Bool.and_eq_true] at h1
          have e1 := ld_sin (fun k hk => hD k (by omega)) hk h1.1 h2 h3
          have := (okj_iff.mp h1.2 hq.1 (by rw [hq.2.1, h2]) (by rw [hq.2.2, h3])).1
          omega
      · have h99 : sinN γ y x n ≠ 99 := by omega
        obtain ⟨j, hj, h1, h2, h3, h4⟩ := (sin_ex (γ := γ) (y := y) (x := x) n).resolve_left h99
        rw [fb_si_cong (g := fun k => if ldB γ n k = true ∧ gY γ k = y ∧ gX γ k = x then F (gD γ k) else 0), ih, if_neg, es, Nat.min_eq_right (by omega)]
        · simp
        · rintro ⟨l1, -, -⟩
          unfold ldB at l1
          rw [Bool.and_eq_true] at l1
          have := okj_iff.mp (ldN_iff.mp l1.2 j (by omega)) h1 (by rw [h2, hq.2.1]) (by rw [h3, hq.2.2])
          have h5 := this.2 (by omega)
          omega
        · intro k hk
          by_cases hp : gY γ k = y ∧ gX γ k = x
          · have : ldB γ (n + 1) k = ldB γ n k := by
              rw [ldS]
              cases hb : ldB γ n k with
              | false => rfl
              | true =>
                have e1 := ld_sin (fun k hk => hD k (by omega)) hk hb hp.1 hp.2
                rw [Bool.true_and]
                exact okj_iff.mpr (fun _ _ _ => ⟨by omega, fun _ => by omega⟩)
            rw [this]
          · rw [if_neg (fun z => hp z.2), if_neg (fun z => hp z.2)]
    · have es : sinN γ y x (n + 1) = sinN γ y x n := by
        show (if _ then _ else _) = _; rw [if_neg hq]
      rw [fb_si_cong (g := fun k => if ldB γ n k = true ∧ gY γ k = y ∧ gX γ k = x then F (gD γ k) else 0), ih, if_neg, es]
      · simp
      · rintro ⟨l1, l2⟩
        unfold ldB at l1
        rw [Bool.and_eq_true] at l1
        exact hq ⟨l1.1, l2⟩
      · intro k hk
        by_cases hp : gY γ k = y ∧ gX γ k = x
        · have : ldB γ (n + 1) k = ldB γ n k := by
            rw [ldS]
            have : okj γ k n = true := okj_iff.mpr (fun h1 h2 h3 => absurd ⟨h1, h2.trans hp.1, h3.trans hp.2⟩ hq)
            rw [this, Bool.and_true]
          rw [this]
        · rw [if_neg (fun z => hp z.2), if_neg (fun z => hp z.2)]
theorem fb_si_one {f : Nat → Int} {h : Nat} : ∀ {n : Nat}, h < n → fb_si (fun y => if y = h then f y else 0) n = f h := by
  intro n
  induction n with
  | zero => intro hh; omega
  | succ n ih =>
    intro hh
    rw [fb_si_succ]
    by_cases e : n = h
    · rw [if_pos e, fb_si_z, e]
      · simp
      · intro k hk; rw [if_neg (by omega)]
    · rw [if_neg e, ih (by omega)]; simp
theorem fb_si_swap (f : Nat → Nat → Int) (m : Nat) : ∀ n, fb_si (fun k => fb_si (fun x => f k x) m) n = fb_si (fun x => fb_si (fun k => f k x) n) m := by
  intro n
  induction n with
  | zero => exact (fb_si_0 m).symm
  | succ n ih =>
    rw [fb_si_succ, ih, ← fb_si_add]
    rfl
/-- the sum over the suits that count is one over the pairs of houses -/
theorem lead_all {γ : Dc} (hw : WD γ) (F : Nat → Nat → Nat → Int) (hF : ∀ y x, F y x 99 = 0) : fb_si (fun k => if ldB γ (gS γ) k = true then F (gY γ k) (gX γ k) (gD γ k) else 0) (gS γ) = fb_si (fun y => fb_si (fun x => F y x (sinN γ y x (gS γ))) 8) 8 := by
  have e1 : ∀ k, k < gS γ → (if ldB γ (gS γ) k = true then F (gY γ k) (gX γ k) (gD γ k) else 0) = fb_si (fun y => fb_si (fun x => if ldB γ (gS γ) k = true ∧ gY γ k = y ∧ gX γ k = x then F y x (gD γ k) else 0) 8) 8 := by
    intro k hk
    obtain ⟨h1, h2, h3, h4⟩ := hw.2.1 k hk
    by_cases hb : ldB γ (gS γ) k = true
    · rw [if_pos hb]
      have e2 : ∀ y, y < 8 → fb_si (fun x => if ldB γ (gS γ) k = true ∧ gY γ k = y ∧ gX γ k = x then F y x (gD γ k) else 0) 8 = if y = gY γ k then F y (gX γ k) (gD γ k) else 0 := by
        intro y hy
        by_cases e : y = gY γ k
        · rw [if_pos e, fb_si_cong (g := fun x => if x = gX γ k then F y x (gD γ k) else 0), fb_si_one h3]
          intro x _
          by_cases e3 : x = gX γ k
          · rw [if_pos ⟨hb, e.symm, e3.symm⟩, if_pos e3]
          · rw [if_neg (fun z => e3 z.2.2.symm), if_neg e3]
        · rw [if_neg e]
          exact fb_si_z (fun x _ => if_neg (fun z => e z.2.1.symm))
      rw [fb_si_cong e2, fb_si_one h2]
    · rw [if_neg hb, fb_si_z]
      intro y _
      exact fb_si_z (fun x _ => if_neg (fun z => hb z.1))
  rw [fb_si_cong e1, fb_si_swap]
  apply fb_si_cong
  intro y _
  rw [fb_si_swap]
  apply fb_si_cong
  intro x _
  exact lead_sum (F y x) (hF y x) (gS γ) (fun k hk => (hw.2.1 k hk).1)
/-- days of those from s to last on which it isn't shut -/
def opn (c : Nat → Bool) (s last : Nat) : Nat := fb_ct (fun i => decide (s ≤ i) && (decide (i ≤ last) && !c i)) 32
theorem opn_99 (c : Nat → Bool) {last : Nat} (h : last < 30) : opn c 99 last = 0 := by
  unfold opn
  rw [fb_ct_zero]
  intro k hk
  have : ¬ 99 ≤ k := by omega
  simp [this]
theorem opn_le (c : Nat → Bool) (s last : Nat) : opn c s last ≤ 32 := fb_ct_le _ _
/-- what y has won of x -/
def wonN (γ : Dc) (last y x : Nat) : Nat := gU γ y x * opn (gC γ y) (sinN γ y x (gS γ)) last
theorem wonN_le {γ : Dc} (hw : WD γ) (last y x : Nat) : wonN γ last y x ≤ 2592 := by
  unfold wonN
  show _ ≤ 81 * 32
  exact Nat.mul_le_mul (hw.2.2.1 y x) (opn_le _ _ _)
def balZ (γ : Dc) (last h : Nat) : Int := fb_si (fun k => if k = h then 0 else (wonN γ last h k : Int) - wonN γ last k h) (gH γ)
/-- pairs with h, of all pairs -/
theorem dbl {A B : Nat → Int} {h n : Nat} (hh : h < n) : fb_si (fun y => fb_si (fun x => if y = h then A x else if x = h then B y else 0) n) n = fb_si A n + fb_si (fun y => if y = h then 0 else B y) n := by
  have e1 : ∀ y, y < n → fb_si (fun x => if y = h then A x else if x = h then B y else 0) n = (if y = h then fb_si A n else 0) + (if y = h then 0 else B y) := by
    intro y hy
    by_cases e : y = h
    · simp [e]
    · simp only [if_neg e]
      rw [fb_si_one (f := fun _ => B y) hh]; simp
  rw [fb_si_cong e1, fb_si_add, fb_si_one (f := fun _ => fb_si A n) hh]
theorem fb_si_tail {f : Nat → Int} {m n : Nat} (h : m ≤ n) (hz : ∀ k, m ≤ k → k < n → f k = 0) : fb_si f n = fb_si f m := by
  obtain ⟨d, rfl⟩ : ∃ d, n = m + d := ⟨n - m, by omega⟩
  rw [fb_si_split, fb_si_z (n := d) (fun k hk => hz _ (by omega) (by omega))]
  simp
theorem sin_hh {γ : Dc} (hw : WD γ) (h : Nat) : sinN γ h h (gS γ) = 99 := by
  rcases sin_ex (γ := γ) (y := h) (x := h) (gS γ) with e | ⟨j, hj, h1, h2, h3, h4⟩
  · exact e
  · exact absurd (h2.trans h3.symm) (hw.2.1 j hj).2.2.2
/-- what one suit that counts brings house h -/
def perK (γ : Dc) (last h k : Nat) : Int := if ldB γ (gS γ) k = true then (if gY γ k = h then (gU γ (gY γ k) (gX γ k) * opn (gC γ (gY γ k)) (gD γ k) last : Nat) else if gX γ k = h then -((gU γ (gY γ k) (gX γ k) * opn (gC γ (gY γ k)) (gD γ k) last : Nat) : Int) else 0) else 0
theorem bal_perK {γ : Dc} (hw : WD γ) {last h : Nat} (hl : last < 30) (hh : h < gH γ) : fb_si (perK γ last h) (gS γ) = balZ γ last h := by
  have hH := hw.1.1
  have e1 := lead_all hw (fun y x d => if y = h then (gU γ y x * opn (gC γ y) d last : Nat) else if x = h then -((gU γ y x * opn (gC γ y) d last : Nat) : Int) else 0) (fun y x => by simp [opn_99 _ hl])
  have e2 : fb_si (perK γ last h) (gS γ) = fb_si (fun k => if ldB γ (gS γ) k = true then (fun y x d => if y = h then ((gU γ y x * opn (gC γ y) d last : Nat) : Int) else if x = h then -((gU γ y x * opn (gC γ y) d last : Nat) : Int) else 0) (gY γ k) (gX γ k) (gD γ k) else 0) (gS γ) := rfl
  rw [e2, e1]
  have e3 : ∀ y, y < 8 → fb_si (fun x => if y = h then ((gU γ y x * opn (gC γ y) (sinN γ y x (gS γ)) last : Nat) : Int) else if x = h then -((gU γ y x * opn (gC γ y) (sinN γ y x (gS γ)) last : Nat) : Int) else 0) 8 = fb_si (fun x => if y = h then ((wonN γ last h x : Nat) : Int) else if x = h then -((wonN γ last y h : Nat) : Int) else 0) 8 := by
    intro y hy
    apply fb_si_cong
    intro x _
    by_cases e : y = h
    · rw [if_pos e, if_pos e, e]; rfl
    · rw [if_neg e, if_neg e]
      by_cases e2 : x = h
      · rw [if_pos e2, if_pos e2, e2]; rfl
      · rw [if_neg e2, if_neg e2]
  rw [fb_si_cong e3, dbl (h := h) (n := 8) (by omega), ← fb_si_add]
  unfold balZ
  rw [fb_si_tail (m := gH γ) hH]
  · apply fb_si_cong
    intro k hk
    by_cases e : k = h
    · rw [if_pos e, if_pos e, e]
      unfold wonN
      rw [sin_hh hw, opn_99 _ hl]; simp
    · rw [if_neg e, if_neg e]; omega
  · intro k h1 h2
    have z1 : wonN γ last h k = 0 := by unfold wonN; rw [hw.2.2.2 h k (by omega)]; simp
    have z2 : wonN γ last k h = 0 := by unfold wonN; rw [hw.2.2.2 k h (by omega)]; simp
    rw [z1, z2, if_neg (by omega)]; simp
