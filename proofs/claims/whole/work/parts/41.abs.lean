/-! what both pictures tell: plain numbers -/
abbrev Abs : Type := ((Nat × (Nat → Nat)) × (Nat × (Nat → Nat))) × (Nat → Nat) × (Nat × (Nat → Nat) × (Nat → Nat) × (Nat → Nat)) × (Nat × (Nat → Nat) × (Nat → Nat)) × (Nat × (Nat → Nat) × (Nat → Nat) × (Nat → Int32)) × ((Nat → Bool) × (Nat → Nat) × (Nat → Nat) × (Nat → Nat → Int32)) × Int32
def kindN (c : Nat) : Nat := if c = 99 then 0 else if c = 109 then 1 else if c = 104 then 2 else if c = 111 then 3 else 4
/-- a byte with which the text goes on: rows of per places, kinds up to km, figures, a ; at the end of a row -/
def goes (per km : Nat) (b : Nat → Nat) (i : Nat) : Bool := if i % per = per - 1 then b i == 59 else if (i % per) % 2 = 1 then decide (48 ≤ b i ∧ b i ≤ 57) else decide (kindN (b i) < km)
/-- the first place below n with which it doesn't go on; n where there is none -/
def badP (per km : Nat) (b : Nat → Nat) : Nat → Nat
  | 0 => 0
  | n + 1 => if badP per km b n < n then badP per km b n else if goes per km b n then n + 1 else n
theorem badP_le (per km : Nat) (b : Nat → Nat) (n : Nat) : badP per km b n ≤ n := by
  induction n with
  | zero => exact Nat.le_refl _
  | succ n ih => unfold badP; split <;> (try split) <;> omega
theorem badP_at (per km : Nat) (b : Nat → Nat) (n k : Nat) (hk : k < n) (h : ∀ i, i < k → goes per km b i = true) (hg : goes per km b k = false) : badP per km b n = k := by
  have key : ∀ m, m ≤ k → badP per km b m = m := by
    intro m
    induction m with
    | zero => intro _; rfl
    | succ m ih =>
      intro hm
      unfold badP
      rw [ih (by omega), if_neg (by omega), if_pos (h m (by omega))]
  have step : ∀ m, k + 1 ≤ m → badP per km b m = k := by
    intro m
    induction m with
    | zero => intro h; omega
    | succ m ih =>
      intro hm
      unfold badP
      by_cases e : k + 1 ≤ m
      · rw [ih e, if_pos (by omega)]
      · have : m = k := by omega
        subst this
        rw [key m (Nat.le_refl _), if_neg (by omega), hg, if_neg (by simp)]
  exact step n (by omega)
theorem badP_all (per km : Nat) (b : Nat → Nat) (n : Nat) (h : ∀ i, i < n → goes per km b i = true) : badP per km b n = n := by
  induction n with
  | zero => rfl
  | succ n ih =>
    unfold badP
    rw [ih (fun i hi => h i (by omega)), if_neg (by omega), if_pos (h n (by omega))]
theorem badP_goes (per km : Nat) (b : Nat → Nat) (n : Nat) : (∀ i, i < badP per km b n → goes per km b i = true) ∧ (badP per km b n < n → goes per km b (badP per km b n) = false) := by
  induction n with
  | zero => exact ⟨fun i hi => by simp [badP] at hi, fun h => by simp [badP] at h⟩
  | succ n ih =>
    unfold badP
    by_cases h1 : badP per km b n < n
    · rw [if_pos h1]; exact ⟨ih.1, fun _ => ih.2 h1⟩
    · have e : badP per km b n = n := by have := badP_le per km b n; omega
      rw [if_neg h1]
      cases hg : goes per km b n with
      | true =>
        rw [if_pos rfl]
        refine ⟨fun i hi => ?_, fun h => by omega⟩
        by_cases hi2 : i = n
        · rw [hi2]; exact hg
        · exact ih.1 i (by omega)
      | false =>
        rw [if_neg (by simp)]
        exact ⟨fun i hi => ih.1 i (by omega), fun _ => hg⟩
/-- the text is well -/
def wellT (per km : Nat) (b : Nat → Nat) (n : Nat) : Bool := badP per km b n == n && (n == 0 || n % per == per - 1)
def faultT (per km : Nat) (b : Nat → Nat) (n : Nat) : Int32 := if wellT per km b n then -1 else nI (badP per km b n)
def aN0 (α : Abs) : Nat := α.1.1.1
def aB0 (α : Abs) : Nat → Nat := α.1.1.2
def aN1 (α : Abs) : Nat := α.1.2.1
def aB1 (α : Abs) : Nat → Nat := α.1.2.2
def aW (α : Abs) : Nat → Nat := α.2.1
def aS (α : Abs) : Nat := α.2.2.1.1
def aD (α : Abs) : Nat → Nat := α.2.2.1.2.1
def aY (α : Abs) : Nat → Nat := α.2.2.1.2.2.1
def aX (α : Abs) : Nat → Nat := α.2.2.1.2.2.2
def aZ (α : Abs) : Nat := α.2.2.2.1.1
def aZd (α : Abs) : Nat → Nat := α.2.2.2.1.2.1
def aZh (α : Abs) : Nat → Nat := α.2.2.2.1.2.2
def aE (α : Abs) : Nat := α.2.2.2.2.1.1
def aEd (α : Abs) : Nat → Nat := α.2.2.2.2.1.2.1
def aEh (α : Abs) : Nat → Nat := α.2.2.2.2.1.2.2.1
def aEm (α : Abs) : Nat → Int32 := α.2.2.2.2.1.2.2.2
def aT (α : Abs) : Nat → Bool := α.2.2.2.2.2.1.1
def aF (α : Abs) : Nat → Nat := α.2.2.2.2.2.1.2.1
def aL (α : Abs) : Nat → Nat := α.2.2.2.2.2.1.2.2.1
def aI (α : Abs) : Nat → Nat → Int32 := α.2.2.2.2.2.1.2.2.2
def aQ (α : Abs) : Int32 := α.2.2.2.2.2.2
-- what is read off the texts
def hOk (α : Abs) : Bool := wellT 5 4 (aB0 α) (aN0 α)
def rOk (α : Abs) : Bool := wellT 3 3 (aB1 α) (aN1 α)
def nH (α : Abs) : Nat := if hOk α then (aN0 α + 1) / 5 else 0
def nR (α : Abs) : Nat := if rOk α then (aN1 α + 1) / 3 else 0
def hK (α : Abs) (i : Nat) : Nat := kindN (aB0 α (5 * i))
def hM (α : Abs) (i : Nat) : Nat := aB0 α (5 * i + 1) - 48
def hJ (α : Abs) (i : Nat) : Nat := kindN (aB0 α (5 * i + 2))
def hCo (α : Abs) (i : Nat) : Nat := aB0 α (5 * i + 3) - 48
/-- the rate of a kind behind the first n rulings -/
def rtN (b : Nat → Nat) (k : Nat) : Nat → Nat
  | 0 => 0
  | n + 1 => if kindN (b (3 * n)) = k then b (3 * n + 1) - 48 else rtN b k n
def rT (α : Abs) (k : Nat) : Nat := rtN (aB1 α) k (nR α)
/-- the bounds -/
def WF (α : Abs) : Prop := ((aN0 α ≤ 39 ∧ ∀ i, i < aN0 α → aB0 α i < 256) ∧ (aN1 α ≤ 17 ∧ ∀ i, i < aN1 α → aB1 α i < 256)) ∧ (∀ i, i < 7 → aW α i < 10) ∧ (aS α ≤ 12 ∧ ∀ i, i < aS α → aD α i < 30 ∧ aY α i < 8 ∧ aX α i < 8 ∧ aY α i ≠ aX α i) ∧ (aZ α ≤ 8 ∧ ∀ i, i < aZ α → aZd α i < 30 ∧ aZh α i < 8) ∧ (aE α ≤ 8 ∧ ∀ i, i < aE α → aEd α i < 30 ∧ aEh α i < 8) ∧ (∀ s, s < 4 → aF α s < 3 ∧ aL α s ≤ 60)
-- the reference's picture
def RRt (τ : Hp) (α : Abs) : Prop := τ 1 0 = nI (aN0 α) ∧ τ 1 1 = nI (aN1 α) ∧ (∀ i, i < aN0 α → τ 2 i = nI (aB0 α i)) ∧ (∀ i, i < aN1 α → τ 2 (39 + i) = nI (aB1 α i))
def RRw (τ : Hp) (α : Abs) : Prop := ∀ i, i < 7 → τ 8 i = nI (aW α i)
def RRk (τ : Hp) (α : Abs) : Prop := τ 0 10 = nI (aS α) ∧ ∀ i, i < aS α → τ 9 i = nI (aD α i) ∧ τ 10 i = nI (aY α i) ∧ τ 11 i = nI (aX α i)
def RRz (τ : Hp) (α : Abs) : Prop := τ 0 14 = nI (aZ α) ∧ ∀ i, i < aZ α → τ 12 i = nI (aZd α i) ∧ τ 13 i = nI (aZh α i)
def RRe (τ : Hp) (α : Abs) : Prop := τ 0 24 = nI (aE α) ∧ ∀ i, i < aE α → τ 20 i = nI (aEd α i) ∧ τ 21 i = nI (aEh α i) ∧ τ 22 i = aEm α i
def RRh (τ : Hp) (α : Abs) : Prop := ∀ s, s < 4 → (τ 24 s = if aT α s then 1 else 0) ∧ (aT α s = true → τ 25 s = nI (aF α s) ∧ τ 26 s = nI (aL α s)) ∧ ∀ i, i < 60 → τ 27 (60 * s + i) = aI α s i
def RR (τ : Hp) (α : Abs) : Prop := RRt τ α ∧ RRw τ α ∧ RRk τ α ∧ RRz τ α ∧ RRe τ α ∧ RRh τ α ∧ τ 0 34 = aQ α
/-- what the reference keeps between calls is as it was -/
def PsR (τ τ' : Hp) : Prop := (τ' 1 = τ 1 ∧ τ' 2 = τ 2 ∧ τ' 8 = τ 8 ∧ τ' 9 = τ 9 ∧ τ' 10 = τ 10 ∧ τ' 11 = τ 11 ∧ τ' 12 = τ 12 ∧ τ' 13 = τ 13) ∧ (τ' 20 = τ 20 ∧ τ' 21 = τ 21 ∧ τ' 22 = τ 22 ∧ τ' 24 = τ 24 ∧ τ' 25 = τ 25 ∧ τ' 26 = τ 26 ∧ τ' 27 = τ 27) ∧ (τ' 0 10 = τ 0 10 ∧ τ' 0 14 = τ 0 14 ∧ τ' 0 24 = τ 0 24 ∧ τ' 0 34 = τ 0 34)
theorem PsR.rf (τ : Hp) : PsR τ τ := ⟨⟨rfl, rfl, rfl, rfl, rfl, rfl, rfl, rfl⟩, ⟨rfl, rfl, rfl, rfl, rfl, rfl, rfl⟩, ⟨rfl, rfl, rfl, rfl⟩⟩
theorem PsR.tr {a b c : Hp} (h : PsR a b) (g : PsR b c) : PsR a c := by
  obtain ⟨⟨a1, a2, a3, a4, a5, a6, a7, a8⟩, ⟨b1, b2, b3, b4, b5, b6, b7⟩, ⟨c1, c2, c3, c4⟩⟩ := h
  obtain ⟨⟨d1, d2, d3, d4, d5, d6, d7, d8⟩, ⟨e1, e2, e3, e4, e5, e6, e7⟩, ⟨f1, f2, f3, f4⟩⟩ := g
  exact ⟨⟨d1.trans a1, d2.trans a2, d3.trans a3, d4.trans a4, d5.trans a5, d6.trans a6, d7.trans a7, d8.trans a8⟩, ⟨e1.trans b1, e2.trans b2, e3.trans b3, e4.trans b4, e5.trans b5, e6.trans b6, e7.trans b7⟩, ⟨f1.trans c1, f2.trans c2, f3.trans c3, f4.trans c4⟩⟩
theorem RR.ps {τ τ' : Hp} {α : Abs} (h : RR τ α) (g : PsR τ τ') : RR τ' α := by
  obtain ⟨⟨a1, a2, a3, a4, a5, a6, a7, a8⟩, ⟨b1, b2, b3, b4, b5, b6, b7⟩, ⟨c1, c2, c3, c4⟩⟩ := g
  unfold RR RRt RRw RRk RRz RRe RRh at *
  rw [a1, a2, a3, a4, a5, a6, a7, a8, b1, b2, b3, b4, b5, b6, b7, c1, c2, c3, c4]
  exact h
-- the class's picture
def RCt (σ : Hp) (α : Abs) : Prop := (σ 1 3 = nI (aN0 α) ∧ σ 2 3 = nI (aN1 α) ∧ σ 1 1 = 5 ∧ σ 2 1 = 3) ∧ (∀ i, i < aN0 α → σ 14 i = nI (aB0 α i)) ∧ (∀ i, i < aN1 α → σ 15 i = nI (aB1 α i))
def RCs (σ : Hp) (α : Abs) : Prop := σ 4 6 = nI (nH α) ∧ ∀ i, i < nH α → σ 21 i = nI (hK α i) ∧ σ 22 i = nI (hM α i) ∧ σ 23 i = nI (hJ α i) ∧ σ 24 i = nI (hCo α i)
def RCr (σ : Hp) (α : Abs) : Prop := σ 4 7 = nI (nR α) ∧ ∀ k, k < 3 → σ 25 k = nI (rT α k)
def RCw (σ : Hp) (α : Abs) : Prop := ∀ i, i < 7 → σ 26 i = nI (aW α i)
def RCk (σ : Hp) (α : Abs) : Prop := σ 5 6 = nI (aS α) ∧ ∀ i, i < aS α → σ 27 i = nI (aD α i) ∧ σ 28 i = nI (aY α i) ∧ σ 29 i = nI (aX α i)
/-- days of a house on which it is shut, as told -/
def cld (α : Abs) (h d : Nat) : Bool := (List.range (aZ α)).any (fun i => aZh α i == h && aZd α i == d)
def RCz (σ : Hp) (α : Abs) : Prop := σ 5 7 = nI (aZ α) ∧ (∀ i, i < aZ α → σ 30 i = nI (aZd α i) ∧ σ 31 i = nI (aZh α i)) ∧ ∀ h, h < 8 → ∃ m : Nat, σ 32 h = nI m ∧ m < 2 ^ 30 ∧ ∀ d, d < 30 → m.testBit d = cld α h d
def RCe (σ : Hp) (α : Abs) : Prop := σ 6 3 = nI (aE α) ∧ ∀ i, i < aE α → σ 33 i = nI (aEd α i) ∧ σ 34 i = nI (aEh α i) ∧ σ 35 i = aEm α i
def RCh (σ : Hp) (α : Abs) : Prop := ∀ s, s < 4 → (σ (10 + s) 1 = if aT α s then nI (aF α s) else -1) ∧ (aT α s = true → σ (10 + s) 2 = nI (aL α s)) ∧ ∀ i, i < 60 → σ (38 + s) i = aI α s i
/-- what comes through (rooms between, walls), a day's due -/
def sumN (f : Nat → Nat) (lo : Nat) : Nat → Nat
  | 0 => 0
  | n + 1 => sumN f lo n + f (lo + n)
def thrN (w : Nat → Nat) (kd mu x y : Nat) : Nat :=
  let lo := min x y
  let n := max x y - lo
  if kd = 0 then mu - (2 * (n - 1) + sumN w lo n) else if kd = 1 then mu - ((n - 1) + sumN (fun i => w i / 2) lo n) else if kd = 2 then (if n - 1 = 0 ∧ sumN w lo n = 0 then mu else 0) else 0
def dueN (H : Nat) (kd mu en rt w : Nat → Nat) (x y : Nat) : Nat := if x < H ∧ y < H ∧ kd x < 3 ∧ en y = kd x then thrN w (kd x) (mu x) x y * rt (kd x) else 0
def dueA (α : Abs) : Nat → Nat → Nat := dueN (nH α) (hK α) (hM α) (hJ α) (rT α) (aW α)
def RCd (σ : Hp) (α : Abs) : Prop := ∀ k, k < aS α → σ 17 k = nI (dueA α (aY α k) (aX α k))
def RC (σ : Hp) (α : Abs) : Prop := RCt σ α ∧ (RCs σ α ∧ RCr σ α ∧ RCw σ α ∧ RCk σ α ∧ RCd σ α) ∧ RCz σ α ∧ RCe σ α ∧ RCh σ α ∧ σ 0 9 = aQ α
/-- what the class keeps between calls is as it was -/
def PsC (σ σ' : Hp) : Prop := (σ' 0 9 = σ 0 9 ∧ σ' 1 = σ 1 ∧ σ' 2 = σ 2 ∧ σ' 4 = σ 4 ∧ σ' 5 = σ 5 ∧ σ' 6 = σ 6) ∧ (∀ o, 10 ≤ o → o ≤ 15 → σ' o = σ o) ∧ σ' 17 = σ 17 ∧ (∀ o, 21 ≤ o → o ≤ 35 → σ' o = σ o) ∧ ∀ o, 38 ≤ o → o ≤ 41 → σ' o = σ o
theorem PsC.rf (σ : Hp) : PsC σ σ := ⟨⟨rfl, rfl, rfl, rfl, rfl, rfl⟩, fun _ _ _ => rfl, rfl, fun _ _ _ => rfl, fun _ _ _ => rfl⟩
theorem PsC.tr {a b c : Hp} (h : PsC a b) (g : PsC b c) : PsC a c := by
  obtain ⟨⟨a1, a2, a3, a4, a5, a6⟩, a7, a8, a9, a10⟩ := h
  obtain ⟨⟨b1, b2, b3, b4, b5, b6⟩, b7, b8, b9, b10⟩ := g
  exact ⟨⟨b1.trans a1, b2.trans a2, b3.trans a3, b4.trans a4, b5.trans a5, b6.trans a6⟩, fun o h1 h2 => (b7 o h1 h2).trans (a7 o h1 h2), b8.trans a8, fun o h1 h2 => (b9 o h1 h2).trans (a9 o h1 h2), fun o h1 h2 => (b10 o h1 h2).trans (a10 o h1 h2)⟩
theorem RC.ps {σ σ' : Hp} {α : Abs} (h : RC σ α) (g : PsC σ σ') : RC σ' α := by
  obtain ⟨⟨a1, a2, a3, a4, a5, a6⟩, a7, a8, a9, a10⟩ := g
  have e14 := a7 14 (by decide) (by decide)
  have e15 := a7 15 (by decide) (by decide)
  have e21 := a9 21 (by decide) (by decide)
  have e22 := a9 22 (by decide) (by decide)
  have e23 := a9 23 (by decide) (by decide)
  have e24 := a9 24 (by decide) (by decide)
  have e25 := a9 25 (by decide) (by decide)
  have e26 := a9 26 (by decide) (by decide)
  have e27 := a9 27 (by decide) (by decide)
  have e28 := a9 28 (by decide) (by decide)
  have e29 := a9 29 (by decide) (by decide)
  have e30 := a9 30 (by decide) (by decide)
  have e31 := a9 31 (by decide) (by decide)
  have e32 := a9 32 (by decide) (by decide)
  have e33 := a9 33 (by decide) (by decide)
  have e34 := a9 34 (by decide) (by decide)
  have e35 := a9 35 (by decide) (by decide)
  obtain ⟨h1, ⟨h2, h3, h4, h5, h6⟩, h7, h8, h9, h10⟩ := h
  refine ⟨?_, ⟨?_, ?_, ?_, ?_, ?_⟩, ?_, ?_, ?_, by rw [a1]; exact h10⟩
  · unfold RCt at *; rw [a2, a3, e14, e15]; exact h1
  · unfold RCs at *; rw [a4, e21, e22, e23, e24]; exact h2
  · unfold RCr at *; rw [a4, e25]; exact h3
  · unfold RCw at *; rw [e26]; exact h4
  · unfold RCk at *; rw [a5, e27, e28, e29]; exact h5
  · unfold RCd at *; rw [a8]; exact h6
  · unfold RCz at *; rw [a5, e30, e31, e32]; exact h7
  · unfold RCe at *; rw [a6, e33, e34, e35]; exact h8
  · intro s hs
    rw [a7 (10 + s) (by omega) (by omega), a10 (38 + s) (by omega) (by omega)]
    exact h9 s hs
/-- the two pictures tell the same -/
def Rel (σ τ : Hp) : Prop := ∃ α : Abs, WF α ∧ RC σ α ∧ RR τ α
def α0 : Abs := (((0, fun _ => 0), (0, fun _ => 0)), (fun _ => 0), (0, fun _ => 0, fun _ => 0, fun _ => 0), (0, fun _ => 0, fun _ => 0), (0, fun _ => 0, fun _ => 0, fun _ => 0), (fun _ => false, fun _ => 0, fun _ => 0, fun _ _ => 0), 0)
