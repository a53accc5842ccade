/-! The worlds as pure pictures: a picture is a row of ints for each cell; V says 'from this frame, over this picture, it goes well'. -/
abbrev Hp : Type := Nat → Nat → Int32
def st (σ : Hp) (o i : Nat) (v : Int32) : Hp := fun q => if q = o then upd (σ o) i v else σ q
theorem st_at (σ : Hp) (o i : Nat) (v : Int32) : st σ o i v o = upd (σ o) i v := if_pos rfl
theorem st_ne (σ : Hp) {o q : Nat} (i : Nat) (v : Int32) (h : q ≠ o) : st σ o i v q = σ q := if_neg h
/-- a cell's shape: an object (class, fields: an int, or a fixed cell), or an array (kind: 0 ints, 1 booleans, k + 2 objects from k on; length) -/
abbrev Shp : Type := (Nat × List (Nat ⊕ Nat)) ⊕ (Nat × Nat)
/-- addresses, classes of int, boolean and object arrays, the classes' numbers -/
abbrev Wd : Type := (Nat → Nat) × ClassId × ClassId × ClassId × va_G
def fcel (w : Wd) (f : Nat → Int32) : Nat ⊕ Nat → Value
  | .inl j => .int (f j)
  | .inr q => .ref (w.1 q)
def cel (w : Wd) (f : Nat → Int32) : Shp → va_E
  | .inl (ci, fs) => .inr (ci, fs.map (fcel w f))
  | .inr (0, n) => .inl (w.2.1, n, .inl f)
  | .inr (1, n) => .inl (w.2.2.1, n, .inl f)
  | .inr (k + 2, n) => .inl (w.2.2.2.1, n, .inr (.inr (.inr (.inr (fun i => some (w.1 (k + i)))))))
def cels (sh : List Shp) (w : Wd) (σ : Hp) : va_W := sh.mapIdx (fun o x => (w.1 o, cel w (σ o) x))
abbrev Wk : Type := List Shp × (Wd → (Nat → Prop) → State → Heap → Prop)
def AW (μ : Wk) (w : Wd) : Nat → Prop := fun q => ∃ o, o < μ.1.length ∧ q = w.1 o
def tysW (w : Wd) : List (ClassId × FieldType) := [(w.2.1, .int), (w.2.2.1, .boolean), (w.2.2.2.1, .object "SoundPaid$Sheet")]
def Inj (μ : Wk) (w : Wd) : Prop := ∀ i j, i < μ.1.length → j < μ.1.length → w.1 i = w.1 j → i = j
theorem cels_get {sh : List Shp} {w : Wd} {σ : Hp} {o : Nat} {x : Shp} (h : sh[o]? = some x) : (cels sh w σ)[o]? = some (w.1 o, cel w (σ o) x) := by
  simp [cels, List.getElem?_mapIdx, h]
theorem cels_D {μ : Wk} {w : Wd} (σ : Hp) (hi : Inj μ w) : va_D (AW μ w) (cels μ.1 w σ) := by
  have key : ∀ (k : Nat) (q : Nat × va_E), (cels μ.1 w σ)[k]? = some q → k < μ.1.length ∧ q.1 = w.1 k := by
    intro k q h
    simp only [cels, List.getElem?_mapIdx, Option.map_eq_some_iff] at h
    obtain ⟨x, h1, h2⟩ := h
    exact ⟨(List.getElem?_eq_some_iff.mp h1).1, by rw [← h2]⟩
  refine ⟨fun i j p q hp hq e => ?_, fun k q h => ?_⟩
  · obtain ⟨a1, a2⟩ := key i p hp
    obtain ⟨b1, b2⟩ := key j q hq
    exact hi i j a1 b1 (by rw [← a2, ← b2, e])
  · obtain ⟨a1, a2⟩ := key k q h
    exact ⟨k, a1, a2⟩
theorem cels_set {sh : List Shp} {w : Wd} {σ : Hp} {o : Nat} {x : Shp} {τ : Hp} (h : sh[o]? = some x) (hne : ∀ q, q ≠ o → τ q = σ q) : (cels sh w σ).set o (w.1 o, cel w (τ o) x) = cels sh w τ := by
  apply List.ext_getElem?
  intro i
  rw [List.getElem?_set]
  by_cases hi : o = i
  · subst hi
    have hl : o < (cels sh w σ).length := by simp [cels]; exact (List.getElem?_eq_some_iff.mp h).1
    rw [if_pos rfl, if_pos hl, cels_get h]
  · rw [if_neg hi]
    simp only [cels, List.getElem?_mapIdx]
    rw [hne i (fun e => hi e.symm)]
-- locals by their places
def asl : Nat → List (Option Value) → List (Nat × Value)
  | _, [] => []
  | i, some v :: r => (i, v) :: asl (i + 1) r
  | i, none :: r => asl (i + 1) r
def lhas (ls : Array Slot) (nL : Nat) (lo : List (Option Value)) : Prop := lv_has ls nL (asl 0 lo)
theorem asl_mem : ∀ (lo : List (Option Value)) (b : Nat) (q : Nat × Value), q ∈ asl b lo ↔ b ≤ q.1 ∧ lo[q.1 - b]? = some (some q.2) := by
  intro lo
  induction lo with
  | nil => intro b q; simp [asl]
  | cons a r ih =>
    intro b q
    have tail : ((b + 1 ≤ q.1 ∧ r[q.1 - (b + 1)]? = some (some q.2)) ↔ (b ≤ q.1 ∧ q.1 ≠ b ∧ (a :: r)[q.1 - b]? = some (some q.2))) := by
      constructor
      · rintro ⟨h1, h2⟩
        refine ⟨by omega, by omega, ?_⟩
        rw [show q.1 - b = (q.1 - (b + 1)) + 1 by omega, List.getElem?_cons_succ]; exact h2
      · rintro ⟨h1, h2, h3⟩
        refine ⟨by omega, ?_⟩
        rw [show q.1 - b = (q.1 - (b + 1)) + 1 by omega, List.getElem?_cons_succ] at h3; exact h3
    cases a with
    | none =>
      simp only [asl]
      rw [ih (b + 1) q, tail]
      constructor
      · rintro ⟨h1, -, h3⟩; exact ⟨h1, h3⟩
      · rintro ⟨h1, h3⟩
        refine ⟨h1, fun e => ?_, h3⟩
        rw [e] at h3; simp at h3
    | some v =>
      simp only [asl, List.mem_cons]
      rw [ih (b + 1) q, tail]
      constructor
      · rintro (h | ⟨h1, -, h3⟩)
        · rw [h]; simp
        · exact ⟨h1, h3⟩
      · rintro ⟨h1, h3⟩
        by_cases e : q.1 = b
        · left
          rw [e] at h3
          simp at h3
          exact Prod.ext e h3.symm
        · exact Or.inr ⟨h1, e, h3⟩
theorem lhas_at {ls : Array Slot} {nL : Nat} {lo : List (Option Value)} (h : lhas ls nL lo) {i : Nat} {v : Value} (hi : lo[i]? = some (some v)) : ls[i]? = some (.val v) :=
  h.2.2 (i, v) ((asl_mem lo 0 (i, v)).mpr ⟨Nat.zero_le _, by simpa using hi⟩)
theorem lhas_of {ls : Array Slot} {nL : Nat} {l : List (Nat × Value)} {lo : List (Option Value)} (h : lv_has ls nL l) (hs : ∀ i v, lo[i]? = some (some v) → (i, v) ∈ l) : lhas ls nL lo := by
  refine ⟨h.1, h.2.1, fun q hq => h.2.2 q ?_⟩
  obtain ⟨-, h2⟩ := (asl_mem lo 0 q).mp hq
  exact hs q.1 q.2 (by simpa using h2)
def msk : List Bool → List (Option Value) → List (Option Value)
  | true :: b, a :: r => a :: msk b r
  | false :: b, _ :: r => none :: msk b r
  | _, _ => []
theorem msk_get : ∀ (b : List Bool) (lo : List (Option Value)) (i : Nat) (v : Value), (msk b lo)[i]? = some (some v) → lo[i]? = some (some v) := by
  intro b
  induction b with
  | nil => intro lo i v h; simp [msk] at h
  | cons c b ih =>
    intro lo i v h
    cases lo with
    | nil => cases c <;> simp [msk] at h
    | cons a r =>
      cases c <;> cases i with
      | zero => simp [msk] at h ⊢ <;> exact h
      | succ i => simp [msk] at h ⊢; exact ih r i v h
theorem lhas_msk {ls : Array Slot} {nL : Nat} {lo : List (Option Value)} (h : lhas ls nL lo) (b : List Bool) : lhas ls nL (msk b lo) :=
  lhas_of h (fun i v hi => (asl_mem lo 0 (i, v)).mpr ⟨Nat.zero_le _, by simpa using msk_get b lo i v hi⟩)
/-- behind a store of one slot: a long that stood one place ahead is gone -/
def kil : Option Value → Option Value
  | some (.long _) => none
  | some (.double _) => none
  | a => a
theorem kil_some {a : Option Value} {v : Value} (h : kil a = some v) : a = some v ∧ v.category = 1 := by
  cases a with
  | none => cases h
  | some u => cases u <;> simp [kil] at h <;> subst h <;> exact ⟨rfl, rfl⟩
def sto1 : List (Option Value) → Nat → Value → List (Option Value)
  | [], _, _ => []
  | _ :: r, 0, v => some v :: r
  | a :: r, 1, v => kil a :: sto1 r 0 v
  | a :: r, i + 2, v => a :: sto1 r (i + 1) v
def sto2 : List (Option Value) → Nat → Value → List (Option Value)
  | _ :: _ :: r, 0, v => some v :: none :: r
  | a :: r, 1, v => kil a :: sto2 r 0 v
  | a :: r, i + 2, v => a :: sto2 r (i + 1) v
  | _, _, _ => []
theorem sto1_get : ∀ (lo : List (Option Value)) (i : Nat) (v : Value) (j : Nat) (u : Value), (sto1 lo i v)[j]? = some (some u) → (j = i ∧ u = v) ∨ (j ≠ i ∧ lo[j]? = some (some u) ∧ ¬ (j + 1 = i ∧ u.category = 2)) := by
  intro lo
  induction lo with
  | nil => intro i v j u h; simp [sto1] at h
  | cons a r ih =>
    intro i v j u h
    match i, j with
    | 0, 0 => simp [sto1] at h; exact Or.inl ⟨rfl, h.symm⟩
    | 0, j + 1 => simp [sto1] at h; exact Or.inr ⟨by omega, by simpa using h, by omega⟩
    | 1, 0 =>
      simp [sto1] at h
      obtain ⟨h1, h2⟩ := kil_some h
      exact Or.inr ⟨by omega, by simpa using h1, by omega⟩
    | 1, j + 1 =>
      simp [sto1] at h
      rcases ih 0 v j u h with ⟨h1, h2⟩ | ⟨h1, h2, h3⟩
      · exact Or.inl ⟨by omega, h2⟩
      · exact Or.inr ⟨by omega, by simpa using h2, by omega⟩
    | i + 2, 0 => simp [sto1] at h; exact Or.inr ⟨by omega, by simpa using h, by omega⟩
    | i + 2, j + 1 =>
      simp [sto1] at h
      rcases ih (i + 1) v j u h with ⟨h1, h2⟩ | ⟨h1, h2, h3⟩
      · exact Or.inl ⟨by omega, h2⟩
      · exact Or.inr ⟨by omega, by simpa using h2, fun z => h3 ⟨by omega, z.2⟩⟩
theorem sto2_get : ∀ (lo : List (Option Value)) (i : Nat) (v : Value) (j : Nat) (u : Value), (sto2 lo i v)[j]? = some (some u) → (j = i ∧ u = v) ∨ (j ≠ i ∧ j ≠ i + 1 ∧ lo[j]? = some (some u) ∧ ¬ (j + 1 = i ∧ u.category = 2)) := by
  intro lo
  induction lo with
  | nil => intro i v j u h; cases i <;> simp [sto2] at h
  | cons a r ih =>
    intro i v j u h
    match i, j with
    | 0, 0 =>
      cases r with
      | nil => simp [sto2] at h
      | cons b r => simp [sto2] at h; exact Or.inl ⟨rfl, h.symm⟩
    | 0, j + 1 =>
      cases r with
      | nil => simp [sto2] at h
      | cons b r =>
        cases j with
        | zero => simp [sto2] at h
        | succ j => simp [sto2] at h; exact Or.inr ⟨by omega, by omega, by simpa using h, by omega⟩
    | 1, 0 =>
      simp [sto2] at h
      obtain ⟨h1, h2⟩ := kil_some h
      exact Or.inr ⟨by omega, by omega, by simpa using h1, by omega⟩
    | 1, j + 1 =>
      simp [sto2] at h
      rcases ih 0 v j u h with ⟨h1, h2⟩ | ⟨h1, h1', h2, h3⟩
      · exact Or.inl ⟨by omega, h2⟩
      · exact Or.inr ⟨by omega, by omega, by simpa using h2, by omega⟩
    | i + 2, 0 => simp [sto2] at h; exact Or.inr ⟨by omega, by omega, by simpa using h, by omega⟩
    | i + 2, j + 1 =>
      simp [sto2] at h
      rcases ih (i + 1) v j u h with ⟨h1, h2⟩ | ⟨h1, h1', h2, h3⟩
      · exact Or.inl ⟨by omega, h2⟩
      · exact Or.inr ⟨by omega, by omega, by simpa using h2, fun z => h3 ⟨by omega, z.2⟩⟩
theorem lhas_sto1 {ls : Array Slot} {nL i : Nat} {v : Value} {lo : List (Option Value)} (h : lv_has ls nL ((i, v) :: (asl 0 lo).filter (fun q => !(q.1 == i) && !(q.1 + 1 == i && q.2.category == 2)))) : lhas ls nL (sto1 lo i v) := by
  refine lhas_of h (fun j u hj => ?_)
  rcases sto1_get lo i v j u hj with ⟨h1, h2⟩ | ⟨h1, h2, h3⟩
  · rw [h1, h2]; exact List.mem_cons_self
  · refine List.mem_cons_of_mem _ (List.mem_filter.mpr ⟨(asl_mem lo 0 (j, u)).mpr ⟨Nat.zero_le _, by simpa using h2⟩, ?_⟩)
    simp only [Bool.and_eq_true, Bool.not_eq_true', beq_eq_false_iff_ne, ne_eq, Bool.and_eq_false_iff]
    refine ⟨h1, ?_⟩
    by_cases e : j + 1 = i
    · exact Or.inr (fun z => h3 ⟨e, z⟩)
    · exact Or.inl e
theorem lhas_sto2 {ls : Array Slot} {nL i : Nat} {v : Value} {lo : List (Option Value)} (h : lv_has ls nL ((i, v) :: (asl 0 lo).filter (fun q => !(q.1 == i) && (!(q.1 == i + 1) && !(q.1 + 1 == i && q.2.category == 2))))) : lhas ls nL (sto2 lo i v) := by
  refine lhas_of h (fun j u hj => ?_)
  rcases sto2_get lo i v j u hj with ⟨h1, h2⟩ | ⟨h1, h1', h2, h3⟩
  · rw [h1, h2]; exact List.mem_cons_self
  · refine List.mem_cons_of_mem _ (List.mem_filter.mpr ⟨(asl_mem lo 0 (j, u)).mpr ⟨Nat.zero_le _, by simpa using h2⟩, ?_⟩)
    simp only [Bool.and_eq_true, Bool.not_eq_true', beq_eq_false_iff_ne, ne_eq, Bool.and_eq_false_iff]
    refine ⟨h1, h1', ?_⟩
    by_cases e : j + 1 = i
    · exact Or.inr (fun z => h3 ⟨e, z⟩)
    · exact Or.inl e
