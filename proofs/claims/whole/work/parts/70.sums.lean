/-! court: sums over all sets of suits -/
def upB (f : Nat → Bool) (k : Nat) (v : Bool) : Nat → Bool := fun i => if i = k then v else f i
theorem upB_at (f : Nat → Bool) (k : Nat) (v : Bool) : upB f k v k = v := if_pos rfl
theorem upB_ne (f : Nat → Bool) {k j : Nat} (v : Bool) (h : j ≠ k) : upB f k v j = f j := if_neg h
theorem upB_comm (b : Nat → Bool) {k j : Nat} (u v : Bool) (h : k ≠ j) : upB (upB b k u) j v = upB (upB b j v) k u := by
  funext i
  unfold upB
  by_cases e : i = j
  · rw [if_pos e, if_neg (by omega), if_pos e]
  · rw [if_neg e]
    by_cases e2 : i = k
    · rw [if_pos e2, if_pos e2]
    · rw [if_neg e2, if_neg e2, if_neg e]
/-- those of 0 .. n - 1 that are not decided (A) go either way, by c or d -/
def EXA (c d : Nat) (F : (Nat → Bool) → Nat) : Nat → (Nat → Bool) → (Nat → Bool) → Nat
  | 0, _, b => F b
  | n + 1, A, b => if A n = true then EXA c d F n A b else c * EXA c d F n A (upB b n false) + d * EXA c d F n A (upB b n true)
theorem EXA_congr {c d : Nat} {F : (Nat → Bool) → Nat} : ∀ n (A A' b : Nat → Bool), (∀ k, k < n → A k = A' k) → EXA c d F n A b = EXA c d F n A' b := by
  intro n
  induction n with
  | zero => intro A A' b _; rfl
  | succ n ih =>
    intro A A' b h
    have h1 := fun b => ih A A' b (fun k hk => h k (by omega))
    show (if A n = true then _ else _) = (if A' n = true then _ else _)
    rw [h n (by omega), h1, h1, h1]
theorem EXA_all {c d : Nat} {F : (Nat → Bool) → Nat} : ∀ n (A b : Nat → Bool), (∀ k, k < n → A k = true) → EXA c d F n A b = F b := by
  intro n
  induction n with
  | zero => intro A b _; rfl
  | succ n ih =>
    intro A b h
    show (if A n = true then _ else _) = _
    rw [if_pos (h n (by omega))]
    exact ih A b (fun k hk => h k (by omega))
theorem comb (c d x y z w : Nat) : c * (c * x + d * y) + d * (c * z + d * w) = c * (c * x + d * z) + d * (c * y + d * w) := by
  simp only [Nat.mul_add]
  have h1 := Nat.mul_left_comm c d y
  have h2 := Nat.mul_left_comm c d z
  omega
/-- any one that is not decided may be decided first -/
theorem EXA_pull {c d : Nat} {F : (Nat → Bool) → Nat} : ∀ n (A b : Nat → Bool) (k : Nat), k < n → A k = false → EXA c d F n A b = c * EXA c d F n (upB A k true) (upB b k false) + d * EXA c d F n (upB A k true) (upB b k true) := by
  intro n
  induction n with
  | zero => intro A b k hk; omega
  | succ n ih =>
    intro A b k hk hA
    have e : ∀ A b, EXA c d F (n + 1) A b = if A n = true then EXA c d F n A b else c * EXA c d F n A (upB b n false) + d * EXA c d F n A (upB b n true) := fun _ _ => rfl
    rw [e, e, e]
    by_cases ek : k = n
    · subst ek
      rw [if_neg (by rw [hA]; simp), upB_at, if_pos rfl, if_pos rfl]
      have hc := fun b => EXA_congr (c := c) (d := d) (F := F) k A (upB A k true) b (fun j hj => (upB_ne A true (by omega)).symm)
      rw [hc, hc]
    · have hkn : k < n := by omega
      rw [upB_ne A true (show n ≠ k by omega)]
      by_cases hn : A n = true
      · rw [if_pos hn, if_pos hn, if_pos hn]
        exact ih A b k hkn hA
      · rw [if_neg hn, if_neg hn, if_neg hn, ih A (upB b n false) k hkn hA, ih A (upB b n true) k hkn hA, comb]
        rw [upB_comm b false false (show n ≠ k by omega), upB_comm b false true (show n ≠ k by omega), upB_comm b true false (show n ≠ k by omega), upB_comm b true true (show n ≠ k by omega)]
/-- the weight of a set -/
def wtN (c d s : Nat) : Nat → Nat
  | 0 => 1
  | n + 1 => wtN c d s n * (if s.testBit n = true then d else c)
theorem wtN_congr {c d s t : Nat} : ∀ n, (∀ k, k < n → s.testBit k = t.testBit k) → wtN c d s n = wtN c d t n := by
  intro n
  induction n with
  | zero => intro _; rfl
  | succ n ih =>
    intro h
    show wtN c d s n * _ = wtN c d t n * _
    rw [ih (fun k hk => h k (by omega)), h n (by omega)]
theorem fb_sm_mul (c : Nat) (f : Nat → Nat) : ∀ n, c * fb_sm f n = fb_sm (fun k => c * f k) n := by
  intro n
  induction n with
  | zero => rfl
  | succ n ih => rw [fb_sm_succ, fb_sm_succ, Nat.mul_add, ih]
theorem EXA_sum {c d : Nat} {F : (Nat → Bool) → Nat} : ∀ n (A b : Nat → Bool), (∀ k, k < n → A k = false) → EXA c d F n A b = fb_sm (fun s => wtN c d s n * F (fun k => if k < n then s.testBit k else b k)) (2 ^ n) := by
  intro n
  induction n with
  | zero =>
    intro A b _
    show F b = 0 + 1 * F (fun k => if k < 0 then (0 : Nat).testBit k else b k)
    have : (fun k => if k < 0 then (0 : Nat).testBit k else b k) = b := by
      funext k; rw [if_neg (by omega)]
    rw [this]; omega
  | succ n ih =>
    intro A b hA
    have e : EXA c d F (n + 1) A b = if A n = true then EXA c d F n A b else c * EXA c d F n A (upB b n false) + d * EXA c d F n A (upB b n true) := rfl
    rw [e, if_neg (by rw [hA n (by omega)]; simp), ih A _ (fun k hk => hA k (by omega)), ih A _ (fun k hk => hA k (by omega)), fb_sm_mul, fb_sm_mul, show 2 ^ (n + 1) = 2 ^ n + 2 ^ n by rw [Nat.pow_succ]; omega, fb_sm_split]
    congr 1
    · apply fb_sm_cong
      intro s hs
      have hb : s.testBit n = false := Nat.testBit_lt_two_pow hs
      have e1 : wtN c d s (n + 1) = wtN c d s n * c := by show _ * (if _ then _ else _) = _; rw [hb, if_neg (by simp)]
      have e2 : (fun k => if k < n then s.testBit k else upB b n false k) = (fun k => if k < n + 1 then s.testBit k else b k) := by
        funext k
        by_cases h1 : k < n
        · rw [if_pos h1, if_pos (by omega)]
        · by_cases h2 : k = n
          · subst h2; rw [if_neg h1, upB_at, if_pos (by omega), hb]
          · rw [if_neg h1, if_neg (by omega), upB_ne _ _ h2]
      rw [e1, e2, Nat.mul_comm (wtN c d s n) c, Nat.mul_assoc]
    · apply fb_sm_cong
      intro s hs
      have hb : (2 ^ n + s).testBit n = true := by
        rw [Nat.testBit_two_pow_add_eq, Nat.testBit_lt_two_pow hs]; rfl
      have hl : ∀ k, k < n → s.testBit k = (2 ^ n + s).testBit k := fun k hk => (Nat.testBit_two_pow_add_gt hk s).symm
      have e1 : wtN c d (2 ^ n + s) (n + 1) = wtN c d s n * d := by
        show wtN c d (2 ^ n + s) n * (if _ then _ else _) = _
        rw [hb, if_pos rfl, wtN_congr n hl]
      have e2 : (fun k => if k < n then s.testBit k else upB b n true k) = (fun k => if k < n + 1 then (2 ^ n + s).testBit k else b k) := by
        funext k
        by_cases h1 : k < n
        · rw [if_pos h1, if_pos (by omega), hl k h1]
        · by_cases h2 : k = n
          · subst h2; rw [if_neg h1, upB_at, if_pos (by omega), hb]
          · rw [if_neg h1, if_neg (by omega), upB_ne _ _ h2]
      show d * (wtN c d s n * F (fun k => if k < n then s.testBit k else upB b n true k)) = wtN c d (2 ^ n + s) (n + 1) * F (fun k => if k < n + 1 then (2 ^ n + s).testBit k else b k)
      rw [e1, e2, Nat.mul_comm (wtN c d s n) d, Nat.mul_assoc]
theorem ct_add1 {p q : Nat → Bool} {k : Nat} : ∀ n, k < n → (∀ j, j < n → j ≠ k → p j = q j) → p k = false → q k = true → fb_ct q n = fb_ct p n + 1 := by
  intro n
  induction n with
  | zero => intro h; omega
  | succ n ih =>
    intro hk h h0 h1
    rw [fb_ct_succ, fb_ct_succ]
    by_cases e : k = n
    · subst e
      rw [h0, h1, fb_ct_cong (p := q) (q := p) (fun j hj => (h j (by omega) (by omega)).symm)]
      simp
    · rw [ih (by omega) (fun j hj hn => h j (by omega) hn) h0 h1, h n (by omega) (by omega)]
      omega
theorem si_add1 {f g : Nat → Int} {k : Nat} : ∀ n, k < n → (∀ j, j < n → j ≠ k → f j = g j) → g k = 0 → fb_si f n = fb_si g n + f k := by
  intro n
  induction n with
  | zero => intro h; omega
  | succ n ih =>
    intro hk h h0
    rw [fb_si_succ, fb_si_succ]
    by_cases e : k = n
    · subst e
      rw [h0, fb_si_cong (f := f) (g := g) (fun j hj => h j (by omega) (by omega)), Int.add_zero]
    · rw [ih (by omega) (fun j hj hn => h j (by omega) hn) h0, h n (by omega) (by omega)]
      omega
theorem allF_iff {f : Nat → Bool} : ∀ n lo, allF f lo n = true ↔ ∀ k, lo ≤ k → k < lo + n → f k = true := by
  intro n
  induction n with
  | zero => intro lo; exact ⟨fun _ k h1 h2 => by omega, fun _ => rfl⟩
  | succ n ih =>
    intro lo
    show (if f lo = true then allF f (lo + 1) n else false) = true ↔ _
    by_cases c : f lo = true
    · rw [if_pos c, ih]
      constructor
      · intro h k h1 h2
        by_cases e : k = lo
        · rw [e]; exact c
        · exact h k (by omega) (by omega)
      · intro h k h1 h2
        exact h k (by omega) (by omega)
    · rw [if_neg c]
      constructor
      · intro h; cases h
      · intro h; exact absurd (h lo (by omega) (by omega)) c
/-- suits: how many; those that bear; of which two; what each brings; the order -/
abbrev Jd : Type := Nat × (Nat → Bool) × (Nat → Nat) × (Nat → Int) × (Nat → Nat)
def jS (J : Jd) : Nat := J.1
def jB (J : Jd) : Nat → Bool := J.2.1
def jT (J : Jd) : Nat → Nat := J.2.2.1
def jG (J : Jd) : Nat → Int := J.2.2.2.1
def jP (J : Jd) : Nat → Nat := J.2.2.2.2
def WJ (J : Jd) : Prop := (∀ j k, j < jS J → k < jS J → jP J j = jP J k → j = k) ∧ ∀ k, k < jS J → jP J k < 360
def leadF (J : Jd) (b : Nat → Bool) (k j : Nat) : Bool := !(jB J j && (!b j && decide (jT J j = jT J k))) || decide (jP J k ≤ jP J j)
def leadB (J : Jd) (b : Nat → Bool) (k : Nat) : Bool := !b k && allF (leadF J b k) 0 (jS J)
theorem lead_iff {J : Jd} {b : Nat → Bool} {k : Nat} : leadB J b k = true ↔ b k = false ∧ ∀ j, j < jS J → jB J j = true → b j = false → jT J j = jT J k → jP J k ≤ jP J j := by
  unfold leadB
  rw [Bool.and_eq_true, allF_iff, Bool.not_eq_true']
  constructor
  · rintro ⟨h1, h2⟩
    refine ⟨h1, fun j hj a1 a2 a3 => ?_⟩
    have := h2 j (by omega) (by omega)
    unfold leadF at this
    rw [a1, a2, a3] at this
    simpa using this
  · rintro ⟨h1, h2⟩
    refine ⟨h1, fun j _ hj => ?_⟩
    unfold leadF
    by_cases a1 : jB J j = true
    · by_cases a2 : b j = false
      · by_cases a3 : jT J j = jT J k
        · have := h2 j (by omega) a1 a2 a3
          rw [decide_eq_true this, Bool.or_true]
        · rw [decide_eq_false a3]; simp
      · have : b j = true := by cases h : b j with
          | true => rfl
          | false => exact absurd h a2
        rw [this]; simp
    · have : jB J j = false := by cases h : jB J j with
        | false => rfl
        | true => exact absurd h a1
      rw [this]; simp
theorem beq_of {a b : Bool} (h : a = true ↔ b = true) : a = b := by
  cases a <;> cases b <;> simp_all
def balP (J : Jd) (p : Nat) (b : Nat → Bool) : Int := fb_si (fun k => if (decide (jP J k < p) && (jB J k && leadB J b k)) = true then jG J k else 0) (jS J)
theorem lead_up {J : Jd} {b : Nat → Bool} {k j : Nat} {v : Bool} (h : jP J j < jP J k) : leadB J (upB b k v) j = leadB J b j := by
  have hjk : j ≠ k := fun e => by rw [e] at h; omega
  apply beq_of
  rw [lead_iff, lead_iff, upB_ne _ _ hjk]
  constructor
  · rintro ⟨h1, h2⟩
    refine ⟨h1, fun i hi a1 a2 a3 => ?_⟩
    by_cases e : i = k
    · rw [e]; omega
    · exact h2 i hi a1 (by rw [upB_ne _ _ e]; exact a2) a3
  · rintro ⟨h1, h2⟩
    refine ⟨h1, fun i hi a1 a2 a3 => ?_⟩
    by_cases e : i = k
    · rw [e]; omega
    · exact h2 i hi a1 (by rw [upB_ne _ _ e] at a2; exact a2) a3
theorem balP_stay {J : Jd} {p : Nat} {b : Nat → Bool} (h : ∀ k, k < jS J → jP J k ≠ p) : balP J (p + 1) b = balP J p b := by
  unfold balP
  apply fb_si_cong
  intro k hk
  have : decide (jP J k < p + 1) = decide (jP J k < p) := by
    have := h k hk
    apply beq_of
    rw [decide_eq_true_eq, decide_eq_true_eq]
    omega
  rw [this]
theorem balP_step {J : Jd} (hJ : WJ J) {p k : Nat} {b : Nat → Bool} {v : Bool} (hk : k < jS J) (hp : jP J k = p) : balP J (p + 1) (upB b k v) = balP J p b + (if (jB J k && leadB J (upB b k v) k) = true then jG J k else 0) := by
  unfold balP
  rw [si_add1 (g := fun k => if (decide (jP J k < p) && (jB J k && leadB J b k)) = true then jG J k else 0) (k := k) (jS J) hk]
  · rw [decide_eq_true (show jP J k < p + 1 by omega), Bool.true_and]
  · intro j hj hn
    have hne : jP J j ≠ p := fun e => hn (hJ.1 j k hj hk (e.trans hp.symm))
    by_cases c : jP J j < p
    · rw [decide_eq_true (show jP J j < p + 1 by omega), decide_eq_true c, lead_up (by omega)]
    · rw [decide_eq_false (show ¬ jP J j < p + 1 by omega), decide_eq_false c, Bool.false_and, Bool.false_and]
  · show (if _ then _ else _) = _
    rw [decide_eq_false (show ¬ jP J k < p by omega), Bool.false_and, if_neg (by simp)]
def rJ (J : Jd) (p : Nat) : Nat := fb_ct (fun k => jB J k && decide (jP J k < p)) (jS J)
def nJ (J : Jd) (p : Nat) : Nat := fb_ct (fun k => !jB J k && decide (p ≤ jP J k)) (jS J)
theorem rJ_stay {J : Jd} {p : Nat} (h : ∀ k, k < jS J → jP J k = p → jB J k = false) : rJ J (p + 1) = rJ J p := by
  unfold rJ
  apply fb_ct_cong
  intro k hk
  by_cases e : jP J k = p
  · rw [h k hk e]; rfl
  · have : decide (jP J k < p + 1) = decide (jP J k < p) := by
      apply beq_of
      rw [decide_eq_true_eq, decide_eq_true_eq]
      omega
    rw [this]
theorem rJ_step {J : Jd} (hJ : WJ J) {p k : Nat} (hk : k < jS J) (hp : jP J k = p) (hb : jB J k = true) : rJ J (p + 1) = rJ J p + 1 := by
  unfold rJ
  refine ct_add1 (k := k) (jS J) hk (fun j hj hn => ?_) ?_ ?_
  · have hne : jP J j ≠ p := fun e => hn (hJ.1 j k hj hk (e.trans hp.symm))
    have : decide (jP J j < p + 1) = decide (jP J j < p) := by
      apply beq_of
      rw [decide_eq_true_eq, decide_eq_true_eq]
      omega
    rw [this]
  · rw [decide_eq_false (show ¬ jP J k < p by omega), Bool.and_false]
  · rw [hb, decide_eq_true (show jP J k < p + 1 by omega)]; rfl
theorem rJ_mono {J : Jd} {p q : Nat} (h : p ≤ q) : rJ J p ≤ rJ J q := by
  unfold rJ
  apply fb_ct_sub
  intro k _ hk
  rw [Bool.and_eq_true, decide_eq_true_eq] at hk ⊢
  exact ⟨hk.1, by omega⟩
theorem nJ_stay {J : Jd} {p : Nat} (h : ∀ k, k < jS J → jP J k = p → jB J k = true) : nJ J p = nJ J (p + 1) := by
  unfold nJ
  apply fb_ct_cong
  intro k hk
  by_cases e : jP J k = p
  · rw [h k hk e]; rfl
  · have : decide (p ≤ jP J k) = decide (p + 1 ≤ jP J k) := by
      apply beq_of
      rw [decide_eq_true_eq, decide_eq_true_eq]
      omega
    rw [this]
theorem nJ_step {J : Jd} (hJ : WJ J) {p k : Nat} (hk : k < jS J) (hp : jP J k = p) (hb : jB J k = false) : nJ J p = nJ J (p + 1) + 1 := by
  unfold nJ
  refine ct_add1 (k := k) (jS J) hk (fun j hj hn => ?_) ?_ ?_
  · have hne : jP J j ≠ p := fun e => hn (hJ.1 j k hj hk (e.trans hp.symm))
    have : decide (p ≤ jP J j) = decide (p + 1 ≤ jP J j) := by
      apply beq_of
      rw [decide_eq_true_eq, decide_eq_true_eq]
      omega
    rw [this]
  · rw [decide_eq_false (show ¬ p + 1 ≤ jP J k by omega), Bool.and_false]
  · rw [hb, decide_eq_true (show p ≤ jP J k by omega)]; rfl
/-- the class's weighing -/
def wgF (c d : Nat) (gn : Nat → Int32) (tw : Nat → Nat) : Nat → Nat → Int32 → Nat → Nat
  | 0, _, bal, _ => if bal ≤ 0 then 0 else 1
  | f + 1, i, bal, st => if st &&& tw i = 0 then c * wgF c d gn tw f (i + 1) (bal + gn i) (st ||| tw i) + d * wgF c d gn tw f (i + 1) bal st else 16 * wgF c d gn tw f (i + 1) bal st
theorem wgF_le {c d : Nat} {gn : Nat → Int32} {tw : Nat → Nat} (hcd : c + d = 16) : ∀ f i bal st, wgF c d gn tw f i bal st ≤ 16 ^ f := by
  intro f
  induction f with
  | zero =>
    intro i bal st
    show (if bal ≤ 0 then 0 else 1) ≤ 1
    split <;> omega
  | succ f ih =>
    intro i bal st
    show (if st &&& tw i = 0 then c * wgF c d gn tw f (i + 1) (bal + gn i) (st ||| tw i) + d * wgF c d gn tw f (i + 1) bal st else 16 * wgF c d gn tw f (i + 1) bal st) ≤ _
    rw [Nat.pow_succ]
    split
    · have h1 := Nat.mul_le_mul_left c (ih (i + 1) (bal + gn i) (st ||| tw i))
      have h2 := Nat.mul_le_mul_left d (ih (i + 1) bal st)
      have h3 : c * 16 ^ f + d * 16 ^ f = 16 ^ f * 16 := by rw [← Nat.add_mul, hcd, Nat.mul_comm]
      omega
    · have := ih (i + 1) bal st
      omega
theorem and_pow0 {st t : Nat} : st &&& 2 ^ t = 0 ↔ st.testBit t = false := by
  constructor
  · intro h
    have := congrArg (fun x => Nat.testBit x t) h
    simp only [Nat.testBit_and, Nat.testBit_two_pow, Nat.zero_testBit] at this
    simpa using this
  · intro h
    apply Nat.eq_of_testBit_eq
    intro i
    rw [Nat.testBit_and, Nat.testBit_two_pow, Nat.zero_testBit]
    by_cases e : t = i
    · subst e; rw [h]; rfl
    · rw [decide_eq_false e, Bool.and_false]
def InvS (J : Jd) (p : Nat) (b : Nat → Bool) (st : Nat) : Prop := ∀ k, k < jS J → jB J k = true → (st.testBit (jT J k) = true ↔ ∃ j, j < jS J ∧ jP J j < p ∧ jB J j = true ∧ b j = false ∧ jT J j = jT J k)
theorem inv_stay {J : Jd} {p st : Nat} {b : Nat → Bool} (h : InvS J p b st) (hn : ∀ k, k < jS J → jP J k ≠ p) : InvS J (p + 1) b st := by
  intro k hk hb
  rw [h k hk hb]
  constructor
  · rintro ⟨j, a1, a2, a3⟩; exact ⟨j, a1, by omega, a3⟩
  · rintro ⟨j, a1, a2, a3⟩; exact ⟨j, a1, by have := hn j a1; omega, a3⟩
/-- with one more that doesn't count: it is dropped, or doesn't bear, or its two are settled -/
theorem inv_same {J : Jd} (hJ : WJ J) {p st k : Nat} {b : Nat → Bool} {v : Bool} (h : InvS J p b st) (hk : k < jS J) (hp : jP J k = p) (hc : v = true ∨ jB J k = false ∨ st.testBit (jT J k) = true) : InvS J (p + 1) (upB b k v) st := by
  intro i hi hb
  constructor
  · intro hs
    obtain ⟨j, a1, a2, a3, a4, a5⟩ := (h i hi hb).mp hs
    have hjk : j ≠ k := fun e => by rw [e] at a2; omega
    exact ⟨j, a1, by omega, a3, by rw [upB_ne _ _ hjk]; exact a4, a5⟩
  · rintro ⟨j, a1, a2, a3, a4, a5⟩
    by_cases e : j = k
    · subst e
      rw [upB_at] at a4
      rcases hc with c | c | c
      · rw [c] at a4; cases a4
      · rw [c] at a3; cases a3
      · rw [← a5]; exact c
    · rw [upB_ne _ _ e] at a4
      have : jP J j ≠ p := fun z => e (hJ.1 j k a1 hk (z.trans hp.symm))
      exact (h i hi hb).mpr ⟨j, a1, by omega, a3, a4, a5⟩
theorem inv_new {J : Jd} (hJ : WJ J) {p st k : Nat} {b : Nat → Bool} (h : InvS J p b st) (hk : k < jS J) (hp : jP J k = p) (hbk : jB J k = true) : InvS J (p + 1) (upB b k false) (st ||| 2 ^ jT J k) := by
  intro i hi hb
  rw [or_two, Bool.or_eq_true, decide_eq_true_eq, h i hi hb]
  constructor
  · rintro (⟨j, a1, a2, a3, a4, a5⟩ | e)
    · have hjk : j ≠ k := fun e => by rw [e] at a2; omega
      exact ⟨j, a1, by omega, a3, by rw [upB_ne _ _ hjk]; exact a4, a5⟩
    · exact ⟨k, hk, by omega, hbk, upB_at _ _ _, e⟩
  · rintro ⟨j, a1, a2, a3, a4, a5⟩
    by_cases e : j = k
    · subst e; exact Or.inr a5
    · rw [upB_ne _ _ e] at a4
      have : jP J j ≠ p := fun z => e (hJ.1 j k a1 hk (z.trans hp.symm))
      exact Or.inl ⟨j, a1, by omega, a3, a4, a5⟩
theorem lead_now {J : Jd} (hJ : WJ J) {p st k : Nat} {b : Nat → Bool} (h : InvS J p b st) (hk : k < jS J) (hp : jP J k = p) (hbk : jB J k = true) : leadB J (upB b k false) k = !st.testBit (jT J k) := by
  apply beq_of
  rw [lead_iff, Bool.not_eq_true', upB_at]
  constructor
  · rintro ⟨-, h2⟩
    cases hs : st.testBit (jT J k) with
    | false => rfl
    | true =>
      obtain ⟨j, a1, a2, a3, a4, a5⟩ := (h k hk hbk).mp hs
      have hjk : j ≠ k := fun e => by rw [e] at a2; omega
      have := h2 j a1 a3 (by rw [upB_ne _ _ hjk]; exact a4) a5
      omega
  · intro hs
    refine ⟨rfl, fun j a1 a3 a4 a5 => ?_⟩
    by_cases e : j = k
    · rw [e]; omega
    · rw [upB_ne _ _ e] at a4
      by_cases c : jP J j < p
      · have := (h k hk hbk).mpr ⟨j, a1, c, a3, a4, a5⟩
        rw [hs] at this; cases this
      · omega
/-- all sets of suits, weighed: one after the other in the order of days -/
theorem weigh_all {c d : Nat} {J : Jd} {F : (Nat → Bool) → Nat} {gn : Nat → Int32} {tw : Nat → Nat} (hJ : WJ J) (hcd : c + d = 16) (hg : ∀ k, k < jS J → jB J k = true → gn (rJ J (jP J k)) = Int32.ofInt (jG J k) ∧ tw (rJ J (jP J k)) = 2 ^ jT J k) (hF : ∀ b, F b = if Int32.ofInt (balP J 360 b) ≤ 0 then 0 else 1) : ∀ m p b st, p + m = 360 → InvS J p b st → EXA c d F (jS J) (fun k => decide (jP J k < p)) b = 16 ^ nJ J p * wgF c d gn tw (rJ J 360 - rJ J p) (rJ J p) (Int32.ofInt (balP J p b)) st := by
  intro m
  induction m with
  | zero =>
    intro p b st hp _
    have : p = 360 := by omega
    subst this
    have hn : nJ J 360 = 0 := by
      unfold nJ
      rw [fb_ct_zero]
      intro k hk
      have := hJ.2 k hk
      rw [decide_eq_false (by omega), Bool.and_false]
    rw [EXA_all _ _ _ (fun k hk => decide_eq_true (hJ.2 k hk)), hF, hn, Nat.sub_self]
    show _ = 1 * (if _ then _ else _)
    rw [Nat.one_mul]
  | succ m ih =>
    intro p b st hp hI
    have ih := fun b st => ih (p + 1) b st (by omega)
    by_cases hex : ∃ k, k < jS J ∧ jP J k = p
    · obtain ⟨k, hk, hpk⟩ := hex
      have hA : ∀ b, EXA c d F (jS J) (upB (fun k => decide (jP J k < p)) k true) b = EXA c d F (jS J) (fun k => decide (jP J k < p + 1)) b := by
        intro b
        apply EXA_congr
        intro j hj
        by_cases e : j = k
        · subst e; rw [upB_at, decide_eq_true (by omega)]
        · rw [upB_ne _ _ e]
          have : jP J j ≠ p := fun z => e (hJ.1 j k hj hk (z.trans hpk.symm))
          apply beq_of
          rw [decide_eq_true_eq, decide_eq_true_eq]
          omega
      rw [EXA_pull (jS J) _ b k hk (decide_eq_false (by omega)), hA, hA]
      have hdrop : balP J (p + 1) (upB b k true) = balP J p b := by
        rw [balP_step hJ hk hpk]
        have : leadB J (upB b k true) k = false := by
          cases hc : leadB J (upB b k true) k with
          | false => rfl
          | true => have := (lead_iff.mp hc).1; rw [upB_at] at this; cases this
        rw [this, Bool.and_false, if_neg (by simp), Int.add_zero]
      have hd := ih (upB b k true) st (inv_same hJ hI hk hpk (Or.inl rfl))
      rw [hdrop] at hd
      cases hb : jB J k with
      | false =>
        have hst : balP J (p + 1) (upB b k false) = balP J p b := by
          rw [balP_step hJ hk hpk, hb, Bool.false_and, if_neg (by simp), Int.add_zero]
        have hs := ih (upB b k false) st (inv_same hJ hI hk hpk (Or.inr (Or.inl hb)))
        rw [hst] at hs
        rw [hs, hd, nJ_step hJ hk hpk hb, rJ_stay (p := p) (fun j hj e => by rw [hJ.1 j k hj hk (e.trans hpk.symm)]; exact hb), ← Nat.add_mul, hcd, Nat.pow_succ]
        rw [← Nat.mul_assoc, Nat.mul_comm 16]
      | true =>
        have hr := rJ_step hJ hk hpk hb
        have hle : rJ J (p + 1) ≤ rJ J 360 := rJ_mono (by omega)
        obtain ⟨g1, g2⟩ := hg k hk hb
        rw [hpk] at g1 g2
        have en : nJ J p = nJ J (p + 1) := nJ_stay (fun j hj e => by rw [hJ.1 j k hj hk (e.trans hpk.symm)]; exact hb)
        obtain ⟨f, hf⟩ : ∃ f, f = rJ J 360 - rJ J (p + 1) := ⟨_, rfl⟩
        have hf2 : rJ J 360 - rJ J p = f + 1 := by omega
        rw [← hf, hr] at hd
        have hw : wgF c d gn tw (f + 1) (rJ J p) (Int32.ofInt (balP J p b)) st = if st &&& 2 ^ jT J k = 0 then c * wgF c d gn tw f (rJ J p + 1) (Int32.ofInt (balP J p b) + Int32.ofInt (jG J k)) (st ||| 2 ^ jT J k) + d * wgF c d gn tw f (rJ J p + 1) (Int32.ofInt (balP J p b)) st else 16 * wgF c d gn tw f (rJ J p + 1) (Int32.ofInt (balP J p b)) st := by
          rw [← g1, ← g2]; rfl
        rw [hf2, hw, en, hd]
        have hln := lead_now hJ hI hk hpk hb
        cases hs : st.testBit (jT J k) with
        | true =>
          have hst : balP J (p + 1) (upB b k false) = balP J p b := by
            rw [balP_step hJ hk hpk, hln, hs]
            simp
          have h0 := ih (upB b k false) st (inv_same hJ hI hk hpk (Or.inr (Or.inr hs)))
          rw [hst, ← hf, hr] at h0
          rw [h0, if_neg (fun z => by rw [and_pow0.mp z] at hs; cases hs), ← Nat.add_mul, hcd, Nat.mul_left_comm]
        | false =>
          have hst : balP J (p + 1) (upB b k false) = balP J p b + jG J k := by
            rw [balP_step hJ hk hpk, hln, hs, hb]
            simp
          have h0 := ih (upB b k false) (st ||| 2 ^ jT J k) (inv_new hJ hI hk hpk hb)
          rw [hst, ← hf, hr, Int32.ofInt_add] at h0
          rw [h0, if_pos (and_pow0.mpr hs), Nat.mul_add, Nat.mul_left_comm c, Nat.mul_left_comm d]
    · have hno : ∀ k, k < jS J → jP J k ≠ p := fun k hk e => hex ⟨k, hk, e⟩
      have h := ih b st (inv_stay hI hno)
      rw [balP_stay hno, rJ_stay (fun k hk e => absurd e (hno k hk)), ← nJ_stay (fun k hk e => absurd e (hno k hk))] at h
      rw [← h]
      apply EXA_congr
      intro k hk
      have := hno k hk
      apply beq_of
      rw [decide_eq_true_eq, decide_eq_true_eq]
      omega
theorem balP_0 (J : Jd) (b : Nat → Bool) : balP J 0 b = 0 := by
  unfold balP
  apply fb_si_z
  intro k _
  rw [decide_eq_false (by omega), Bool.false_and, if_neg (by simp)]
theorem rJ_0 (J : Jd) : rJ J 0 = 0 := by
  unfold rJ
  rw [fb_ct_zero]
  intro k _
  rw [decide_eq_false (by omega), Bool.and_false]
theorem rn_J {J : Jd} (hJ : WJ J) : rJ J 360 + nJ J 0 = jS J := by
  have h := fb_ct_not (fun k => jB J k) (jS J)
  have e1 : rJ J 360 = fb_ct (fun k => jB J k) (jS J) := by
    unfold rJ
    apply fb_ct_cong
    intro k hk
    rw [decide_eq_true (hJ.2 k hk), Bool.and_true]
  have e2 : nJ J 0 = fb_ct (fun k => !jB J k) (jS J) := by
    unfold nJ
    apply fb_ct_cong
    intro k hk
    rw [decide_eq_true (Nat.zero_le _), Bool.and_true]
  rw [e1, e2]; exact h
/-- the sum over all sets of suits -/
theorem weigh_sum {c d : Nat} {J : Jd} {F : (Nat → Bool) → Nat} {gn : Nat → Int32} {tw : Nat → Nat} (hJ : WJ J) (hcd : c + d = 16) (hg : ∀ k, k < jS J → jB J k = true → gn (rJ J (jP J k)) = Int32.ofInt (jG J k) ∧ tw (rJ J (jP J k)) = 2 ^ jT J k) (hF : ∀ b, F b = if Int32.ofInt (balP J 360 b) ≤ 0 then 0 else 1) : fb_sm (fun s => wtN c d s (jS J) * F (fun k => s.testBit k)) (2 ^ jS J) = 16 ^ nJ J 0 * wgF c d gn tw (rJ J 360) 0 0 0 := by
  have h := weigh_all hJ hcd hg hF 360 0 (fun _ => false) 0 (by omega) (fun k hk hb => by
    rw [Nat.zero_testBit]
    constructor
    · intro z; cases z
    · rintro ⟨j, a1, a2, a3⟩; omega)
  rw [balP_0, rJ_0, Nat.sub_zero, EXA_sum (jS J) _ _ (fun k _ => decide_eq_false (by omega))] at h
  refine Eq.trans ?_ h
  apply fb_sm_cong
  intro s hs
  have : (fun k => s.testBit k) = (fun k => if k < jS J then s.testBit k else false) := by
    funext k
    by_cases c : k < jS J
    · rw [if_pos c]
    · rw [if_neg c]
      exact Nat.testBit_lt_two_pow (Nat.lt_of_lt_of_le hs (Nat.pow_le_pow_right (by decide) (by omega)))
  rw [this]
