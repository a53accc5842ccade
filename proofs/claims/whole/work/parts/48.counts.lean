/-! counts and sums (out of the kit's rows for pasting) -/
def fb_ct (p : Nat → Bool) : Nat → Nat
  | 0 => 0
  | n + 1 => fb_ct p n + (if p n then 1 else 0)
theorem fb_ct_succ (p : Nat → Bool) (n : Nat) : fb_ct p (n + 1) = fb_ct p n + (if p n then 1 else 0) := rfl
theorem fb_ct_le (p : Nat → Bool) : ∀ n, fb_ct p n ≤ n
  | 0 => Nat.le_refl _
  | n + 1 => by
    have h := fb_ct_le p n
    rw [fb_ct_succ]
    split <;> omega
theorem fb_ct_step (p : Nat → Bool) (m : Nat) : ∀ n, fb_ct p m ≤ fb_ct p (m + n)
  | 0 => Nat.le_refl _
  | n + 1 => by
    have h := fb_ct_step p m n
    show fb_ct p m ≤ fb_ct p (m + n + 1)
    rw [fb_ct_succ]
    omega
theorem fb_ct_mono (p : Nat → Bool) {m n : Nat} (h : m ≤ n) : fb_ct p m ≤ fb_ct p n := by
  have := fb_ct_step p m (n - m)
  rwa [Nat.add_sub_cancel' h] at this
theorem fb_ct_cong {p q : Nat → Bool} : ∀ {n : Nat}, (∀ k, k < n → p k = q k) → fb_ct p n = fb_ct q n
  | 0, _ => rfl
  | n + 1, h => by
    rw [fb_ct_succ, fb_ct_succ, fb_ct_cong (fun k hk => h k (by omega)), h n (by omega)]
/-- one place changed -/
theorem fb_ct_sub {p q : Nat → Bool} : ∀ {n : Nat}, (∀ k, k < n → p k = true → q k = true) → fb_ct p n ≤ fb_ct q n
  | 0, _ => Nat.le_refl _
  | n + 1, h => by
    have h1 := fb_ct_sub (n := n) (p := p) (q := q) (fun k hk => h k (by omega))
    have h2 := h n (by omega)
    rw [fb_ct_succ, fb_ct_succ]
    cases hp : p n <;> cases hq : q n <;> simp_all <;> omega
theorem fb_ct_not (p : Nat → Bool) : ∀ n, fb_ct p n + fb_ct (fun k => !p k) n = n
  | 0 => rfl
  | n + 1 => by
    have h := fb_ct_not p n
    rw [fb_ct_succ, fb_ct_succ]
    cases p n <;> simp <;> omega
theorem fb_ct_split (p : Nat → Bool) (m : Nat) : ∀ n, fb_ct p (m + n) = fb_ct p m + fb_ct (fun k => p (m + k)) n
  | 0 => rfl
  | n + 1 => by
    have h := fb_ct_split p m n
    show fb_ct p (m + n + 1) = _
    rw [fb_ct_succ, fb_ct_succ, h, Nat.add_assoc]
theorem fb_ct_zero {p : Nat → Bool} : ∀ {n : Nat}, fb_ct p n = 0 ↔ ∀ k, k < n → p k = false
  | 0 => ⟨fun _ k hk => absurd hk (Nat.not_lt_zero k), fun _ => rfl⟩
  | n + 1 => by
    have h := fb_ct_zero (p := p) (n := n)
    rw [fb_ct_succ]
    constructor
    · intro e k hk
      have e1 : fb_ct p n = 0 := by omega
      rcases Nat.lt_or_ge k n with q | q
      · exact h.mp e1 k q
      · have ek : k = n := by omega
        subst ek
        cases hp : p k
        · rfl
        · simp [hp] at e
    · intro a
      rw [h.mpr (fun k hk => a k (by omega)), a n (by omega)]
      rfl
theorem fb_ct_pos {p : Nat → Bool} {n : Nat} : 0 < fb_ct p n ↔ ∃ k, k < n ∧ p k = true := by
  constructor
  · intro h
    refine Classical.byContradiction fun hx => ?_
    have := fb_ct_zero.mpr (fun k hk => by
      cases hp : p k
      · rfl
      · exact absurd ⟨k, hk, hp⟩ hx : ∀ k, k < n → p k = false)
    omega
  · rintro ⟨k, hk, hp⟩
    rcases Nat.eq_zero_or_pos (fb_ct p n) with e | e
    · have := fb_ct_zero.mp e k hk
      rw [this] at hp
      cases hp
    · exact e
theorem fb_ct_all {p : Nat → Bool} {n : Nat} : fb_ct p n = n ↔ ∀ k, k < n → p k = true := by
  have h := fb_ct_not p n
  constructor
  · intro e k hk
    have z : fb_ct (fun k => !p k) n = 0 := by omega
    have := fb_ct_zero.mp z k hk
    cases hp : p k
    · simp [hp] at this
    · rfl
  · intro a
    have z : fb_ct (fun k => !p k) n = 0 := fb_ct_zero.mpr (fun k hk => by simp [a k hk])
    omega
/-- the k-th place with the property -/
def fb_sm (f : Nat → Nat) : Nat → Nat
  | 0 => 0
  | n + 1 => fb_sm f n + f n
theorem fb_sm_succ (f : Nat → Nat) (n : Nat) : fb_sm f (n + 1) = fb_sm f n + f n := rfl
theorem fb_sm_cong {f g : Nat → Nat} : ∀ {n : Nat}, (∀ k, k < n → f k = g k) → fb_sm f n = fb_sm g n
  | 0, _ => rfl
  | n + 1, h => by rw [fb_sm_succ, fb_sm_succ, fb_sm_cong (fun k hk => h k (by omega)), h n (by omega)]
theorem fb_sm_add (f g : Nat → Nat) : ∀ n, fb_sm (fun k => f k + g k) n = fb_sm f n + fb_sm g n
  | 0 => rfl
  | n + 1 => by
    have h := fb_sm_add f g n
    rw [fb_sm_succ, fb_sm_succ, fb_sm_succ, h]
    omega
theorem fb_sm_le {f g : Nat → Nat} : ∀ {n : Nat}, (∀ k, k < n → f k ≤ g k) → fb_sm f n ≤ fb_sm g n
  | 0, _ => Nat.le_refl _
  | n + 1, h => by
    have h1 := fb_sm_le (n := n) (f := f) (g := g) (fun k hk => h k (by omega))
    have h2 := h n (by omega)
    rw [fb_sm_succ, fb_sm_succ]
    omega
theorem fb_sm_const (c : Nat) : ∀ n, fb_sm (fun _ => c) n = n * c
  | 0 => by rw [Nat.zero_mul]; rfl
  | n + 1 => by rw [fb_sm_succ, fb_sm_const c n, Nat.succ_mul]
theorem fb_sm_bound {f : Nat → Nat} {c n : Nat} (h : ∀ k, k < n → f k ≤ c) : fb_sm f n ≤ n * c := by
  rw [← fb_sm_const c n]
  exact fb_sm_le h
theorem fb_sm_mono (f : Nat → Nat) (m : Nat) : ∀ n, fb_sm f m ≤ fb_sm f (m + n)
  | 0 => Nat.le_refl _
  | n + 1 => by
    have h := fb_sm_mono f m n
    show fb_sm f m ≤ fb_sm f (m + n + 1)
    rw [fb_sm_succ]
    omega
theorem fb_sm_part (f : Nat → Nat) {i n : Nat} (h : i < n) : fb_sm f i + f i ≤ fb_sm f n := by
  have := fb_sm_mono f (i + 1) (n - (i + 1))
  rw [fb_sm_succ, show i + 1 + (n - (i + 1)) = n by omega] at this
  exact this
theorem fb_sm_split (f : Nat → Nat) (m : Nat) : ∀ n, fb_sm f (m + n) = fb_sm f m + fb_sm (fun k => f (m + k)) n
  | 0 => rfl
  | n + 1 => by
    have h := fb_sm_split f m n
    show fb_sm f (m + n + 1) = _
    rw [fb_sm_succ, fb_sm_succ, h, Nat.add_assoc]
theorem fb_sm_zero {f : Nat → Nat} {n : Nat} (h : fb_sm f n = 0) : ∀ k, k < n → f k = 0 := fun k hk => by
  have := fb_sm_part f hk
  omega
/-- the same over whole numbers -/
def fb_si (f : Nat → Int) : Nat → Int
  | 0 => 0
  | n + 1 => fb_si f n + f n
theorem fb_si_succ (f : Nat → Int) (n : Nat) : fb_si f (n + 1) = fb_si f n + f n := rfl
theorem fb_si_cong {f g : Nat → Int} : ∀ {n : Nat}, (∀ k, k < n → f k = g k) → fb_si f n = fb_si g n
  | 0, _ => rfl
  | n + 1, h => by rw [fb_si_succ, fb_si_succ, fb_si_cong (fun k hk => h k (by omega)), h n (by omega)]
theorem fb_si_add (f g : Nat → Int) : ∀ n, fb_si (fun k => f k + g k) n = fb_si f n + fb_si g n
  | 0 => rfl
  | n + 1 => by
    have h := fb_si_add f g n
    rw [fb_si_succ, fb_si_succ, fb_si_succ, h]
    omega
theorem fb_si_sub (f g : Nat → Int) : ∀ n, fb_si (fun k => f k - g k) n = fb_si f n - fb_si g n
  | 0 => rfl
  | n + 1 => by
    have h := fb_si_sub f g n
    rw [fb_si_succ, fb_si_succ, fb_si_succ, h]
    omega
theorem fb_si_mul (c : Int) (f : Nat → Int) : ∀ n, fb_si (fun k => c * f k) n = c * fb_si f n
  | 0 => (Int.mul_zero c).symm
  | n + 1 => by
    have h := fb_si_mul c f n
    rw [fb_si_succ, fb_si_succ, h, Int.mul_add]
theorem fb_si_split (f : Nat → Int) (m : Nat) : ∀ n, fb_si f (m + n) = fb_si f m + fb_si (fun k => f (m + k)) n
  | 0 => (Int.add_zero _).symm
  | n + 1 => by
    have h := fb_si_split f m n
    show fb_si f (m + n + 1) = _
    rw [fb_si_succ, fb_si_succ, h, Int.add_assoc]
theorem fb_si_nat (f : Nat → Nat) : ∀ n, fb_si (fun k => (f k : Int)) n = (fb_sm f n : Int)
  | 0 => rfl
  | n + 1 => by
    have h := fb_si_nat f n
    rw [fb_si_succ, fb_sm_succ, h]
    omega
theorem fb_si_bound {f : Nat → Int} {c : Int} (hc : 0 ≤ c) : ∀ {n : Nat}, (∀ k, k < n → -c ≤ f k ∧ f k ≤ c) → -(n * c) ≤ fb_si f n ∧ fb_si f n ≤ n * c
  | 0, _ => by simp [fb_si]
  | n + 1, h => by
    have h1 := fb_si_bound (n := n) (f := f) hc (fun k hk => h k (by omega))
    have h2 := h n (by omega)
    have e : ((n + 1 : Nat) : Int) * c = n * c + c := by rw [Int.natCast_add, Int.add_mul]; simp
    rw [fb_si_succ, e]
    omega
/-! ===== bits of a long that isn't negative ===== -/
theorem fb_xorI (a b : Nat) : nI a ^^^ nI b = nI (a ^^^ b) := by
  apply Int32.toBitVec_inj.1
  show BitVec.ofNat 32 a ^^^ BitVec.ofNat 32 b = BitVec.ofNat 32 (a ^^^ b)
  apply BitVec.eq_of_getLsbD_eq
  intro i hi
  simp [hi]
theorem fb_rng (x : Int32) : -2147483648 ≤ x.toInt ∧ x.toInt < 2147483648 := by
  have h1 := Int32.le_toInt x
  have h2 := Int32.toInt_lt x
  omega
theorem fb_bmod {z : Int} (h1 : -2147483648 ≤ z) (h2 : z < 2147483648) : z.bmod (2 ^ 32) = z := by
  rw [Int.bmod_eq_of_le (by omega) (by omega)]
theorem i_or (a b : Nat) : nI a ||| nI b = nI (a ||| b) := by
  apply Int32.toBitVec_inj.1
  show BitVec.ofNat 32 a ||| BitVec.ofNat 32 b = BitVec.ofNat 32 (a ||| b)
  apply BitVec.eq_of_getLsbD_eq
  intro i hi
  simp [hi]
theorem i_and (a b : Nat) : nI a &&& nI b = nI (a &&& b) := by
  apply Int32.toBitVec_inj.1
  show BitVec.ofNat 32 a &&& BitVec.ofNat 32 b = BitVec.ofNat 32 (a &&& b)
  apply BitVec.eq_of_getLsbD_eq
  intro i hi
  simp [hi]
/-! the JDK's bitCount -/
theorem tb_split {a y i : Nat} (ha : a < 256) : (a + 256 * y).testBit i = if i < 8 then a.testBit i else y.testBit (i - 8) := by
  rw [show a + 256 * y = 2 ^ 8 * y + a by omega]
  exact Nat.testBit_two_pow_mul_add y ha i
theorem by_and {a y m M : Nat} (ha : a < 256) (hm : m < 256) : (a + 256 * y) &&& (m + 256 * M) = (a &&& m) + 256 * (y &&& M) := by
  apply Nat.eq_of_testBit_eq
  intro i
  have h3 : a &&& m < 256 := Nat.lt_of_le_of_lt Nat.and_le_left ha
  rw [Nat.testBit_and, tb_split ha, tb_split hm, tb_split h3]
  by_cases h : i < 8
  · simp only [if_pos h, Nat.testBit_and]
  · simp only [if_neg h, Nat.testBit_and]
theorem by_sh1 : ∀ a, a < 256 → ∀ z, z < 2 → (a / 2 + 128 * z) &&& 85 = a / 2 &&& 85 := by decide +kernel
theorem by_sh2 : ∀ a, a < 256 → ∀ z, z < 4 → (a / 4 + 64 * z) &&& 51 = a / 4 &&& 51 := by decide +kernel
/-- four bytes -/
def by4 (a b c d : Nat) : Nat := a + 256 * (b + 256 * (c + 256 * d))
theorem by4_and {a b c d : Nat} (m : Nat) (ha : a < 256) (hb : b < 256) (hc : c < 256) (hm : m < 256) : by4 a b c d &&& by4 m m m m = by4 (a &&& m) (b &&& m) (c &&& m) (d &&& m) := by
  unfold by4
  rw [by_and ha hm, by_and hb hm, by_and hc hm]
theorem by4_s1 {a b c d : Nat} (ha : a < 256) (hb : b < 256) (hc : c < 256) (hd : d < 256) : by4 a b c d / 2 &&& by4 85 85 85 85 = by4 (a / 2 &&& 85) (b / 2 &&& 85) (c / 2 &&& 85) (d / 2 &&& 85) := by
  have e : by4 a b c d / 2 = by4 (a / 2 + 128 * (b % 2)) (b / 2 + 128 * (c % 2)) (c / 2 + 128 * (d % 2)) (d / 2) := by unfold by4; omega
  rw [e, by4_and 85 (by omega) (by omega) (by omega) (by omega), by_sh1 a ha _ (by omega), by_sh1 b hb _ (by omega), by_sh1 c hc _ (by omega)]
theorem by4_s2 {a b c d : Nat} (ha : a < 256) (hb : b < 256) (hc : c < 256) (hd : d < 256) : by4 a b c d / 4 &&& by4 51 51 51 51 = by4 (a / 4 &&& 51) (b / 4 &&& 51) (c / 4 &&& 51) (d / 4 &&& 51) := by
  have e : by4 a b c d / 4 = by4 (a / 4 + 64 * (b % 4)) (b / 4 + 64 * (c % 4)) (c / 4 + 64 * (d % 4)) (d / 4) := by unfold by4; omega
  rw [e, by4_and 51 (by omega) (by omega) (by omega) (by omega), by_sh2 a ha _ (by omega), by_sh2 b hb _ (by omega), by_sh2 c hc _ (by omega)]
def bs1 (a : Nat) : Nat := a - (a / 2 &&& 85)
def bs2 (a : Nat) : Nat := (bs1 a &&& 51) + (bs1 a / 4 &&& 51)
theorem bs1_le : ∀ a, a < 256 → (a / 2 &&& 85) ≤ a ∧ bs1 a < 256 := by decide +kernel
theorem bs2_le : ∀ a, a < 256 → bs2 a % 16 ≤ 4 ∧ bs2 a / 16 ≤ 4 := by decide +kernel
theorem bs3 : ∀ a, a < 256 → (bs2 a + bs2 a / 16) % 16 = fb_ct (fun i => a.testBit i) 8 := by decide +kernel
theorem and15 : ∀ e, e < 256 → e &&& 15 = e % 16 := by decide +kernel
theorem ct_by4 {a b c d : Nat} (ha : a < 256) (hb : b < 256) (hc : c < 256) (hd : d < 256) : fb_ct (fun i => (by4 a b c d).testBit i) 32 = fb_ct (fun i => a.testBit i) 8 + (fb_ct (fun i => b.testBit i) 8 + (fb_ct (fun i => c.testBit i) 8 + fb_ct (fun i => d.testBit i) 8)) := by
  have one : ∀ a y n, a < 256 → fb_ct (fun i => (a + 256 * y).testBit i) (8 + n) = fb_ct (fun i => a.testBit i) 8 + fb_ct (fun i => y.testBit i) n := by
    intro a y n ha
    rw [fb_ct_split]
    congr 1
    · exact fb_ct_cong (fun k hk => by rw [tb_split ha, if_pos hk])
    · exact fb_ct_cong (fun k hk => by rw [tb_split ha, if_neg (by omega), Nat.add_sub_cancel_left])
  unfold by4
  rw [show 32 = 8 + 24 by rfl, one _ _ _ ha, show 24 = 8 + 16 by rfl, one _ _ _ hb, show 16 = 8 + 8 by rfl, one _ _ _ hc]
theorem us_sh (k : Nat) (hk : k < 32) : (((nI k).toUInt32 &&& Int32.toUInt32 31).toBitVec % 32).toNat = k := by
  have : ∀ k, k < 32 → (((nI k).toUInt32 &&& Int32.toUInt32 31).toBitVec % 32).toNat = k := by decide +kernel
  exact this k hk
theorem m16 {p : Nat} (h : p % 16 ≤ 4 ∧ p / 16 ≤ 4) : (p + p / 16) % 16 ≤ 8 := by
  obtain ⟨u, v, hv, rfl⟩ : ∃ u v, v < 16 ∧ p = 16 * u + v := ⟨p / 16, p % 16, by omega, by omega⟩
  have e1 : (16 * u + v) / 16 = u := by omega
  have e2 : (16 * u + v) % 16 = v := by omega
  rw [e1, e2] at h
  rw [e1]
  have : 16 * u + v + u = (u + v) + 16 * u := by omega
  rw [this, Nat.add_mul_mod_self_left]
  omega
theorem sp_bitCount {σ : Hp} {w : Nat} {P : Int32 → Hp → Prop} (hw : w < 2 ^ 32) (h : P (nI (fb_ct (fun i => w.testBit i) 32)) σ) : wp_JI_bitCount σ (nI w) P := by
  obtain ⟨a, b, c, d, ha, hb, hc, hd, rfl⟩ : ∃ a b c d, a < 256 ∧ b < 256 ∧ c < 256 ∧ d < 256 ∧ w = by4 a b c d := ⟨w % 256, w / 256 % 256, w / 65536 % 256, w / 16777216, by omega, by omega, by omega, by omega, by unfold by4; omega⟩
  rw [ct_by4 ha hb hc hd, ← bs3 a ha, ← bs3 b hb, ← bs3 c hc, ← bs3 d hd] at h
  have a1 := bs1_le a ha; have b1 := bs1_le b hb; have c1 := bs1_le c hc; have d1 := bs1_le d hd
  have a2 := bs2_le a ha; have b2 := bs2_le b hb; have c2 := bs2_le c hc; have d2 := bs2_le d hd
  intro v1 e1 v2 e2 v3 e3 v4 e4 v5 e5
  have f1 : v1 = nI (by4 (bs1 a) (bs1 b) (bs1 c) (bs1 d)) := by
    rw [e1, show ((1 : Int32)) = nI 1 from rfl, pk_ushrN hw (nI 1) 1 (us_sh 1 (by decide)), show (1431655765 : Int32) = nI (by4 85 85 85 85) from rfl, i_and, show by4 a b c d / 2 ^ 1 = by4 a b c d / 2 from rfl, by4_s1 ha hb hc hd, pk_sub (by unfold by4; omega)]
    congr 1
    unfold bs1 by4; omega
  have f2 : v2 = nI (by4 (bs2 a) (bs2 b) (bs2 c) (bs2 d)) := by
    rw [e2, f1, show ((2 : Int32)) = nI 2 from rfl, pk_ushrN (by unfold by4; omega) (nI 2) 2 (us_sh 2 (by decide)), show (858993459 : Int32) = nI (by4 51 51 51 51) from rfl, i_and, i_and, show by4 (bs1 a) (bs1 b) (bs1 c) (bs1 d) / 2 ^ 2 = by4 (bs1 a) (bs1 b) (bs1 c) (bs1 d) / 4 from rfl, by4_s2 a1.2 b1.2 c1.2 d1.2, by4_and 51 a1.2 b1.2 c1.2 (by omega), nI_add]
    congr 1
    unfold bs2 by4; omega
  generalize bs2 a = p at h f2 a2
  generalize bs2 b = q at h f2 b2
  generalize bs2 c = r at h f2 c2
  generalize bs2 d = s at h f2 d2
  have f3 : v3 = nI (by4 ((p + p / 16) % 16) ((q + q / 16) % 16) ((r + r / 16) % 16) ((s + s / 16) % 16)) := by
    rw [e3, f2, show ((4 : Int32)) = nI 4 from rfl, pk_ushrN (by unfold by4; omega) (nI 4) 4 (us_sh 4 (by decide)), show (252645135 : Int32) = nI (by4 15 15 15 15) from rfl, nI_add, i_and, show by4 p q r s + by4 p q r s / 2 ^ 4 = by4 (p + p / 16 + 16 * (q % 16)) (q + q / 16 + 16 * (r % 16)) (r + r / 16 + 16 * (s % 16)) (s + s / 16) by unfold by4; omega, by4_and 15 (by omega) (by omega) (by omega) (by omega), and15 _ (by omega), and15 _ (by omega), and15 _ (by omega), and15 _ (by omega)]
    congr 1
    unfold by4; omega
  have p3 : (p + p / 16) % 16 ≤ 8 := m16 a2
  have q3 : (q + q / 16) % 16 ≤ 8 := m16 b2
  have r3 : (r + r / 16) % 16 ≤ 8 := m16 c2
  have s3 : (s + s / 16) % 16 ≤ 8 := m16 d2
  generalize (p + p / 16) % 16 = x at h f3 p3
  generalize (q + q / 16) % 16 = y at h f3 q3
  generalize (r + r / 16) % 16 = z at h f3 r3
  generalize (s + s / 16) % 16 = t at h f3 s3
  have f4 : v4 = nI (by4 (x + y) (y + z) (z + t) t) := by
    rw [e4, f3, show ((8 : Int32)) = nI 8 from rfl, pk_ushrN (by unfold by4; omega) (nI 8) 8 (us_sh 8 (by decide)), nI_add]
    congr 1
    unfold by4; omega
  have f5 : v5 = nI (by4 (x + y + z + t) (y + z + t) (z + t) t) := by
    rw [e5, f4, show ((16 : Int32)) = nI 16 from rfl, pk_ushrN (by unfold by4; omega) (nI 16) 16 (us_sh 16 (by decide)), nI_add]
    congr 1
    unfold by4; omega
  have f6 : v5 &&& 63 = nI (x + (y + (z + t))) := by
    rw [f5, show (63 : Int32) = nI (2 ^ 6 - 1) from rfl, i_and, Nat.and_two_pow_sub_one_eq_mod]
    congr 1
    unfold by4; omega
  rw [f6]
  exact h
