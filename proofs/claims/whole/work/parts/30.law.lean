/-! the law's frame: both worlds -/
def AL (w v : Wd) : Nat → Prop := fun q => AW μC w q ∨ AW μR v q
def VL (w v : Wd) (κ : Kx) (σ τ : Hp) (lo : List (Option Value)) (pc : Nat) (stk : List Value) : Prop :=
  match κ with
  | (p, l, e, R, s, m, args, below, meth, c, Q, kc, ks) => ∀ (H : Heap) (locs : List Loc) (ls : Array Slot), va_P w.2.2.2.2 classes (cels shC w σ) H → va_P v.2.2.2.2 classes (cels shR v τ) H → va_S (AL w v) s.heap H locs → lhas ls 4 lo → W p l e R s m args below meth c H locs kc ks Q (F0 m pc ls stk)
def CxL (w v : Wd) (κ : Kx) (b L : Nat) (xs : Nat → Int32) : Prop :=
  match κ with
  | (p, l, e, R, s, m, args, below, meth, c, Q, kc, ks) => (p.tables.exec = Jvm.exec ∧ c.code = code ∧ c.maxLocals = 4 ∧ s.vm.findClass "SoundPaidLaw" = some m.cls ∧ (∀ x ∈ tbl, x.before args s = true)) ∧ (va_K w.2.2.2.2 classes (tysW w) s ∧ va_K v.2.2.2.2 classes (tysW v) s ∧ Inj μC w ∧ Inj μR v) ∧ ((∀ i j, i < shC.length → j < shR.length → w.1 i ≠ v.1 j) ∧ (∀ i, i < shC.length → s.heap.size ≤ w.1 i) ∧ (∀ j, j < shR.length → s.heap.size ≤ v.1 j)) ∧ ExC w (fun q => s.heap.size ≤ q) s s.heap ∧ (va_X b L xs s s.heap ∧ b < s.heap.size) ∧ (20 ≤ R.frames ∧ 64 * 20 ≤ R.locals ∧ kc ≤ R.cells ∧ ks ≤ R.slots) ∧ (L ≤ 3072 ∧ (∀ (H : Heap) (locs : List Loc) (ls : Array Slot) (pc : Nat), va_S (AL w v) s.heap H locs → decode code pc = .ok (.ireturn, 1) → W p l e R s m args below meth c H locs kc ks Q (F0 m pc ls [.int 1])))
section LAWR
variable {w v : Wd} {κ : Kx} {σ τ : Hp} {lo : List (Option Value)} {pc : Nat} {r : List Value} {b L : Nat} {xs : Nat → Int32}
theorem VL.iconst (hC : CxL w v κ b L xs) {n : Int} {z : Int32} (hd : decode code pc = .ok (.iconst n, 1)) (hv : Int32.ofInt n = z) (k : VL w v κ σ τ lo (pc + 1) (.int z :: r)) : VL w v κ σ τ lo pc (r) := by
  obtain ⟨p, l, e, R, s, m, args, below, meth, c, Q, kc, ks⟩ := κ
  exact fun H locs ls hP hP2 hS hl => lv_iconst hC.1.1 hC.1.2.1 hd hv (k H locs ls hP hP2 hS hl)
theorem VL.bipush (hC : CxL w v κ b L xs) {n : Int} {z : Int32} (hd : decode code pc = .ok (.bipush n, 2)) (hv : (Int8.ofInt n).toInt32 = z) (k : VL w v κ σ τ lo (pc + 2) (.int z :: r)) : VL w v κ σ τ lo pc (r) := by
  obtain ⟨p, l, e, R, s, m, args, below, meth, c, Q, kc, ks⟩ := κ
  exact fun H locs ls hP hP2 hS hl => lv_bipush hC.1.1 hC.1.2.1 hd hv (k H locs ls hP hP2 hS hl)
theorem VL.iload_n (hC : CxL w v κ b L xs) {j : Fin 4} {i : Nat} {x : Int32} (hd : decode code pc = .ok (.iload_n j, 1)) (hi : (j : Nat) = i) (h : lo[i]? = some (some (.int x))) (k : VL w v κ σ τ lo (pc + 1) (.int x :: r)) : VL w v κ σ τ lo pc (r) := by
  obtain ⟨p, l, e, R, s, m, args, below, meth, c, Q, kc, ks⟩ := κ
  exact fun H locs ls hP hP2 hS hl => lv_iload_n hC.1.1 hC.1.2.1 hd hi (lhas_at hl h) (k H locs ls hP hP2 hS hl)
theorem VL.aload_n (hC : CxL w v κ b L xs) {j : Fin 4} {i x : Nat} (hd : decode code pc = .ok (.aload_n j, 1)) (hi : (j : Nat) = i) (h : lo[i]? = some (some (.ref x))) (k : VL w v κ σ τ lo (pc + 1) (.ref x :: r)) : VL w v κ σ τ lo pc (r) := by
  obtain ⟨p, l, e, R, s, m, args, below, meth, c, Q, kc, ks⟩ := κ
  exact fun H locs ls hP hP2 hS hl => lv_aload_n hC.1.1 hC.1.2.1 hd hi (lhas_at hl h) (k H locs ls hP hP2 hS hl)
theorem VL.iadd (hC : CxL w v κ b L xs) {x y : Int32} (hd : decode code pc = .ok (.iadd, 1)) (k : VL w v κ σ τ lo (pc + 1) (.int (x + y) :: r)) : VL w v κ σ τ lo pc (.int y :: .int x :: r) := by
  obtain ⟨p, l, e, R, s, m, args, below, meth, c, Q, kc, ks⟩ := κ
  exact fun H locs ls hP hP2 hS hl => lv_iadd hC.1.1 hC.1.2.1 hd (k H locs ls hP hP2 hS hl)
theorem VL.isub (hC : CxL w v κ b L xs) {x y : Int32} (hd : decode code pc = .ok (.isub, 1)) (k : VL w v κ σ τ lo (pc + 1) (.int (x - y) :: r)) : VL w v κ σ τ lo pc (.int y :: .int x :: r) := by
  obtain ⟨p, l, e, R, s, m, args, below, meth, c, Q, kc, ks⟩ := κ
  exact fun H locs ls hP hP2 hS hl => lv_isub hC.1.1 hC.1.2.1 hd (k H locs ls hP hP2 hS hl)
theorem VL.iand (hC : CxL w v κ b L xs) {x y : Int32} (hd : decode code pc = .ok (.iand, 1)) (k : VL w v κ σ τ lo (pc + 1) (.int (x &&& y) :: r)) : VL w v κ σ τ lo pc (.int y :: .int x :: r) := by
  obtain ⟨p, l, e, R, s, m, args, below, meth, c, Q, kc, ks⟩ := κ
  exact fun H locs ls hP hP2 hS hl => lv_iand hC.1.1 hC.1.2.1 hd (k H locs ls hP hP2 hS hl)
theorem VL.lcmp (hC : CxL w v κ b L xs) {x y : Int64} (hd : decode code pc = .ok (.lcmp, 1)) (k : VL w v κ σ τ lo (pc + 1) (.int (lg_cmp x y) :: r)) : VL w v κ σ τ lo pc (.long y :: .long x :: r) := by
  obtain ⟨p, l, e, R, s, m, args, below, meth, c, Q, kc, ks⟩ := κ
  exact fun H locs ls hP hP2 hS hl => W.lcmp hC.1.1 hC.1.2.1 hd (k H locs ls hP hP2 hS hl)
theorem L_out (hC : CxL w v κ b L xs) : match κ with | (p, l, e, R, s, m, args, below, meth, c, Q, kc, ks) => ¬ AL w v b := by
  obtain ⟨p, l, e, R, s, m, args, below, meth, c, Q, kc, ks⟩ := κ
  intro h
  obtain ⟨-, -, ⟨-, h1, h2⟩, -, ⟨-, hb⟩, -⟩ := hC
  rcases h with ⟨i, hi, e⟩ | ⟨i, hi, e⟩
  · have := h1 i hi
    rw [← e] at this
    exact absurd hb (Nat.not_lt.mpr this)
  · have := h2 i hi
    rw [← e] at this
    exact absurd hb (Nat.not_lt.mpr this)
theorem VL.slen (hC : CxL w v κ b L xs) (hd : decode code pc = .ok (.arraylength, 1)) (k : VL w v κ σ τ lo (pc + 1) (.int (nI L) :: r)) : VL w v κ σ τ lo pc (.ref b :: r) := by
  obtain ⟨p, l, e, R, s, m, args, below, meth, c, Q, kc, ks⟩ := κ
  exact fun H locs ls hP hP2 hS hl => va_slen hC.1.1 hC.1.2.1 hC.2.2.2.2.1.1 hC.2.2.2.2.1.2 (L_out hC) hS hd (k H locs ls hP hP2 hS hl)
theorem VL.sld (hC : CxL w v κ b L xs) {i : Int32} (hd : decode code pc = .ok (.iaload, 1)) (hin : vp_in i L) (k : VL w v κ σ τ lo (pc + 1) (.int (xs i.toNatClampNeg) :: r)) : VL w v κ σ τ lo pc (.int i :: .ref b :: r) := by
  obtain ⟨p, l, e, R, s, m, args, below, meth, c, Q, kc, ks⟩ := κ
  exact fun H locs ls hP hP2 hS hl => va_sld hC.1.1 hC.1.2.1 hC.2.2.2.2.1.1 hC.2.2.2.2.1.2 (L_out hC) hS hin hd (k H locs ls hP hP2 hS hl)
theorem VL.iinc (hC : CxL w v κ b L xs) {i : Nat} {n : Int} {x y : Int32} {lo' : List (Option Value)} (hd : decode code pc = .ok (.iinc i n, 3)) (hn : Nat.ble (i + 1) 4 = true) (hx : lo[i]? = some (some (.int x))) (hy : y = x + Int32.ofInt n) (h : sto1 lo i (.int y) = lo') (k : VL w v κ σ τ lo' (pc + 3) r) : VL w v κ σ τ lo pc r := by
  obtain ⟨p, l, e, R, s, m, args, below, meth, c, Q, kc, ks⟩ := κ
  subst h
  obtain ⟨k0, hk0⟩ := asl_place lo 0 i _ hx
  rw [Nat.zero_add] at hk0
  exact fun H locs ls hP hP2 hS hl => lv_iinc hC.1.1 hC.1.2.1 hd hl hk0 hy.symm (Nat.le_of_ble_eq_true hn) rfl (fun ls' hl' => k H locs ls' hP hP2 hS (lhas_sto1 hl'))
theorem VL.goto (hC : CxL w v κ b L xs) {off : Int} {tgt : Nat} (hd : decode code pc = .ok (.goto off, 3)) (ht : (pc : Int) + off = (tgt : Int)) (k : VL w v κ σ τ lo tgt r) : VL w v κ σ τ lo pc r := by
  obtain ⟨p, l, e, R, s, m, args, below, meth, c, Q, kc, ks⟩ := κ
  exact fun H locs ls hP hP2 hS hl => lv_goto hC.1.1 hC.1.2.1 hd ht (k H locs ls hP hP2 hS hl)
theorem VL.icmp_gt (hC : CxL w v κ b L xs) {x y : Int32} {off : Int} {tgt : Nat} (hd : decode code pc = .ok (.if_icmp .gt off, 3)) (ht : (pc : Int) + off = (tgt : Int)) (kt : y < x → VL w v κ σ τ lo tgt r) (kf : ¬ y < x → VL w v κ σ τ lo (pc + 3) r) : VL w v κ σ τ lo pc (.int y :: .int x :: r) := by
  obtain ⟨p, l, e, R, s, m, args, below, meth, c, Q, kc, ks⟩ := κ
  exact fun H locs ls hP hP2 hS hl => lv_icmp_gt hC.1.1 hC.1.2.1 hd ht (fun z => kt z H locs ls hP hP2 hS hl) (fun z => kf z H locs ls hP hP2 hS hl)
theorem VL.icmp_eq (hC : CxL w v κ b L xs) {x y : Int32} {off : Int} {tgt : Nat} (hd : decode code pc = .ok (.if_icmp .eq off, 3)) (ht : (pc : Int) + off = (tgt : Int)) (hxy : x = y) (kt : VL w v κ σ τ lo tgt r) : VL w v κ σ τ lo pc (.int y :: .int x :: r) := by
  obtain ⟨p, l, e, R, s, m, args, below, meth, c, Q, kc, ks⟩ := κ
  exact fun H locs ls hP hP2 hS hl => lv_icmp_eq hC.1.1 hC.1.2.1 hd ht (fun z => kt H locs ls hP hP2 hS hl) (fun z => absurd hxy z)
theorem VL.if_eq (hC : CxL w v κ b L xs) {x : Int32} {off : Int} {tgt : Nat} (hd : decode code pc = .ok (.ifCond .eq off, 3)) (ht : (pc : Int) + off = (tgt : Int)) (hxy : x = 0) (kt : VL w v κ σ τ lo tgt r) : VL w v κ σ τ lo pc (.int x :: r) := by
  obtain ⟨p, l, e, R, s, m, args, below, meth, c, Q, kc, ks⟩ := κ
  exact fun H locs ls hP hP2 hS hl => lv_if_eq hC.1.1 hC.1.2.1 hd ht (fun z => kt H locs ls hP hP2 hS hl) (fun z => absurd hxy z)
theorem VL.tabOut (hC : CxL w v κ b L xs) {df lw hg : Int} {offs : Array Int} {len : Nat} {x : Int32} {tgt : Nat} (hd : decode code pc = .ok (.tableswitch df lw hg offs, len)) (h : x.toInt < lw ∨ hg < x.toInt) (ht : (pc : Int) + df = (tgt : Int)) (k : VL w v κ σ τ lo tgt r) : VL w v κ σ τ lo pc (.int x :: r) := by
  obtain ⟨p, l, e, R, s, m, args, below, meth, c, Q, kc, ks⟩ := κ
  exact fun H locs ls hP hP2 hS hl => lv_tableOut hC.1.1 hC.1.2.1 hd h ht (k H locs ls hP hP2 hS hl)
theorem VL.tabIn (hC : CxL w v κ b L xs) {df lw hg off : Int} {offs : Array Int} {len : Nat} {x : Int32} {tgt : Nat} (hd : decode code pc = .ok (.tableswitch df lw hg offs, len)) (h1 : ¬ x.toInt < lw) (h2 : ¬ hg < x.toInt) (ho : offs[(x.toInt - lw).toNat]? = some off) (ht : (pc : Int) + off = (tgt : Int)) (k : VL w v κ σ τ lo tgt r) : VL w v κ σ τ lo pc (.int x :: r) := by
  obtain ⟨p, l, e, R, s, m, args, below, meth, c, Q, kc, ks⟩ := κ
  exact fun H locs ls hP hP2 hS hl => lv_tableIn hC.1.1 hC.1.2.1 hd h1 h2 ho ht (k H locs ls hP hP2 hS hl)
theorem VL.one (hC : CxL w v κ b L xs) (hd : decode code pc = .ok (.ireturn, 1)) : VL w v κ σ τ lo pc [.int 1] := by
  obtain ⟨p, l, e, R, s, m, args, below, meth, c, Q, kc, ks⟩ := κ
  exact fun H locs ls hP hP2 hS hl => hC.2.2.2.2.2.2.2 H locs ls pc hS hd
/-- a number of the script: five instructions -/
theorem VL.sarg (hC : CxL w v κ b L xs) {i j : Nat} {jz : Int} (h0 : decode code pc = .ok (.aload_n 0, 1)) (h1 : decode code (pc + 1) = .ok (.iload_n 3, 1)) (h2 : decode code (pc + 2) = .ok (.iconst jz, 1)) (h3 : decode code (pc + 3) = .ok (.iadd, 1)) (h4 : decode code (pc + 4) = .ok (.iaload, 1)) (hj : Int32.ofInt jz = nI j) (hij : i + j < L) (l0 : lo[0]? = some (some (.ref b))) (l3 : lo[3]? = some (some (.int (nI i)))) (k : VL w v κ σ τ lo (pc + 5) (.int (xs (i + j)) :: r)) : VL w v κ σ τ lo pc r := by
  have hL : L ≤ 3072 := by
    obtain ⟨p, l, e, R, s, m, args, below, meth, c, Q, kc, ks⟩ := κ
    exact hC.2.2.2.2.2.2.1
  refine VL.aload_n hC h0 rfl l0 ?_
  refine VL.iload_n hC h1 rfl l3 ?_
  refine VL.iconst hC h2 hj ?_
  refine VL.iadd hC h3 ?_
  rw [nI_add]
  refine VL.sld hC h4 (vp_in_nI hij (by omega)) ?_
  rw [nI_clamp (show i + j < 2 ^ 31 by omega)]
  exact k
theorem ExC_narrow {A B : Nat → Prop} {U : State} {H : Heap} (h : ExC w A U H) (hAB : ∀ q, B q → A q) : ExC w B U H := by
  obtain ⟨h1, h2, h3, h4, h5⟩ := h
  exact ⟨h1, h2.narrow hAB, h3.narrow hAB, h4.narrow hAB, h5.narrow hAB⟩
theorem W_ofRunL {p : Program} {l : Launch} {e : Env} {R : Room} {s : State} {m : MethodId} {args : Array Value} {below : List Frame} {meth : Method} {c : Code} {Q : State → Prop} {kc ks : Nat} {H : Heap} {locs : List Loc} {ls : Array Slot} {stk rest : List Value} {a : Array Value} {P : Option Value → Hp → Prop} {μ : Wk} {u : Wd}
    (hr : va_Run p l e R s m args below meth c H locs kc ks 0 0 (F0 m pc ls stk) rest (QcW μ u P a) (AW μ u)) (hS : va_S (AL w v) s.heap H locs) (hA : ∀ q, AW μ u q → AL w v q)
    (kk : ∀ (z : Option Value) (ρ : Hp) (H1 : Heap) (locs1 : List Loc), P z ρ → va_P u.2.2.2.2 classes (cels μ.1 u ρ) H1 → (∀ q, q < H.size → ¬ AW μ u q → H1[q]? = H[q]?) → va_S (AL w v) s.heap H1 locs1 → W p l e R s m args below meth c H1 locs1 kc ks Q (F0 m (pc + 3) ls (z.toList ++ rest))) : W p l e R s m args below meth c H locs kc ks Q (F0 m pc ls stk) := by
  intro T hT X
  obtain ⟨z, st₀, t, T', L, h0, X', hL, e1, e2, ⟨⟨v', ρ, hv, hp, hb⟩, hz, hk⟩, stp⟩ := hr T hT X
  cases hv
  rw [h0] at hz hk
  obtain ⟨t2, a1, b1⟩ := kk z ρ T'.heap (locs ++ L) hp (by rw [e1]; exact hb) (fun q h1 h2 => by rw [e1]; exact hk q h1 h2)
    ⟨Nat.le_trans hS.1 (by rw [e1]; exact hz), fun q h1 h2 => by rw [e1, hk q (Nat.lt_of_lt_of_le h1 hS.1) (fun z => h2 (hA q z))]; exact hS.2.1 q h1 h2, fun q hq => by
      rcases List.mem_append.mp hq with h | h
      · exact hS.2.2 q h
      · exact hA _ (hL q h)⟩ T' rfl X'
  exact ⟨t2, stp t2 a1, b1⟩
theorem cels_at {sh : List Shp} {u : Wd} {ρ : Hp} {k : Nat} {q : Nat × va_E} (h : (cels sh u ρ)[k]? = some q) : k < sh.length ∧ q.1 = u.1 k := by
  simp only [cels, List.getElem?_mapIdx, Option.map_eq_some_iff] at h
  obtain ⟨x, h1, h2⟩ := h
  exact ⟨(List.getElem?_eq_some_iff.mp h1).1, by rw [← h2]⟩
theorem VL.callC (hC : CxL w v κ b L xs) {i n n2 d2 : Nat} {y : MethodName} {c2 : ByteArray} {ret : Option FieldType} {As : List Value} {P : Option Value → Hp → Prop} {stk : List Value}
    (hM : Ct μC w y c2 n2 ret d2 (.ref (w.1 0) :: As) σ P) (hd : decode code pc = .ok (.invokevirtual i, 3)) (hy : MokV y c2 n2 ret n) (hw : Cond.methodLink "SoundPaidLaw" i y ∈ tbl) (hcls : y.cls = nC7) (hn : As.length = n) (hst : stk = As.reverse ++ .ref (w.1 0) :: r) (hroom : Nat.ble (d2 + 1) 20 = true) (hloc : Nat.ble n2 45 = true) (hW : (r.map fun v => v.category).sum ≤ 8)
    (k : ∀ z ρ, P z ρ → VL w v κ ρ τ lo (pc + 3) (z.toList ++ r)) : VL w v κ σ τ lo pc stk := by
  obtain ⟨p, l, e, R, s, m, args, below, meth, c, Q, kc, ks⟩ := κ
  intro H locs ls hP hP2 hS hl
  have hR := Nat.le_of_ble_eq_true hroom
  have hL := Nat.le_of_ble_eq_true hloc
  obtain ⟨⟨hx, hb, hml, hown, hts⟩, ⟨hK, hK2, hI, hI2⟩, ⟨hd1, hg1, hg2⟩, hX, -, ⟨hf, hlo, hkc, hks⟩, -⟩ := id hC
  have hpre : ∀ U : State, U.heap = H → s.WarmedH U.vm → PcW μC w (.ref (w.1 0) :: As) σ (Value.ref (w.1 0) :: As).toArray U := by
    intro U hU hWm
    refine ⟨rfl, by rw [hU]; exact hP, va_K.moved hWm.alike hK, hI, exC, ExC_narrow (exC w (fun q => s.heap.size ≤ q) s U hWm (fun q h1 h2 => ?_) hX) ?_⟩
    · rw [hU]
      refine hS.2.1 q h1 (fun z => ?_)
      rcases z with ⟨j, hj, e1⟩ | ⟨j, hj, e1⟩
      · exact h2 (by rw [e1]; exact hg1 j hj)
      · exact h2 (by rw [e1]; exact hg2 j hj)
    · rintro q ⟨j, hj, e1⟩
      rw [e1]; exact hg1 j hj
  refine W_ofRunL (w := w) (v := v) (va_runV (Ts := tbl) (As := As) (rest := r) ⟨hx, hb, hml, hown, hts⟩ (hM l) (C := nC7) ⟨⟨rfl, rfl, ?_, ?_, ws_pay hts hy.1.1, List.mem_cons_self, hts _ hy.1.1, hts _ hy.1.2, hy.2.2.1, arity_of hy.2.2.2, hts _ hw⟩, hts _ hy.2.1.1, by rw [← hcls]; exact hts _ hy.2.1.2.2⟩ ⟨PcW_blind _ _, va_recv (q := (nC7, fC7, 10)) hK hP rfl (cels_get (sh := shC) (o := 0) rfl), hpre⟩ rfl hn hl.1 hst (lv_room hW) hd ⟨hkc, hks⟩) hS (fun q z => Or.inl z) (fun z ρ H1 locs1 hp hP1 hk1 hS1 => k z ρ hp H1 locs1 ls hP1 (hP2.kept (fun j q hq => ?_)) hS1 hl)
  · exact Nat.le_trans hR hf
  · refine Nat.le_trans ?_ hlo
    show 8 + (n2 + 11) + 64 * d2 ≤ 64 * 20
    omega
  · obtain ⟨a1, a2⟩ := cels_at hq
    refine hk1 _ (hP2 j q hq).lt ?_
    rintro ⟨i, hi, e1⟩
    exact hd1 i j hi a1 (by rw [← e1, a2])
theorem VL.callR (hC : CxL w v κ b L xs) {i n n2 d2 : Nat} {y : MethodName} {c2 : ByteArray} {ret : Option FieldType} {As : List Value} {P : Option Value → Hp → Prop} {stk : List Value}
    (hM : Ct μR v y c2 n2 ret d2 (.ref (v.1 0) :: As) τ P) (hd : decode code pc = .ok (.invokevirtual i, 3)) (hy : MokV y c2 n2 ret n) (hw : Cond.methodLink "SoundPaidLaw" i y ∈ tbl) (hcls : y.cls = nC8) (hn : As.length = n) (hst : stk = As.reverse ++ .ref (v.1 0) :: r) (hroom : Nat.ble (d2 + 1) 20 = true) (hloc : Nat.ble n2 45 = true) (hW : (r.map fun v => v.category).sum ≤ 8)
    (k : ∀ z ρ, P z ρ → VL w v κ σ ρ lo (pc + 3) (z.toList ++ r)) : VL w v κ σ τ lo pc stk := by
  obtain ⟨p, l, e, R, s, m, args, below, meth, c, Q, kc, ks⟩ := κ
  intro H locs ls hP hP2 hS hl
  have hR := Nat.le_of_ble_eq_true hroom
  have hL := Nat.le_of_ble_eq_true hloc
  obtain ⟨⟨hx, hb, hml, hown, hts⟩, ⟨hK, hK2, hI, hI2⟩, ⟨hd1, hg1, hg2⟩, hX, -, ⟨hf, hlo, hkc, hks⟩, -⟩ := id hC
  have hpre : ∀ U : State, U.heap = H → s.WarmedH U.vm → PcW μR v (.ref (v.1 0) :: As) τ (Value.ref (v.1 0) :: As).toArray U := by
    intro U hU hWm
    exact ⟨rfl, by rw [hU]; exact hP2, va_K.moved hWm.alike hK2, hI2, exR, trivial⟩
  refine W_ofRunL (w := w) (v := v) (va_runV (Ts := tbl) (As := As) (rest := r) ⟨hx, hb, hml, hown, hts⟩ (hM l) (C := nC8) ⟨⟨rfl, rfl, ?_, ?_, ws_pay hts hy.1.1, List.mem_cons_self, hts _ hy.1.1, hts _ hy.1.2, hy.2.2.1, arity_of hy.2.2.2, hts _ hw⟩, hts _ hy.2.1.1, by rw [← hcls]; exact hts _ hy.2.1.2.2⟩ ⟨PcW_blind _ _, va_recv (q := (nC8, fC8, 35)) hK2 hP2 rfl (cels_get (sh := shR) (o := 0) rfl), hpre⟩ rfl hn hl.1 hst (lv_room hW) hd ⟨hkc, hks⟩) hS (fun q z => Or.inr z) (fun z ρ H1 locs1 hp hP1 hk1 hS1 => k z ρ hp H1 locs1 ls (hP.kept (fun j q hq => ?_)) hP1 hS1 hl)
  · exact Nat.le_trans hR hf
  · refine Nat.le_trans ?_ hlo
    show 8 + (n2 + 11) + 64 * d2 ≤ 64 * 20
    omega
  · obtain ⟨a1, a2⟩ := cels_at hq
    refine hk1 _ (hP j q hq).lt ?_
    rintro ⟨i, hi, e1⟩
    exact hd1 j i a1 hi (by rw [← a2, e1])
theorem VL.callCI (hC : CxL w v κ b L xs) {i n n2 d2 : Nat} {y : MethodName} {c2 : ByteArray} {ret : Option FieldType} {As : List Value} {P : Int32 → Hp → Prop} {stk : List Value}
    (hM : CtI μC w y c2 n2 ret d2 (.ref (w.1 0) :: As) σ P) (hd : decode code pc = .ok (.invokevirtual i, 3)) (hy : MokV y c2 n2 ret n) (hw : Cond.methodLink "SoundPaidLaw" i y ∈ tbl) (hcls : y.cls = nC7) (hn : As.length = n) (hst : stk = As.reverse ++ .ref (w.1 0) :: r) (hroom : Nat.ble (d2 + 1) 20 = true) (hloc : Nat.ble n2 45 = true) (hW : (r.map fun v => v.category).sum ≤ 8)
    (k : ∀ z ρ, P z ρ → VL w v κ ρ τ lo (pc + 3) (.int z :: r)) : VL w v κ σ τ lo pc stk :=
  VL.callC hC hM hd hy hw hcls hn hst hroom hloc hW (fun z ρ hp => by obtain ⟨x, rfl, h⟩ := hp; exact k x ρ h)
theorem VL.callRI (hC : CxL w v κ b L xs) {i n n2 d2 : Nat} {y : MethodName} {c2 : ByteArray} {ret : Option FieldType} {As : List Value} {P : Int32 → Hp → Prop} {stk : List Value}
    (hM : CtI μR v y c2 n2 ret d2 (.ref (v.1 0) :: As) τ P) (hd : decode code pc = .ok (.invokevirtual i, 3)) (hy : MokV y c2 n2 ret n) (hw : Cond.methodLink "SoundPaidLaw" i y ∈ tbl) (hcls : y.cls = nC8) (hn : As.length = n) (hst : stk = As.reverse ++ .ref (v.1 0) :: r) (hroom : Nat.ble (d2 + 1) 20 = true) (hloc : Nat.ble n2 45 = true) (hW : (r.map fun v => v.category).sum ≤ 8)
    (k : ∀ z ρ, P z ρ → VL w v κ σ ρ lo (pc + 3) (.int z :: r)) : VL w v κ σ τ lo pc stk :=
  VL.callR hC hM hd hy hw hcls hn hst hroom hloc hW (fun z ρ hp => by obtain ⟨x, rfl, h⟩ := hp; exact k x ρ h)
theorem VL.callCL (hC : CxL w v κ b L xs) {i n n2 d2 : Nat} {y : MethodName} {c2 : ByteArray} {ret : Option FieldType} {As : List Value} {P : Int64 → Hp → Prop} {stk : List Value}
    (hM : CtL μC w y c2 n2 ret d2 (.ref (w.1 0) :: As) σ P) (hd : decode code pc = .ok (.invokevirtual i, 3)) (hy : MokV y c2 n2 ret n) (hw : Cond.methodLink "SoundPaidLaw" i y ∈ tbl) (hcls : y.cls = nC7) (hn : As.length = n) (hst : stk = As.reverse ++ .ref (w.1 0) :: r) (hroom : Nat.ble (d2 + 1) 20 = true) (hloc : Nat.ble n2 45 = true) (hW : (r.map fun v => v.category).sum ≤ 8)
    (k : ∀ z ρ, P z ρ → VL w v κ ρ τ lo (pc + 3) (.long z :: r)) : VL w v κ σ τ lo pc stk :=
  VL.callC hC hM hd hy hw hcls hn hst hroom hloc hW (fun z ρ hp => by obtain ⟨x, rfl, h⟩ := hp; exact k x ρ h)
theorem VL.callRL (hC : CxL w v κ b L xs) {i n n2 d2 : Nat} {y : MethodName} {c2 : ByteArray} {ret : Option FieldType} {As : List Value} {P : Int64 → Hp → Prop} {stk : List Value}
    (hM : CtL μR v y c2 n2 ret d2 (.ref (v.1 0) :: As) τ P) (hd : decode code pc = .ok (.invokevirtual i, 3)) (hy : MokV y c2 n2 ret n) (hw : Cond.methodLink "SoundPaidLaw" i y ∈ tbl) (hcls : y.cls = nC8) (hn : As.length = n) (hst : stk = As.reverse ++ .ref (v.1 0) :: r) (hroom : Nat.ble (d2 + 1) 20 = true) (hloc : Nat.ble n2 45 = true) (hW : (r.map fun v => v.category).sum ≤ 8)
    (k : ∀ z ρ, P z ρ → VL w v κ σ ρ lo (pc + 3) (.long z :: r)) : VL w v κ σ τ lo pc stk :=
  VL.callR hC hM hd hy hw hcls hn hst hroom hloc hW (fun z ρ hp => by obtain ⟨x, rfl, h⟩ := hp; exact k x ρ h)
end LAWR
theorem qm_L_13 : Cond.methodLink "SoundPaidLaw" 13 y_P_type ∈ tbl := tbl_in 316 (by decide +kernel) rfl
theorem mo_P_type : MokV y_P_type b_P_type 4 (some .int) 2 := ⟨⟨(tbl_in 319 (by decide +kernel) rfl), (tbl_in 62 (by decide +kernel) rfl)⟩, ⟨(tbl_in 317 (by decide +kernel) rfl), tbl_lw _ (tbl_in 318 (by decide +kernel) rfl), (tbl_in 318 (by decide +kernel) rfl)⟩, ⟨by decide +kernel, by decide +kernel⟩, by decide +kernel⟩
theorem qm_L_17 : Cond.methodLink "SoundPaidLaw" 17 y_R_type ∈ tbl := tbl_in 975 (by decide +kernel) rfl
theorem mo_R_type : MokV y_R_type b_R_type 3 (some .int) 2 := ⟨⟨(tbl_in 978 (by decide +kernel) rfl), (tbl_in 70 (by decide +kernel) rfl)⟩, ⟨(tbl_in 976 (by decide +kernel) rfl), tbl_lw _ (tbl_in 977 (by decide +kernel) rfl), (tbl_in 977 (by decide +kernel) rfl)⟩, ⟨by decide +kernel, by decide +kernel⟩, by decide +kernel⟩
theorem qm_L_18 : Cond.methodLink "SoundPaidLaw" 18 y_P_wipe ∈ tbl := tbl_in 477 (by decide +kernel) rfl
theorem mo_P_wipe : MokV y_P_wipe b_P_wipe 3 (some .int) 1 := ⟨⟨(tbl_in 480 (by decide +kernel) rfl), (tbl_in 62 (by decide +kernel) rfl)⟩, ⟨(tbl_in 478 (by decide +kernel) rfl), tbl_lw _ (tbl_in 479 (by decide +kernel) rfl), (tbl_in 479 (by decide +kernel) rfl)⟩, ⟨by decide +kernel, by decide +kernel⟩, by decide +kernel⟩
theorem qm_L_22 : Cond.methodLink "SoundPaidLaw" 22 y_R_wipe ∈ tbl := tbl_in 985 (by decide +kernel) rfl
theorem mo_R_wipe : MokV y_R_wipe b_R_wipe 3 (some .int) 1 := ⟨⟨(tbl_in 988 (by decide +kernel) rfl), (tbl_in 70 (by decide +kernel) rfl)⟩, ⟨(tbl_in 986 (by decide +kernel) rfl), tbl_lw _ (tbl_in 987 (by decide +kernel) rfl), (tbl_in 987 (by decide +kernel) rfl)⟩, ⟨by decide +kernel, by decide +kernel⟩, by decide +kernel⟩
theorem qm_L_23 : Cond.methodLink "SoundPaidLaw" 23 y_P_undo ∈ tbl := tbl_in 481 (by decide +kernel) rfl
theorem mo_P_undo : MokV y_P_undo b_P_undo 3 (some .int) 1 := ⟨⟨(tbl_in 484 (by decide +kernel) rfl), (tbl_in 62 (by decide +kernel) rfl)⟩, ⟨(tbl_in 482 (by decide +kernel) rfl), tbl_lw _ (tbl_in 483 (by decide +kernel) rfl), (tbl_in 483 (by decide +kernel) rfl)⟩, ⟨by decide +kernel, by decide +kernel⟩, by decide +kernel⟩
theorem qm_L_26 : Cond.methodLink "SoundPaidLaw" 26 y_R_undo ∈ tbl := tbl_in 989 (by decide +kernel) rfl
theorem mo_R_undo : MokV y_R_undo b_R_undo 2 (some .int) 1 := ⟨⟨(tbl_in 992 (by decide +kernel) rfl), (tbl_in 70 (by decide +kernel) rfl)⟩, ⟨(tbl_in 990 (by decide +kernel) rfl), tbl_lw _ (tbl_in 991 (by decide +kernel) rfl), (tbl_in 991 (by decide +kernel) rfl)⟩, ⟨by decide +kernel, by decide +kernel⟩, by decide +kernel⟩
theorem qm_L_27 : Cond.methodLink "SoundPaidLaw" 27 y_P_fault ∈ tbl := tbl_in 485 (by decide +kernel) rfl
theorem qm_L_30 : Cond.methodLink "SoundPaidLaw" 30 y_R_fault ∈ tbl := tbl_in 993 (by decide +kernel) rfl
theorem mo_R_fault : MokV y_R_fault b_R_fault 2 (some .int) 1 := ⟨⟨(tbl_in 996 (by decide +kernel) rfl), (tbl_in 70 (by decide +kernel) rfl)⟩, ⟨(tbl_in 994 (by decide +kernel) rfl), tbl_lw _ (tbl_in 995 (by decide +kernel) rfl), (tbl_in 995 (by decide +kernel) rfl)⟩, ⟨by decide +kernel, by decide +kernel⟩, by decide +kernel⟩
theorem qm_L_31 : Cond.methodLink "SoundPaidLaw" 31 y_P_house ∈ tbl := tbl_in 490 (by decide +kernel) rfl
theorem qm_L_34 : Cond.methodLink "SoundPaidLaw" 34 y_R_house ∈ tbl := tbl_in 1028 (by decide +kernel) rfl
theorem mo_R_house : MokV y_R_house b_R_house 3 (some .int) 2 := ⟨⟨(tbl_in 1031 (by decide +kernel) rfl), (tbl_in 70 (by decide +kernel) rfl)⟩, ⟨(tbl_in 1029 (by decide +kernel) rfl), tbl_lw _ (tbl_in 1030 (by decide +kernel) rfl), (tbl_in 1030 (by decide +kernel) rfl)⟩, ⟨by decide +kernel, by decide +kernel⟩, by decide +kernel⟩
theorem qm_L_35 : Cond.methodLink "SoundPaidLaw" 35 y_P_rate ∈ tbl := tbl_in 498 (by decide +kernel) rfl
theorem qm_L_38 : Cond.methodLink "SoundPaidLaw" 38 y_R_rate ∈ tbl := tbl_in 1044 (by decide +kernel) rfl
theorem mo_R_rate : MokV y_R_rate b_R_rate 2 (some .int) 1 := ⟨⟨(tbl_in 1047 (by decide +kernel) rfl), (tbl_in 70 (by decide +kernel) rfl)⟩, ⟨(tbl_in 1045 (by decide +kernel) rfl), tbl_lw _ (tbl_in 1046 (by decide +kernel) rfl), (tbl_in 1046 (by decide +kernel) rfl)⟩, ⟨by decide +kernel, by decide +kernel⟩, by decide +kernel⟩
theorem qm_L_39 : Cond.methodLink "SoundPaidLaw" 39 y_P_wall ∈ tbl := tbl_in 503 (by decide +kernel) rfl
theorem mo_P_wall : MokV y_P_wall b_P_wall 4 (some .int) 2 := ⟨⟨(tbl_in 506 (by decide +kernel) rfl), (tbl_in 62 (by decide +kernel) rfl)⟩, ⟨(tbl_in 504 (by decide +kernel) rfl), tbl_lw _ (tbl_in 505 (by decide +kernel) rfl), (tbl_in 505 (by decide +kernel) rfl)⟩, ⟨by decide +kernel, by decide +kernel⟩, by decide +kernel⟩
theorem qm_L_42 : Cond.methodLink "SoundPaidLaw" 42 y_R_wall ∈ tbl := tbl_in 1052 (by decide +kernel) rfl
theorem mo_R_wall : MokV y_R_wall b_R_wall 4 (some .int) 2 := ⟨⟨(tbl_in 1055 (by decide +kernel) rfl), (tbl_in 70 (by decide +kernel) rfl)⟩, ⟨(tbl_in 1053 (by decide +kernel) rfl), tbl_lw _ (tbl_in 1054 (by decide +kernel) rfl), (tbl_in 1054 (by decide +kernel) rfl)⟩, ⟨by decide +kernel, by decide +kernel⟩, by decide +kernel⟩
theorem qm_L_43 : Cond.methodLink "SoundPaidLaw" 43 y_P_suit ∈ tbl := tbl_in 507 (by decide +kernel) rfl
theorem qm_L_47 : Cond.methodLink "SoundPaidLaw" 47 y_R_suit ∈ tbl := tbl_in 1056 (by decide +kernel) rfl
theorem qm_L_48 : Cond.methodLink "SoundPaidLaw" 48 y_P_shut ∈ tbl := tbl_in 521 (by decide +kernel) rfl
theorem mo_P_shut : MokV y_P_shut b_P_shut 3 (some .int) 2 := ⟨⟨(tbl_in 524 (by decide +kernel) rfl), (tbl_in 62 (by decide +kernel) rfl)⟩, ⟨(tbl_in 522 (by decide +kernel) rfl), tbl_lw _ (tbl_in 523 (by decide +kernel) rfl), (tbl_in 523 (by decide +kernel) rfl)⟩, ⟨by decide +kernel, by decide +kernel⟩, by decide +kernel⟩
theorem qm_L_51 : Cond.methodLink "SoundPaidLaw" 51 y_R_shut ∈ tbl := tbl_in 1066 (by decide +kernel) rfl
theorem mo_R_shut : MokV y_R_shut b_R_shut 3 (some .int) 2 := ⟨⟨(tbl_in 1069 (by decide +kernel) rfl), (tbl_in 70 (by decide +kernel) rfl)⟩, ⟨(tbl_in 1067 (by decide +kernel) rfl), tbl_lw _ (tbl_in 1068 (by decide +kernel) rfl), (tbl_in 1068 (by decide +kernel) rfl)⟩, ⟨by decide +kernel, by decide +kernel⟩, by decide +kernel⟩
theorem qm_L_52 : Cond.methodLink "SoundPaidLaw" 52 y_P_back ∈ tbl := tbl_in 534 (by decide +kernel) rfl
theorem mo_P_back : MokV y_P_back b_P_back 2 (some .int) 1 := ⟨⟨(tbl_in 537 (by decide +kernel) rfl), (tbl_in 62 (by decide +kernel) rfl)⟩, ⟨(tbl_in 535 (by decide +kernel) rfl), tbl_lw _ (tbl_in 536 (by decide +kernel) rfl), (tbl_in 536 (by decide +kernel) rfl)⟩, ⟨by decide +kernel, by decide +kernel⟩, by decide +kernel⟩
theorem qm_L_55 : Cond.methodLink "SoundPaidLaw" 55 y_R_back ∈ tbl := tbl_in 1070 (by decide +kernel) rfl
theorem mo_R_back : MokV y_R_back b_R_back 3 (some .int) 1 := ⟨⟨(tbl_in 1073 (by decide +kernel) rfl), (tbl_in 70 (by decide +kernel) rfl)⟩, ⟨(tbl_in 1071 (by decide +kernel) rfl), tbl_lw _ (tbl_in 1072 (by decide +kernel) rfl), (tbl_in 1072 (by decide +kernel) rfl)⟩, ⟨by decide +kernel, by decide +kernel⟩, by decide +kernel⟩
theorem qm_L_56 : Cond.methodLink "SoundPaidLaw" 56 y_P_read ∈ tbl := tbl_in 546 (by decide +kernel) rfl
theorem mo_P_read : MokV y_P_read b_P_read 5 (some .int) 1 := ⟨⟨(tbl_in 549 (by decide +kernel) rfl), (tbl_in 62 (by decide +kernel) rfl)⟩, ⟨(tbl_in 547 (by decide +kernel) rfl), tbl_lw _ (tbl_in 548 (by decide +kernel) rfl), (tbl_in 548 (by decide +kernel) rfl)⟩, ⟨by decide +kernel, by decide +kernel⟩, by decide +kernel⟩
theorem qm_L_59 : Cond.methodLink "SoundPaidLaw" 59 y_R_read ∈ tbl := tbl_in 1074 (by decide +kernel) rfl
theorem mo_R_read : MokV y_R_read b_R_read 3 (some .int) 1 := ⟨⟨(tbl_in 1077 (by decide +kernel) rfl), (tbl_in 70 (by decide +kernel) rfl)⟩, ⟨(tbl_in 1075 (by decide +kernel) rfl), tbl_lw _ (tbl_in 1076 (by decide +kernel) rfl), (tbl_in 1076 (by decide +kernel) rfl)⟩, ⟨by decide +kernel, by decide +kernel⟩, by decide +kernel⟩
theorem qm_L_60 : Cond.methodLink "SoundPaidLaw" 60 y_P_through ∈ tbl := tbl_in 563 (by decide +kernel) rfl
theorem qm_L_63 : Cond.methodLink "SoundPaidLaw" 63 y_R_through ∈ tbl := tbl_in 1086 (by decide +kernel) rfl
theorem qm_L_64 : Cond.methodLink "SoundPaidLaw" 64 y_P_owes ∈ tbl := tbl_in 572 (by decide +kernel) rfl
theorem qm_L_67 : Cond.methodLink "SoundPaidLaw" 67 y_R_owes ∈ tbl := tbl_in 1094 (by decide +kernel) rfl
theorem qm_L_68 : Cond.methodLink "SoundPaidLaw" 68 y_P_balance ∈ tbl := tbl_in 610 (by decide +kernel) rfl
theorem qm_L_71 : Cond.methodLink "SoundPaidLaw" 71 y_R_balance ∈ tbl := tbl_in 1121 (by decide +kernel) rfl
theorem mo_R_balance : MokV y_R_balance b_R_balance 3 (some .int) 2 := ⟨⟨(tbl_in 1124 (by decide +kernel) rfl), (tbl_in 70 (by decide +kernel) rfl)⟩, ⟨(tbl_in 1122 (by decide +kernel) rfl), tbl_lw _ (tbl_in 1123 (by decide +kernel) rfl), (tbl_in 1123 (by decide +kernel) rfl)⟩, ⟨by decide +kernel, by decide +kernel⟩, by decide +kernel⟩
theorem qm_L_72 : Cond.methodLink "SoundPaidLaw" 72 y_P_coin ∈ tbl := tbl_in 620 (by decide +kernel) rfl
theorem qm_L_75 : Cond.methodLink "SoundPaidLaw" 75 y_R_coin ∈ tbl := tbl_in 1134 (by decide +kernel) rfl
theorem mo_R_coin : MokV y_R_coin b_R_coin 2 (some .int) 1 := ⟨⟨(tbl_in 1137 (by decide +kernel) rfl), (tbl_in 70 (by decide +kernel) rfl)⟩, ⟨(tbl_in 1135 (by decide +kernel) rfl), tbl_lw _ (tbl_in 1136 (by decide +kernel) rfl), (tbl_in 1136 (by decide +kernel) rfl)⟩, ⟨by decide +kernel, by decide +kernel⟩, by decide +kernel⟩
theorem qm_L_76 : Cond.methodLink "SoundPaidLaw" 76 y_P_broke ∈ tbl := tbl_in 634 (by decide +kernel) rfl
theorem qm_L_79 : Cond.methodLink "SoundPaidLaw" 79 y_R_broke ∈ tbl := tbl_in 1150 (by decide +kernel) rfl
theorem mo_R_broke : MokV y_R_broke b_R_broke 2 (some .int) 1 := ⟨⟨(tbl_in 1153 (by decide +kernel) rfl), (tbl_in 70 (by decide +kernel) rfl)⟩, ⟨(tbl_in 1151 (by decide +kernel) rfl), tbl_lw _ (tbl_in 1152 (by decide +kernel) rfl), (tbl_in 1152 (by decide +kernel) rfl)⟩, ⟨by decide +kernel, by decide +kernel⟩, by decide +kernel⟩
theorem qm_L_80 : Cond.methodLink "SoundPaidLaw" 80 y_P_richest ∈ tbl := tbl_in 638 (by decide +kernel) rfl
theorem qm_L_83 : Cond.methodLink "SoundPaidLaw" 83 y_R_richest ∈ tbl := tbl_in 1166 (by decide +kernel) rfl
theorem mo_R_richest : MokV y_R_richest b_R_richest 2 (some .int) 1 := ⟨⟨(tbl_in 1169 (by decide +kernel) rfl), (tbl_in 70 (by decide +kernel) rfl)⟩, ⟨(tbl_in 1167 (by decide +kernel) rfl), tbl_lw _ (tbl_in 1168 (by decide +kernel) rfl), (tbl_in 1168 (by decide +kernel) rfl)⟩, ⟨by decide +kernel, by decide +kernel⟩, by decide +kernel⟩
theorem qm_L_84 : Cond.methodLink "SoundPaidLaw" 84 y_P_payments ∈ tbl := tbl_in 643 (by decide +kernel) rfl
theorem qm_L_87 : Cond.methodLink "SoundPaidLaw" 87 y_R_payments ∈ tbl := tbl_in 1174 (by decide +kernel) rfl
theorem mo_R_payments : MokV y_R_payments b_R_payments 2 (some .int) 1 := ⟨⟨(tbl_in 1177 (by decide +kernel) rfl), (tbl_in 70 (by decide +kernel) rfl)⟩, ⟨(tbl_in 1175 (by decide +kernel) rfl), tbl_lw _ (tbl_in 1176 (by decide +kernel) rfl), (tbl_in 1176 (by decide +kernel) rfl)⟩, ⟨by decide +kernel, by decide +kernel⟩, by decide +kernel⟩
theorem qm_L_88 : Cond.methodLink "SoundPaidLaw" 88 y_P_rings ∈ tbl := tbl_in 651 (by decide +kernel) rfl
theorem qm_L_91 : Cond.methodLink "SoundPaidLaw" 91 y_R_rings ∈ tbl := tbl_in 1182 (by decide +kernel) rfl
theorem mo_R_rings : MokV y_R_rings b_R_rings 3 (some .int) 2 := ⟨⟨(tbl_in 1185 (by decide +kernel) rfl), (tbl_in 70 (by decide +kernel) rfl)⟩, ⟨(tbl_in 1183 (by decide +kernel) rfl), tbl_lw _ (tbl_in 1184 (by decide +kernel) rfl), (tbl_in 1184 (by decide +kernel) rfl)⟩, ⟨by decide +kernel, by decide +kernel⟩, by decide +kernel⟩
theorem qm_L_92 : Cond.methodLink "SoundPaidLaw" 92 y_P_build ∈ tbl := tbl_in 667 (by decide +kernel) rfl
theorem qm_L_95 : Cond.methodLink "SoundPaidLaw" 95 y_R_build ∈ tbl := tbl_in 1194 (by decide +kernel) rfl
theorem mo_R_build : MokV y_R_build b_R_build 4 (some .int) 3 := ⟨⟨(tbl_in 1197 (by decide +kernel) rfl), (tbl_in 70 (by decide +kernel) rfl)⟩, ⟨(tbl_in 1195 (by decide +kernel) rfl), tbl_lw _ (tbl_in 1196 (by decide +kernel) rfl), (tbl_in 1196 (by decide +kernel) rfl)⟩, ⟨by decide +kernel, by decide +kernel⟩, by decide +kernel⟩
theorem qm_L_96 : Cond.methodLink "SoundPaidLaw" 96 y_P_fair ∈ tbl := tbl_in 672 (by decide +kernel) rfl
theorem qm_L_99 : Cond.methodLink "SoundPaidLaw" 99 y_R_fair ∈ tbl := tbl_in 1203 (by decide +kernel) rfl
theorem mo_R_fair : MokV y_R_fair b_R_fair 4 (some .int) 3 := ⟨⟨(tbl_in 1206 (by decide +kernel) rfl), (tbl_in 70 (by decide +kernel) rfl)⟩, ⟨(tbl_in 1204 (by decide +kernel) rfl), tbl_lw _ (tbl_in 1205 (by decide +kernel) rfl), (tbl_in 1205 (by decide +kernel) rfl)⟩, ⟨by decide +kernel, by decide +kernel⟩, by decide +kernel⟩
theorem qm_L_100 : Cond.methodLink "SoundPaidLaw" 100 y_P_drop ∈ tbl := tbl_in 676 (by decide +kernel) rfl
theorem qm_L_103 : Cond.methodLink "SoundPaidLaw" 103 y_R_drop ∈ tbl := tbl_in 1211 (by decide +kernel) rfl
theorem mo_R_drop : MokV y_R_drop b_R_drop 3 (some .int) 2 := ⟨⟨(tbl_in 1214 (by decide +kernel) rfl), (tbl_in 70 (by decide +kernel) rfl)⟩, ⟨(tbl_in 1212 (by decide +kernel) rfl), tbl_lw _ (tbl_in 1213 (by decide +kernel) rfl), (tbl_in 1213 (by decide +kernel) rfl)⟩, ⟨by decide +kernel, by decide +kernel⟩, by decide +kernel⟩
theorem qm_L_104 : Cond.methodLink "SoundPaidLaw" 104 y_P_seen ∈ tbl := tbl_in 699 (by decide +kernel) rfl
theorem mo_P_seen : MokV y_P_seen b_P_seen 4 (some .int) 3 := ⟨⟨(tbl_in 702 (by decide +kernel) rfl), (tbl_in 62 (by decide +kernel) rfl)⟩, ⟨(tbl_in 700 (by decide +kernel) rfl), tbl_lw _ (tbl_in 701 (by decide +kernel) rfl), (tbl_in 701 (by decide +kernel) rfl)⟩, ⟨by decide +kernel, by decide +kernel⟩, by decide +kernel⟩
theorem qm_L_107 : Cond.methodLink "SoundPaidLaw" 107 y_R_seen ∈ tbl := tbl_in 1227 (by decide +kernel) rfl
theorem mo_R_seen : MokV y_R_seen b_R_seen 4 (some .int) 3 := ⟨⟨(tbl_in 1230 (by decide +kernel) rfl), (tbl_in 70 (by decide +kernel) rfl)⟩, ⟨(tbl_in 1228 (by decide +kernel) rfl), tbl_lw _ (tbl_in 1229 (by decide +kernel) rfl), (tbl_in 1229 (by decide +kernel) rfl)⟩, ⟨by decide +kernel, by decide +kernel⟩, by decide +kernel⟩
theorem qm_L_108 : Cond.methodLink "SoundPaidLaw" 108 y_P_forget ∈ tbl := tbl_in 707 (by decide +kernel) rfl
theorem mo_P_forget : MokV y_P_forget b_P_forget 2 (some .int) 0 := ⟨⟨(tbl_in 710 (by decide +kernel) rfl), (tbl_in 62 (by decide +kernel) rfl)⟩, ⟨(tbl_in 708 (by decide +kernel) rfl), tbl_lw _ (tbl_in 709 (by decide +kernel) rfl), (tbl_in 709 (by decide +kernel) rfl)⟩, ⟨by decide +kernel, by decide +kernel⟩, by decide +kernel⟩
theorem qm_L_112 : Cond.methodLink "SoundPaidLaw" 112 y_R_forget ∈ tbl := tbl_in 1231 (by decide +kernel) rfl
theorem mo_R_forget : MokV y_R_forget b_R_forget 2 (some .int) 0 := ⟨⟨(tbl_in 1234 (by decide +kernel) rfl), (tbl_in 70 (by decide +kernel) rfl)⟩, ⟨(tbl_in 1232 (by decide +kernel) rfl), tbl_lw _ (tbl_in 1233 (by decide +kernel) rfl), (tbl_in 1233 (by decide +kernel) rfl)⟩, ⟨by decide +kernel, by decide +kernel⟩, by decide +kernel⟩
theorem qm_L_113 : Cond.methodLink "SoundPaidLaw" 113 y_P_never ∈ tbl := tbl_in 711 (by decide +kernel) rfl
theorem qm_L_116 : Cond.methodLink "SoundPaidLaw" 116 y_R_never ∈ tbl := tbl_in 1235 (by decide +kernel) rfl
theorem mo_R_never : MokV y_R_never b_R_never 1 (some .int) 0 := ⟨⟨(tbl_in 1238 (by decide +kernel) rfl), (tbl_in 70 (by decide +kernel) rfl)⟩, ⟨(tbl_in 1236 (by decide +kernel) rfl), tbl_lw _ (tbl_in 1237 (by decide +kernel) rfl), (tbl_in 1237 (by decide +kernel) rfl)⟩, ⟨by decide +kernel, by decide +kernel⟩, by decide +kernel⟩
theorem qm_L_117 : Cond.methodLink "SoundPaidLaw" 117 y_P_leaked ∈ tbl := tbl_in 724 (by decide +kernel) rfl
theorem qm_L_120 : Cond.methodLink "SoundPaidLaw" 120 y_R_leaked ∈ tbl := tbl_in 1247 (by decide +kernel) rfl
theorem mo_R_leaked : MokV y_R_leaked b_R_leaked 2 (some .int) 1 := ⟨⟨(tbl_in 1250 (by decide +kernel) rfl), (tbl_in 70 (by decide +kernel) rfl)⟩, ⟨(tbl_in 1248 (by decide +kernel) rfl), tbl_lw _ (tbl_in 1249 (by decide +kernel) rfl), (tbl_in 1249 (by decide +kernel) rfl)⟩, ⟨by decide +kernel, by decide +kernel⟩, by decide +kernel⟩
theorem qm_L_121 : Cond.methodLink "SoundPaidLaw" 121 y_P_ask ∈ tbl := tbl_in 728 (by decide +kernel) rfl
theorem qm_L_124 : Cond.methodLink "SoundPaidLaw" 124 y_R_ask ∈ tbl := tbl_in 1255 (by decide +kernel) rfl
theorem mo_R_ask : MokV y_R_ask b_R_ask 2 (some .int) 1 := ⟨⟨(tbl_in 1258 (by decide +kernel) rfl), (tbl_in 70 (by decide +kernel) rfl)⟩, ⟨(tbl_in 1256 (by decide +kernel) rfl), tbl_lw _ (tbl_in 1257 (by decide +kernel) rfl), (tbl_in 1257 (by decide +kernel) rfl)⟩, ⟨by decide +kernel, by decide +kernel⟩, by decide +kernel⟩
theorem qm_L_125 : Cond.methodLink "SoundPaidLaw" 125 y_P_court ∈ tbl := tbl_in 738 (by decide +kernel) rfl
theorem qm_L_129 : Cond.methodLink "SoundPaidLaw" 129 y_R_court ∈ tbl := tbl_in 1263 (by decide +kernel) rfl
theorem mo_R_court : MokV y_R_court b_R_court 5 (some .long) 4 := ⟨⟨(tbl_in 1266 (by decide +kernel) rfl), (tbl_in 70 (by decide +kernel) rfl)⟩, ⟨(tbl_in 1264 (by decide +kernel) rfl), tbl_lw _ (tbl_in 1265 (by decide +kernel) rfl), (tbl_in 1265 (by decide +kernel) rfl)⟩, ⟨by decide +kernel, by decide +kernel⟩, by decide +kernel⟩
theorem qm_L_130 : Cond.methodLink "SoundPaidLaw" 130 y_P_month ∈ tbl := tbl_in 765 (by decide +kernel) rfl
theorem qm_L_133 : Cond.methodLink "SoundPaidLaw" 133 y_R_month ∈ tbl := tbl_in 1278 (by decide +kernel) rfl
theorem mo_R_month : MokV y_R_month b_R_month 4 (some .int) 3 := ⟨⟨(tbl_in 1281 (by decide +kernel) rfl), (tbl_in 70 (by decide +kernel) rfl)⟩, ⟨(tbl_in 1279 (by decide +kernel) rfl), tbl_lw _ (tbl_in 1280 (by decide +kernel) rfl), (tbl_in 1280 (by decide +kernel) rfl)⟩, ⟨by decide +kernel, by decide +kernel⟩, by decide +kernel⟩
theorem qm_L_134 : Cond.methodLink "SoundPaidLaw" 134 y_P_sheet ∈ tbl := tbl_in 775 (by decide +kernel) rfl
theorem mo_P_sheet : MokV y_P_sheet b_P_sheet 4 (some .int) 3 := ⟨⟨(tbl_in 778 (by decide +kernel) rfl), (tbl_in 62 (by decide +kernel) rfl)⟩, ⟨(tbl_in 776 (by decide +kernel) rfl), tbl_lw _ (tbl_in 777 (by decide +kernel) rfl), (tbl_in 777 (by decide +kernel) rfl)⟩, ⟨by decide +kernel, by decide +kernel⟩, by decide +kernel⟩
theorem qm_L_137 : Cond.methodLink "SoundPaidLaw" 137 y_R_sheet ∈ tbl := tbl_in 1287 (by decide +kernel) rfl
theorem mo_R_sheet : MokV y_R_sheet b_R_sheet 5 (some .int) 3 := ⟨⟨(tbl_in 1290 (by decide +kernel) rfl), (tbl_in 70 (by decide +kernel) rfl)⟩, ⟨(tbl_in 1288 (by decide +kernel) rfl), tbl_lw _ (tbl_in 1289 (by decide +kernel) rfl), (tbl_in 1289 (by decide +kernel) rfl)⟩, ⟨by decide +kernel, by decide +kernel⟩, by decide +kernel⟩
theorem qm_L_138 : Cond.methodLink "SoundPaidLaw" 138 y_P_lose ∈ tbl := tbl_in 787 (by decide +kernel) rfl
theorem mo_P_lose : MokV y_P_lose b_P_lose 3 (some .int) 1 := ⟨⟨(tbl_in 790 (by decide +kernel) rfl), (tbl_in 62 (by decide +kernel) rfl)⟩, ⟨(tbl_in 788 (by decide +kernel) rfl), tbl_lw _ (tbl_in 789 (by decide +kernel) rfl), (tbl_in 789 (by decide +kernel) rfl)⟩, ⟨by decide +kernel, by decide +kernel⟩, by decide +kernel⟩
theorem qm_L_141 : Cond.methodLink "SoundPaidLaw" 141 y_R_lose ∈ tbl := tbl_in 1291 (by decide +kernel) rfl
theorem mo_R_lose : MokV y_R_lose b_R_lose 2 (some .int) 1 := ⟨⟨(tbl_in 1294 (by decide +kernel) rfl), (tbl_in 70 (by decide +kernel) rfl)⟩, ⟨(tbl_in 1292 (by decide +kernel) rfl), tbl_lw _ (tbl_in 1293 (by decide +kernel) rfl), (tbl_in 1293 (by decide +kernel) rfl)⟩, ⟨by decide +kernel, by decide +kernel⟩, by decide +kernel⟩
theorem qm_L_142 : Cond.methodLink "SoundPaidLaw" 142 y_P_put ∈ tbl := tbl_in 795 (by decide +kernel) rfl
theorem mo_P_put : MokV y_P_put b_P_put 6 (some .int) 4 := ⟨⟨(tbl_in 798 (by decide +kernel) rfl), (tbl_in 62 (by decide +kernel) rfl)⟩, ⟨(tbl_in 796 (by decide +kernel) rfl), tbl_lw _ (tbl_in 797 (by decide +kernel) rfl), (tbl_in 797 (by decide +kernel) rfl)⟩, ⟨by decide +kernel, by decide +kernel⟩, by decide +kernel⟩
theorem qm_L_146 : Cond.methodLink "SoundPaidLaw" 146 y_R_put ∈ tbl := tbl_in 1295 (by decide +kernel) rfl
theorem mo_R_put : MokV y_R_put b_R_put 6 (some .int) 4 := ⟨⟨(tbl_in 1298 (by decide +kernel) rfl), (tbl_in 70 (by decide +kernel) rfl)⟩, ⟨(tbl_in 1296 (by decide +kernel) rfl), tbl_lw _ (tbl_in 1297 (by decide +kernel) rfl), (tbl_in 1297 (by decide +kernel) rfl)⟩, ⟨by decide +kernel, by decide +kernel⟩, by decide +kernel⟩
theorem qm_L_147 : Cond.methodLink "SoundPaidLaw" 147 y_P_get ∈ tbl := tbl_in 806 (by decide +kernel) rfl
theorem mo_P_get : MokV y_P_get b_P_get 5 (some .int) 3 := ⟨⟨(tbl_in 809 (by decide +kernel) rfl), (tbl_in 62 (by decide +kernel) rfl)⟩, ⟨(tbl_in 807 (by decide +kernel) rfl), tbl_lw _ (tbl_in 808 (by decide +kernel) rfl), (tbl_in 808 (by decide +kernel) rfl)⟩, ⟨by decide +kernel, by decide +kernel⟩, by decide +kernel⟩
theorem qm_L_150 : Cond.methodLink "SoundPaidLaw" 150 y_R_get ∈ tbl := tbl_in 1307 (by decide +kernel) rfl
theorem mo_R_get : MokV y_R_get b_R_get 5 (some .int) 3 := ⟨⟨(tbl_in 1310 (by decide +kernel) rfl), (tbl_in 70 (by decide +kernel) rfl)⟩, ⟨(tbl_in 1308 (by decide +kernel) rfl), tbl_lw _ (tbl_in 1309 (by decide +kernel) rfl), (tbl_in 1309 (by decide +kernel) rfl)⟩, ⟨by decide +kernel, by decide +kernel⟩, by decide +kernel⟩
theorem qm_L_151 : Cond.methodLink "SoundPaidLaw" 151 y_P_copy ∈ tbl := tbl_in 811 (by decide +kernel) rfl
theorem mo_P_copy : MokV y_P_copy b_P_copy 8 (some .int) 5 := ⟨⟨(tbl_in 814 (by decide +kernel) rfl), (tbl_in 62 (by decide +kernel) rfl)⟩, ⟨(tbl_in 812 (by decide +kernel) rfl), tbl_lw _ (tbl_in 813 (by decide +kernel) rfl), (tbl_in 813 (by decide +kernel) rfl)⟩, ⟨by decide +kernel, by decide +kernel⟩, by decide +kernel⟩
theorem qm_L_155 : Cond.methodLink "SoundPaidLaw" 155 y_R_copy ∈ tbl := tbl_in 1312 (by decide +kernel) rfl
theorem mo_R_copy : MokV y_R_copy b_R_copy 7 (some .int) 5 := ⟨⟨(tbl_in 1315 (by decide +kernel) rfl), (tbl_in 70 (by decide +kernel) rfl)⟩, ⟨(tbl_in 1313 (by decide +kernel) rfl), tbl_lw _ (tbl_in 1314 (by decide +kernel) rfl), (tbl_in 1314 (by decide +kernel) rfl)⟩, ⟨by decide +kernel, by decide +kernel⟩, by decide +kernel⟩
theorem qm_L_156 : Cond.methodLink "SoundPaidLaw" 156 y_P_write ∈ tbl := tbl_in 822 (by decide +kernel) rfl
theorem mo_P_write : MokV y_P_write b_P_write 7 (some .int) 2 := ⟨⟨(tbl_in 825 (by decide +kernel) rfl), (tbl_in 62 (by decide +kernel) rfl)⟩, ⟨(tbl_in 823 (by decide +kernel) rfl), tbl_lw _ (tbl_in 824 (by decide +kernel) rfl), (tbl_in 824 (by decide +kernel) rfl)⟩, ⟨by decide +kernel, by decide +kernel⟩, by decide +kernel⟩
theorem qm_L_159 : Cond.methodLink "SoundPaidLaw" 159 y_R_write ∈ tbl := tbl_in 1316 (by decide +kernel) rfl
theorem mo_R_write : MokV y_R_write b_R_write 4 (some .int) 2 := ⟨⟨(tbl_in 1319 (by decide +kernel) rfl), (tbl_in 70 (by decide +kernel) rfl)⟩, ⟨(tbl_in 1317 (by decide +kernel) rfl), tbl_lw _ (tbl_in 1318 (by decide +kernel) rfl), (tbl_in 1318 (by decide +kernel) rfl)⟩, ⟨by decide +kernel, by decide +kernel⟩, by decide +kernel⟩
theorem qm_L_160 : Cond.methodLink "SoundPaidLaw" 160 y_P_count ∈ tbl := tbl_in 827 (by decide +kernel) rfl
theorem qm_L_163 : Cond.methodLink "SoundPaidLaw" 163 y_R_count ∈ tbl := tbl_in 1320 (by decide +kernel) rfl
theorem qm_L_164 : Cond.methodLink "SoundPaidLaw" 164 y_P_digest ∈ tbl := tbl_in 835 (by decide +kernel) rfl
theorem mo_P_digest : MokV y_P_digest b_P_digest 7 (some .long) 0 := ⟨⟨(tbl_in 838 (by decide +kernel) rfl), (tbl_in 62 (by decide +kernel) rfl)⟩, ⟨(tbl_in 836 (by decide +kernel) rfl), tbl_lw _ (tbl_in 837 (by decide +kernel) rfl), (tbl_in 837 (by decide +kernel) rfl)⟩, ⟨by decide +kernel, by decide +kernel⟩, by decide +kernel⟩
theorem qm_L_168 : Cond.methodLink "SoundPaidLaw" 168 y_R_digest ∈ tbl := tbl_in 1332 (by decide +kernel) rfl
theorem mo_R_digest : MokV y_R_digest b_R_digest 4 (some .long) 0 := ⟨⟨(tbl_in 1335 (by decide +kernel) rfl), (tbl_in 70 (by decide +kernel) rfl)⟩, ⟨(tbl_in 1333 (by decide +kernel) rfl), tbl_lw _ (tbl_in 1334 (by decide +kernel) rfl), (tbl_in 1334 (by decide +kernel) rfl)⟩, ⟨by decide +kernel, by decide +kernel⟩, by decide +kernel⟩
/-- P_type: what is to be shown of the two pictures -/
def H_type (Rel : Hp → Hp → Prop) : Prop := ∀ (σ τ : Hp) (x1 x2 : Int32) , Rel σ τ → wp_P_type σ x1 x2 (fun r1 σ1 => wp_R_type τ x1 x2 (fun r2 τ1 => r1 = r2 ∧ Rel σ1 τ1))
set_option maxRecDepth 100000 in
theorem lc_0 {w v : Wd} {κ : Kx} {b L i : Nat} {xs : Nat → Int32} {Rel : Hp → Hp → Prop} (hC : CxL w v κ b L xs) (hi : i + 5 < L) (hH : H_type Rel) (σ τ : Hp) (hrel : Rel σ τ) (kk : ∀ σ1 τ1, Rel σ1 τ1 → VL w v κ σ1 τ1 [some (.ref b), some (.ref (w.1 0)), some (.ref (v.1 0)), some (.int (nI i))] 1369 []) : VL w v κ σ τ [some (.ref b), some (.ref (w.1 0)), some (.ref (v.1 0)), some (.int (nI i))] 196 [] := by
  have hm := hH σ τ (xs (i + 1)) (xs (i + 2)) hrel
  refine VL.aload_n hC d_law_196 rfl rfl ?_
  refine VL.sarg (j := 1) hC d_law_197 d_law_198 d_law_199 d_law_200 d_law_201 rfl (by omega) rfl rfl ?_
  refine VL.sarg (j := 2) hC d_law_202 d_law_203 d_law_204 d_law_205 d_law_206 rfl (by omega) rfl rfl ?_
  refine VL.callCI hC (w_P_type w σ (xs (i + 1)) (xs (i + 2)) _ hm) d_law_207 mo_P_type qm_L_13 rfl rfl rfl rfl rfl (Nat.le_of_ble_eq_true rfl) (fun r1 σ1 hm => ?_)
  refine VL.aload_n hC d_law_210 rfl rfl ?_
  refine VL.sarg (j := 1) hC d_law_211 d_law_212 d_law_213 d_law_214 d_law_215 rfl (by omega) rfl rfl ?_
  refine VL.sarg (j := 2) hC d_law_216 d_law_217 d_law_218 d_law_219 d_law_220 rfl (by omega) rfl rfl ?_
  refine VL.callRI hC (w_R_type v τ (xs (i + 1)) (xs (i + 2)) _ hm) d_law_221 mo_R_type qm_L_17 rfl rfl rfl rfl rfl (Nat.le_of_ble_eq_true rfl) (fun r2 τ1 hm => ?_)
  obtain ⟨e9, hm⟩ := hm
  refine VL.icmp_eq (tgt := 1369) hC d_law_224 (by decide) e9 ?_
  exact kk σ1 τ1 hm
/-- P_wipe: what is to be shown of the two pictures -/
def H_wipe (Rel : Hp → Hp → Prop) : Prop := ∀ (σ τ : Hp) (x1 : Int32) , Rel σ τ → wp_P_wipe σ x1 (fun r1 σ1 => wp_R_wipe τ x1 (fun r2 τ1 => r1 = r2 ∧ Rel σ1 τ1))
set_option maxRecDepth 100000 in
theorem lc_1 {w v : Wd} {κ : Kx} {b L i : Nat} {xs : Nat → Int32} {Rel : Hp → Hp → Prop} (hC : CxL w v κ b L xs) (hi : i + 5 < L) (hH : H_wipe Rel) (σ τ : Hp) (hrel : Rel σ τ) (kk : ∀ σ1 τ1, Rel σ1 τ1 → VL w v κ σ1 τ1 [some (.ref b), some (.ref (w.1 0)), some (.ref (v.1 0)), some (.int (nI i))] 1369 []) : VL w v κ σ τ [some (.ref b), some (.ref (w.1 0)), some (.ref (v.1 0)), some (.int (nI i))] 229 [] := by
  have hm := hH σ τ (xs (i + 1)) hrel
  refine VL.aload_n hC d_law_229 rfl rfl ?_
  refine VL.sarg (j := 1) hC d_law_230 d_law_231 d_law_232 d_law_233 d_law_234 rfl (by omega) rfl rfl ?_
  refine VL.callCI hC (w_P_wipe w σ (xs (i + 1)) _ hm) d_law_235 mo_P_wipe qm_L_18 rfl rfl rfl rfl rfl (Nat.le_of_ble_eq_true rfl) (fun r1 σ1 hm => ?_)
  refine VL.aload_n hC d_law_238 rfl rfl ?_
  refine VL.sarg (j := 1) hC d_law_239 d_law_240 d_law_241 d_law_242 d_law_243 rfl (by omega) rfl rfl ?_
  refine VL.callRI hC (w_R_wipe v τ (xs (i + 1)) _ hm) d_law_244 mo_R_wipe qm_L_22 rfl rfl rfl rfl rfl (Nat.le_of_ble_eq_true rfl) (fun r2 τ1 hm => ?_)
  obtain ⟨e9, hm⟩ := hm
  refine VL.icmp_eq (tgt := 1369) hC d_law_247 (by decide) e9 ?_
  exact kk σ1 τ1 hm
/-- P_undo: what is to be shown of the two pictures -/
def H_undo (Rel : Hp → Hp → Prop) : Prop := ∀ (σ τ : Hp) (x1 : Int32) , Rel σ τ → wp_P_undo σ x1 (fun r1 σ1 => wp_R_undo τ x1 (fun r2 τ1 => r1 = r2 ∧ Rel σ1 τ1))
set_option maxRecDepth 100000 in
theorem lc_2 {w v : Wd} {κ : Kx} {b L i : Nat} {xs : Nat → Int32} {Rel : Hp → Hp → Prop} (hC : CxL w v κ b L xs) (hi : i + 5 < L) (hH : H_undo Rel) (σ τ : Hp) (hrel : Rel σ τ) (kk : ∀ σ1 τ1, Rel σ1 τ1 → VL w v κ σ1 τ1 [some (.ref b), some (.ref (w.1 0)), some (.ref (v.1 0)), some (.int (nI i))] 1369 []) : VL w v κ σ τ [some (.ref b), some (.ref (w.1 0)), some (.ref (v.1 0)), some (.int (nI i))] 252 [] := by
  have hm := hH σ τ (xs (i + 1)) hrel
  refine VL.aload_n hC d_law_252 rfl rfl ?_
  refine VL.sarg (j := 1) hC d_law_253 d_law_254 d_law_255 d_law_256 d_law_257 rfl (by omega) rfl rfl ?_
  refine VL.callCI hC (w_P_undo w σ (xs (i + 1)) _ hm) d_law_258 mo_P_undo qm_L_23 rfl rfl rfl rfl rfl (Nat.le_of_ble_eq_true rfl) (fun r1 σ1 hm => ?_)
  refine VL.aload_n hC d_law_261 rfl rfl ?_
  refine VL.sarg (j := 1) hC d_law_262 d_law_263 d_law_264 d_law_265 d_law_266 rfl (by omega) rfl rfl ?_
  refine VL.callRI hC (w_R_undo v τ (xs (i + 1)) _ hm) d_law_267 mo_R_undo qm_L_26 rfl rfl rfl rfl rfl (Nat.le_of_ble_eq_true rfl) (fun r2 τ1 hm => ?_)
  obtain ⟨e9, hm⟩ := hm
  refine VL.icmp_eq (tgt := 1369) hC d_law_270 (by decide) e9 ?_
  exact kk σ1 τ1 hm
/-- P_fault: what is to be shown of the two pictures -/
def H_fault (Rel : Hp → Hp → Prop) : Prop := ∀ (σ τ : Hp) (x1 : Int32) , Rel σ τ → wp_P_fault σ x1 (fun r1 σ1 => wp_R_fault τ x1 (fun r2 τ1 => r1 = r2 ∧ Rel σ1 τ1))
set_option maxRecDepth 100000 in
theorem lc_3 {w v : Wd} {κ : Kx} {b L i : Nat} {xs : Nat → Int32} {Rel : Hp → Hp → Prop} (hC : CxL w v κ b L xs) (hi : i + 5 < L) (hH : H_fault Rel) (σ τ : Hp) (hrel : Rel σ τ) (kk : ∀ σ1 τ1, Rel σ1 τ1 → VL w v κ σ1 τ1 [some (.ref b), some (.ref (w.1 0)), some (.ref (v.1 0)), some (.int (nI i))] 1369 []) : VL w v κ σ τ [some (.ref b), some (.ref (w.1 0)), some (.ref (v.1 0)), some (.int (nI i))] 275 [] := by
  have hm := hH σ τ (xs (i + 1)) hrel
  refine VL.aload_n hC d_law_275 rfl rfl ?_
  refine VL.sarg (j := 1) hC d_law_276 d_law_277 d_law_278 d_law_279 d_law_280 rfl (by omega) rfl rfl ?_
  refine VL.callCI hC (w_P_fault w σ (xs (i + 1)) _ hm) d_law_281 mo_P_fault qm_L_27 rfl rfl rfl rfl rfl (Nat.le_of_ble_eq_true rfl) (fun r1 σ1 hm => ?_)
  refine VL.aload_n hC d_law_284 rfl rfl ?_
  refine VL.sarg (j := 1) hC d_law_285 d_law_286 d_law_287 d_law_288 d_law_289 rfl (by omega) rfl rfl ?_
  refine VL.callRI hC (w_R_fault v τ (xs (i + 1)) _ hm) d_law_290 mo_R_fault qm_L_30 rfl rfl rfl rfl rfl (Nat.le_of_ble_eq_true rfl) (fun r2 τ1 hm => ?_)
  obtain ⟨e9, hm⟩ := hm
  refine VL.icmp_eq (tgt := 1369) hC d_law_293 (by decide) e9 ?_
  exact kk σ1 τ1 hm
/-- P_house: what is to be shown of the two pictures -/
def H_house (Rel : Hp → Hp → Prop) : Prop := ∀ (σ τ : Hp) (x1 x2 : Int32) , Rel σ τ → wp_P_house σ x1 x2 (fun r1 σ1 => wp_R_house τ x1 x2 (fun r2 τ1 => r1 = r2 ∧ Rel σ1 τ1))
set_option maxRecDepth 100000 in
theorem lc_4 {w v : Wd} {κ : Kx} {b L i : Nat} {xs : Nat → Int32} {Rel : Hp → Hp → Prop} (hC : CxL w v κ b L xs) (hi : i + 5 < L) (hH : H_house Rel) (σ τ : Hp) (hrel : Rel σ τ) (kk : ∀ σ1 τ1, Rel σ1 τ1 → VL w v κ σ1 τ1 [some (.ref b), some (.ref (w.1 0)), some (.ref (v.1 0)), some (.int (nI i))] 1369 []) : VL w v κ σ τ [some (.ref b), some (.ref (w.1 0)), some (.ref (v.1 0)), some (.int (nI i))] 298 [] := by
  have hm := hH σ τ (xs (i + 1)) (xs (i + 2)) hrel
  refine VL.aload_n hC d_law_298 rfl rfl ?_
  refine VL.sarg (j := 1) hC d_law_299 d_law_300 d_law_301 d_law_302 d_law_303 rfl (by omega) rfl rfl ?_
  refine VL.sarg (j := 2) hC d_law_304 d_law_305 d_law_306 d_law_307 d_law_308 rfl (by omega) rfl rfl ?_
  refine VL.callCI hC (w_P_house w σ (xs (i + 1)) (xs (i + 2)) _ hm) d_law_309 mo_P_house qm_L_31 rfl rfl rfl rfl rfl (Nat.le_of_ble_eq_true rfl) (fun r1 σ1 hm => ?_)
  refine VL.aload_n hC d_law_312 rfl rfl ?_
  refine VL.sarg (j := 1) hC d_law_313 d_law_314 d_law_315 d_law_316 d_law_317 rfl (by omega) rfl rfl ?_
  refine VL.sarg (j := 2) hC d_law_318 d_law_319 d_law_320 d_law_321 d_law_322 rfl (by omega) rfl rfl ?_
  refine VL.callRI hC (w_R_house v τ (xs (i + 1)) (xs (i + 2)) _ hm) d_law_323 mo_R_house qm_L_34 rfl rfl rfl rfl rfl (Nat.le_of_ble_eq_true rfl) (fun r2 τ1 hm => ?_)
  obtain ⟨e9, hm⟩ := hm
  refine VL.icmp_eq (tgt := 1369) hC d_law_326 (by decide) e9 ?_
  exact kk σ1 τ1 hm
/-- P_rate: what is to be shown of the two pictures -/
def H_rate (Rel : Hp → Hp → Prop) : Prop := ∀ (σ τ : Hp) (x1 : Int32) , Rel σ τ → wp_P_rate σ x1 (fun r1 σ1 => wp_R_rate τ x1 (fun r2 τ1 => r1 = r2 ∧ Rel σ1 τ1))
set_option maxRecDepth 100000 in
theorem lc_5 {w v : Wd} {κ : Kx} {b L i : Nat} {xs : Nat → Int32} {Rel : Hp → Hp → Prop} (hC : CxL w v κ b L xs) (hi : i + 5 < L) (hH : H_rate Rel) (σ τ : Hp) (hrel : Rel σ τ) (kk : ∀ σ1 τ1, Rel σ1 τ1 → VL w v κ σ1 τ1 [some (.ref b), some (.ref (w.1 0)), some (.ref (v.1 0)), some (.int (nI i))] 1369 []) : VL w v κ σ τ [some (.ref b), some (.ref (w.1 0)), some (.ref (v.1 0)), some (.int (nI i))] 331 [] := by
  have hm := hH σ τ (xs (i + 1)) hrel
  refine VL.aload_n hC d_law_331 rfl rfl ?_
  refine VL.sarg (j := 1) hC d_law_332 d_law_333 d_law_334 d_law_335 d_law_336 rfl (by omega) rfl rfl ?_
  refine VL.callCI hC (w_P_rate w σ (xs (i + 1)) _ hm) d_law_337 mo_P_rate qm_L_35 rfl rfl rfl rfl rfl (Nat.le_of_ble_eq_true rfl) (fun r1 σ1 hm => ?_)
  refine VL.aload_n hC d_law_340 rfl rfl ?_
  refine VL.sarg (j := 1) hC d_law_341 d_law_342 d_law_343 d_law_344 d_law_345 rfl (by omega) rfl rfl ?_
  refine VL.callRI hC (w_R_rate v τ (xs (i + 1)) _ hm) d_law_346 mo_R_rate qm_L_38 rfl rfl rfl rfl rfl (Nat.le_of_ble_eq_true rfl) (fun r2 τ1 hm => ?_)
  obtain ⟨e9, hm⟩ := hm
  refine VL.icmp_eq (tgt := 1369) hC d_law_349 (by decide) e9 ?_
  exact kk σ1 τ1 hm
/-- P_wall: what is to be shown of the two pictures -/
def H_wall (Rel : Hp → Hp → Prop) : Prop := ∀ (σ τ : Hp) (x1 x2 : Int32) , Rel σ τ → wp_P_wall σ x1 x2 (fun r1 σ1 => wp_R_wall τ x1 x2 (fun r2 τ1 => r1 = r2 ∧ Rel σ1 τ1))
set_option maxRecDepth 100000 in
theorem lc_6 {w v : Wd} {κ : Kx} {b L i : Nat} {xs : Nat → Int32} {Rel : Hp → Hp → Prop} (hC : CxL w v κ b L xs) (hi : i + 5 < L) (hH : H_wall Rel) (σ τ : Hp) (hrel : Rel σ τ) (kk : ∀ σ1 τ1, Rel σ1 τ1 → VL w v κ σ1 τ1 [some (.ref b), some (.ref (w.1 0)), some (.ref (v.1 0)), some (.int (nI i))] 1369 []) : VL w v κ σ τ [some (.ref b), some (.ref (w.1 0)), some (.ref (v.1 0)), some (.int (nI i))] 354 [] := by
  have hm := hH σ τ (xs (i + 1)) (xs (i + 2)) hrel
  refine VL.aload_n hC d_law_354 rfl rfl ?_
  refine VL.sarg (j := 1) hC d_law_355 d_law_356 d_law_357 d_law_358 d_law_359 rfl (by omega) rfl rfl ?_
  refine VL.sarg (j := 2) hC d_law_360 d_law_361 d_law_362 d_law_363 d_law_364 rfl (by omega) rfl rfl ?_
  refine VL.callCI hC (w_P_wall w σ (xs (i + 1)) (xs (i + 2)) _ hm) d_law_365 mo_P_wall qm_L_39 rfl rfl rfl rfl rfl (Nat.le_of_ble_eq_true rfl) (fun r1 σ1 hm => ?_)
  refine VL.aload_n hC d_law_368 rfl rfl ?_
  refine VL.sarg (j := 1) hC d_law_369 d_law_370 d_law_371 d_law_372 d_law_373 rfl (by omega) rfl rfl ?_
  refine VL.sarg (j := 2) hC d_law_374 d_law_375 d_law_376 d_law_377 d_law_378 rfl (by omega) rfl rfl ?_
  refine VL.callRI hC (w_R_wall v τ (xs (i + 1)) (xs (i + 2)) _ hm) d_law_379 mo_R_wall qm_L_42 rfl rfl rfl rfl rfl (Nat.le_of_ble_eq_true rfl) (fun r2 τ1 hm => ?_)
  obtain ⟨e9, hm⟩ := hm
  refine VL.icmp_eq (tgt := 1369) hC d_law_382 (by decide) e9 ?_
  exact kk σ1 τ1 hm
/-- P_suit: what is to be shown of the two pictures -/
def H_suit (Rel : Hp → Hp → Prop) : Prop := ∀ (σ τ : Hp) (x1 x2 x3 : Int32) , Rel σ τ → wp_P_suit σ x1 x2 x3 (fun r1 σ1 => wp_R_suit τ x1 x2 x3 (fun r2 τ1 => r1 = r2 ∧ Rel σ1 τ1))
set_option maxRecDepth 100000 in
theorem lc_7 {w v : Wd} {κ : Kx} {b L i : Nat} {xs : Nat → Int32} {Rel : Hp → Hp → Prop} (hC : CxL w v κ b L xs) (hi : i + 5 < L) (hH : H_suit Rel) (σ τ : Hp) (hrel : Rel σ τ) (kk : ∀ σ1 τ1, Rel σ1 τ1 → VL w v κ σ1 τ1 [some (.ref b), some (.ref (w.1 0)), some (.ref (v.1 0)), some (.int (nI i))] 1369 []) : VL w v κ σ τ [some (.ref b), some (.ref (w.1 0)), some (.ref (v.1 0)), some (.int (nI i))] 387 [] := by
  have hm := hH σ τ (xs (i + 1)) (xs (i + 2)) (xs (i + 3)) hrel
  refine VL.aload_n hC d_law_387 rfl rfl ?_
  refine VL.sarg (j := 1) hC d_law_388 d_law_389 d_law_390 d_law_391 d_law_392 rfl (by omega) rfl rfl ?_
  refine VL.sarg (j := 2) hC d_law_393 d_law_394 d_law_395 d_law_396 d_law_397 rfl (by omega) rfl rfl ?_
  refine VL.sarg (j := 3) hC d_law_398 d_law_399 d_law_400 d_law_401 d_law_402 rfl (by omega) rfl rfl ?_
  refine VL.callCI hC (w_P_suit w σ (xs (i + 1)) (xs (i + 2)) (xs (i + 3)) _ hm) d_law_403 mo_P_suit qm_L_43 rfl rfl rfl rfl rfl (Nat.le_of_ble_eq_true rfl) (fun r1 σ1 hm => ?_)
  refine VL.aload_n hC d_law_406 rfl rfl ?_
  refine VL.sarg (j := 1) hC d_law_407 d_law_408 d_law_409 d_law_410 d_law_411 rfl (by omega) rfl rfl ?_
  refine VL.sarg (j := 2) hC d_law_412 d_law_413 d_law_414 d_law_415 d_law_416 rfl (by omega) rfl rfl ?_
  refine VL.sarg (j := 3) hC d_law_417 d_law_418 d_law_419 d_law_420 d_law_421 rfl (by omega) rfl rfl ?_
  refine VL.callRI hC (w_R_suit v τ (xs (i + 1)) (xs (i + 2)) (xs (i + 3)) _ hm) d_law_422 mo_R_suit qm_L_47 rfl rfl rfl rfl rfl (Nat.le_of_ble_eq_true rfl) (fun r2 τ1 hm => ?_)
  obtain ⟨e9, hm⟩ := hm
  refine VL.icmp_eq (tgt := 1369) hC d_law_425 (by decide) e9 ?_
  exact kk σ1 τ1 hm
/-- P_shut: what is to be shown of the two pictures -/
def H_shut (Rel : Hp → Hp → Prop) : Prop := ∀ (σ τ : Hp) (x1 x2 : Int32) , Rel σ τ → wp_P_shut σ x1 x2 (fun r1 σ1 => wp_R_shut τ x1 x2 (fun r2 τ1 => r1 = r2 ∧ Rel σ1 τ1))
set_option maxRecDepth 100000 in
theorem lc_8 {w v : Wd} {κ : Kx} {b L i : Nat} {xs : Nat → Int32} {Rel : Hp → Hp → Prop} (hC : CxL w v κ b L xs) (hi : i + 5 < L) (hH : H_shut Rel) (σ τ : Hp) (hrel : Rel σ τ) (kk : ∀ σ1 τ1, Rel σ1 τ1 → VL w v κ σ1 τ1 [some (.ref b), some (.ref (w.1 0)), some (.ref (v.1 0)), some (.int (nI i))] 1369 []) : VL w v κ σ τ [some (.ref b), some (.ref (w.1 0)), some (.ref (v.1 0)), some (.int (nI i))] 430 [] := by
  have hm := hH σ τ (xs (i + 1)) (xs (i + 2)) hrel
  refine VL.aload_n hC d_law_430 rfl rfl ?_
  refine VL.sarg (j := 1) hC d_law_431 d_law_432 d_law_433 d_law_434 d_law_435 rfl (by omega) rfl rfl ?_
  refine VL.sarg (j := 2) hC d_law_436 d_law_437 d_law_438 d_law_439 d_law_440 rfl (by omega) rfl rfl ?_
  refine VL.callCI hC (w_P_shut w σ (xs (i + 1)) (xs (i + 2)) _ hm) d_law_441 mo_P_shut qm_L_48 rfl rfl rfl rfl rfl (Nat.le_of_ble_eq_true rfl) (fun r1 σ1 hm => ?_)
  refine VL.aload_n hC d_law_444 rfl rfl ?_
  refine VL.sarg (j := 1) hC d_law_445 d_law_446 d_law_447 d_law_448 d_law_449 rfl (by omega) rfl rfl ?_
  refine VL.sarg (j := 2) hC d_law_450 d_law_451 d_law_452 d_law_453 d_law_454 rfl (by omega) rfl rfl ?_
  refine VL.callRI hC (w_R_shut v τ (xs (i + 1)) (xs (i + 2)) _ hm) d_law_455 mo_R_shut qm_L_51 rfl rfl rfl rfl rfl (Nat.le_of_ble_eq_true rfl) (fun r2 τ1 hm => ?_)
  obtain ⟨e9, hm⟩ := hm
  refine VL.icmp_eq (tgt := 1369) hC d_law_458 (by decide) e9 ?_
  exact kk σ1 τ1 hm
/-- P_back: what is to be shown of the two pictures -/
def H_back (Rel : Hp → Hp → Prop) : Prop := ∀ (σ τ : Hp) (x1 : Int32) , Rel σ τ → wp_P_back σ x1 (fun r1 σ1 => wp_R_back τ x1 (fun r2 τ1 => r1 = r2 ∧ Rel σ1 τ1))
set_option maxRecDepth 100000 in
theorem lc_9 {w v : Wd} {κ : Kx} {b L i : Nat} {xs : Nat → Int32} {Rel : Hp → Hp → Prop} (hC : CxL w v κ b L xs) (hi : i + 5 < L) (hH : H_back Rel) (σ τ : Hp) (hrel : Rel σ τ) (kk : ∀ σ1 τ1, Rel σ1 τ1 → VL w v κ σ1 τ1 [some (.ref b), some (.ref (w.1 0)), some (.ref (v.1 0)), some (.int (nI i))] 1369 []) : VL w v κ σ τ [some (.ref b), some (.ref (w.1 0)), some (.ref (v.1 0)), some (.int (nI i))] 463 [] := by
  have hm := hH σ τ (xs (i + 1)) hrel
  refine VL.aload_n hC d_law_463 rfl rfl ?_
  refine VL.sarg (j := 1) hC d_law_464 d_law_465 d_law_466 d_law_467 d_law_468 rfl (by omega) rfl rfl ?_
  refine VL.callCI hC (w_P_back w σ (xs (i + 1)) _ hm) d_law_469 mo_P_back qm_L_52 rfl rfl rfl rfl rfl (Nat.le_of_ble_eq_true rfl) (fun r1 σ1 hm => ?_)
  refine VL.aload_n hC d_law_472 rfl rfl ?_
  refine VL.sarg (j := 1) hC d_law_473 d_law_474 d_law_475 d_law_476 d_law_477 rfl (by omega) rfl rfl ?_
  refine VL.callRI hC (w_R_back v τ (xs (i + 1)) _ hm) d_law_478 mo_R_back qm_L_55 rfl rfl rfl rfl rfl (Nat.le_of_ble_eq_true rfl) (fun r2 τ1 hm => ?_)
  obtain ⟨e9, hm⟩ := hm
  refine VL.icmp_eq (tgt := 1369) hC d_law_481 (by decide) e9 ?_
  exact kk σ1 τ1 hm
/-- P_read: what is to be shown of the two pictures -/
def H_read (Rel : Hp → Hp → Prop) : Prop := ∀ (σ τ : Hp) (x1 : Int32) , Rel σ τ → wp_P_read σ x1 (fun r1 σ1 => wp_R_read τ x1 (fun r2 τ1 => r1 = r2 ∧ Rel σ1 τ1))
set_option maxRecDepth 100000 in
theorem lc_10 {w v : Wd} {κ : Kx} {b L i : Nat} {xs : Nat → Int32} {Rel : Hp → Hp → Prop} (hC : CxL w v κ b L xs) (hi : i + 5 < L) (hH : H_read Rel) (σ τ : Hp) (hrel : Rel σ τ) (kk : ∀ σ1 τ1, Rel σ1 τ1 → VL w v κ σ1 τ1 [some (.ref b), some (.ref (w.1 0)), some (.ref (v.1 0)), some (.int (nI i))] 1369 []) : VL w v κ σ τ [some (.ref b), some (.ref (w.1 0)), some (.ref (v.1 0)), some (.int (nI i))] 486 [] := by
  have hm := hH σ τ (xs (i + 1)) hrel
  refine VL.aload_n hC d_law_486 rfl rfl ?_
  refine VL.sarg (j := 1) hC d_law_487 d_law_488 d_law_489 d_law_490 d_law_491 rfl (by omega) rfl rfl ?_
  refine VL.callCI hC (w_P_read w σ (xs (i + 1)) _ hm) d_law_492 mo_P_read qm_L_56 rfl rfl rfl rfl rfl (Nat.le_of_ble_eq_true rfl) (fun r1 σ1 hm => ?_)
  refine VL.aload_n hC d_law_495 rfl rfl ?_
  refine VL.sarg (j := 1) hC d_law_496 d_law_497 d_law_498 d_law_499 d_law_500 rfl (by omega) rfl rfl ?_
  refine VL.callRI hC (w_R_read v τ (xs (i + 1)) _ hm) d_law_501 mo_R_read qm_L_59 rfl rfl rfl rfl rfl (Nat.le_of_ble_eq_true rfl) (fun r2 τ1 hm => ?_)
  obtain ⟨e9, hm⟩ := hm
  refine VL.icmp_eq (tgt := 1369) hC d_law_504 (by decide) e9 ?_
  exact kk σ1 τ1 hm
/-- P_through: what is to be shown of the two pictures -/
def H_through (Rel : Hp → Hp → Prop) : Prop := ∀ (σ τ : Hp) (x1 x2 : Int32) , Rel σ τ → wp_P_through σ x1 x2 (fun r1 σ1 => wp_R_through τ x1 x2 (fun r2 τ1 => r1 = r2 ∧ Rel σ1 τ1))
set_option maxRecDepth 100000 in
theorem lc_11 {w v : Wd} {κ : Kx} {b L i : Nat} {xs : Nat → Int32} {Rel : Hp → Hp → Prop} (hC : CxL w v κ b L xs) (hi : i + 5 < L) (hH : H_through Rel) (σ τ : Hp) (hrel : Rel σ τ) (kk : ∀ σ1 τ1, Rel σ1 τ1 → VL w v κ σ1 τ1 [some (.ref b), some (.ref (w.1 0)), some (.ref (v.1 0)), some (.int (nI i))] 1369 []) : VL w v κ σ τ [some (.ref b), some (.ref (w.1 0)), some (.ref (v.1 0)), some (.int (nI i))] 509 [] := by
  have hm := hH σ τ (xs (i + 1)) (xs (i + 2)) hrel
  refine VL.aload_n hC d_law_509 rfl rfl ?_
  refine VL.sarg (j := 1) hC d_law_510 d_law_511 d_law_512 d_law_513 d_law_514 rfl (by omega) rfl rfl ?_
  refine VL.sarg (j := 2) hC d_law_515 d_law_516 d_law_517 d_law_518 d_law_519 rfl (by omega) rfl rfl ?_
  refine VL.callCI hC (w_P_through w σ (xs (i + 1)) (xs (i + 2)) _ hm) d_law_520 mo_P_through qm_L_60 rfl rfl rfl rfl rfl (Nat.le_of_ble_eq_true rfl) (fun r1 σ1 hm => ?_)
  refine VL.aload_n hC d_law_523 rfl rfl ?_
  refine VL.sarg (j := 1) hC d_law_524 d_law_525 d_law_526 d_law_527 d_law_528 rfl (by omega) rfl rfl ?_
  refine VL.sarg (j := 2) hC d_law_529 d_law_530 d_law_531 d_law_532 d_law_533 rfl (by omega) rfl rfl ?_
  refine VL.callRI hC (w_R_through v τ (xs (i + 1)) (xs (i + 2)) _ hm) d_law_534 mo_R_through qm_L_63 rfl rfl rfl rfl rfl (Nat.le_of_ble_eq_true rfl) (fun r2 τ1 hm => ?_)
  obtain ⟨e9, hm⟩ := hm
  refine VL.icmp_eq (tgt := 1369) hC d_law_537 (by decide) e9 ?_
  exact kk σ1 τ1 hm
/-- P_owes: what is to be shown of the two pictures -/
def H_owes (Rel : Hp → Hp → Prop) : Prop := ∀ (σ τ : Hp) (x1 x2 x3 : Int32) , Rel σ τ → wp_P_owes σ x1 x2 x3 (fun r1 σ1 => wp_R_owes τ x1 x2 x3 (fun r2 τ1 => r1 = r2 ∧ Rel σ1 τ1))
set_option maxRecDepth 100000 in
theorem lc_12 {w v : Wd} {κ : Kx} {b L i : Nat} {xs : Nat → Int32} {Rel : Hp → Hp → Prop} (hC : CxL w v κ b L xs) (hi : i + 5 < L) (hH : H_owes Rel) (σ τ : Hp) (hrel : Rel σ τ) (kk : ∀ σ1 τ1, Rel σ1 τ1 → VL w v κ σ1 τ1 [some (.ref b), some (.ref (w.1 0)), some (.ref (v.1 0)), some (.int (nI i))] 1369 []) : VL w v κ σ τ [some (.ref b), some (.ref (w.1 0)), some (.ref (v.1 0)), some (.int (nI i))] 542 [] := by
  have hm := hH σ τ (xs (i + 1)) (xs (i + 2)) (xs (i + 3)) hrel
  refine VL.aload_n hC d_law_542 rfl rfl ?_
  refine VL.sarg (j := 1) hC d_law_543 d_law_544 d_law_545 d_law_546 d_law_547 rfl (by omega) rfl rfl ?_
  refine VL.sarg (j := 2) hC d_law_548 d_law_549 d_law_550 d_law_551 d_law_552 rfl (by omega) rfl rfl ?_
  refine VL.sarg (j := 3) hC d_law_553 d_law_554 d_law_555 d_law_556 d_law_557 rfl (by omega) rfl rfl ?_
  refine VL.callCI hC (w_P_owes w σ (xs (i + 1)) (xs (i + 2)) (xs (i + 3)) _ hm) d_law_558 mo_P_owes qm_L_64 rfl rfl rfl rfl rfl (Nat.le_of_ble_eq_true rfl) (fun r1 σ1 hm => ?_)
  refine VL.aload_n hC d_law_561 rfl rfl ?_
  refine VL.sarg (j := 1) hC d_law_562 d_law_563 d_law_564 d_law_565 d_law_566 rfl (by omega) rfl rfl ?_
  refine VL.sarg (j := 2) hC d_law_567 d_law_568 d_law_569 d_law_570 d_law_571 rfl (by omega) rfl rfl ?_
  refine VL.sarg (j := 3) hC d_law_572 d_law_573 d_law_574 d_law_575 d_law_576 rfl (by omega) rfl rfl ?_
  refine VL.callRI hC (w_R_owes v τ (xs (i + 1)) (xs (i + 2)) (xs (i + 3)) _ hm) d_law_577 mo_R_owes qm_L_67 rfl rfl rfl rfl rfl (Nat.le_of_ble_eq_true rfl) (fun r2 τ1 hm => ?_)
  obtain ⟨e9, hm⟩ := hm
  refine VL.icmp_eq (tgt := 1369) hC d_law_580 (by decide) e9 ?_
  exact kk σ1 τ1 hm
/-- P_balance: what is to be shown of the two pictures -/
def H_balance (Rel : Hp → Hp → Prop) : Prop := ∀ (σ τ : Hp) (x1 x2 : Int32) , Rel σ τ → wp_P_balance σ x1 x2 (fun r1 σ1 => wp_R_balance τ x1 x2 (fun r2 τ1 => r1 = r2 ∧ Rel σ1 τ1))
set_option maxRecDepth 100000 in
theorem lc_13 {w v : Wd} {κ : Kx} {b L i : Nat} {xs : Nat → Int32} {Rel : Hp → Hp → Prop} (hC : CxL w v κ b L xs) (hi : i + 5 < L) (hH : H_balance Rel) (σ τ : Hp) (hrel : Rel σ τ) (kk : ∀ σ1 τ1, Rel σ1 τ1 → VL w v κ σ1 τ1 [some (.ref b), some (.ref (w.1 0)), some (.ref (v.1 0)), some (.int (nI i))] 1369 []) : VL w v κ σ τ [some (.ref b), some (.ref (w.1 0)), some (.ref (v.1 0)), some (.int (nI i))] 585 [] := by
  have hm := hH σ τ (xs (i + 1)) (xs (i + 2)) hrel
  refine VL.aload_n hC d_law_585 rfl rfl ?_
  refine VL.sarg (j := 1) hC d_law_586 d_law_587 d_law_588 d_law_589 d_law_590 rfl (by omega) rfl rfl ?_
  refine VL.sarg (j := 2) hC d_law_591 d_law_592 d_law_593 d_law_594 d_law_595 rfl (by omega) rfl rfl ?_
  refine VL.callCI hC (w_P_balance w σ (xs (i + 1)) (xs (i + 2)) _ hm) d_law_596 mo_P_balance qm_L_68 rfl rfl rfl rfl rfl (Nat.le_of_ble_eq_true rfl) (fun r1 σ1 hm => ?_)
  refine VL.aload_n hC d_law_599 rfl rfl ?_
  refine VL.sarg (j := 1) hC d_law_600 d_law_601 d_law_602 d_law_603 d_law_604 rfl (by omega) rfl rfl ?_
  refine VL.sarg (j := 2) hC d_law_605 d_law_606 d_law_607 d_law_608 d_law_609 rfl (by omega) rfl rfl ?_
  refine VL.callRI hC (w_R_balance v τ (xs (i + 1)) (xs (i + 2)) _ hm) d_law_610 mo_R_balance qm_L_71 rfl rfl rfl rfl rfl (Nat.le_of_ble_eq_true rfl) (fun r2 τ1 hm => ?_)
  obtain ⟨e9, hm⟩ := hm
  refine VL.icmp_eq (tgt := 1369) hC d_law_613 (by decide) e9 ?_
  exact kk σ1 τ1 hm
/-- P_coin: what is to be shown of the two pictures -/
def H_coin (Rel : Hp → Hp → Prop) : Prop := ∀ (σ τ : Hp) (x1 : Int32) , Rel σ τ → wp_P_coin σ x1 (fun r1 σ1 => wp_R_coin τ x1 (fun r2 τ1 => r1 = r2 ∧ Rel σ1 τ1))
set_option maxRecDepth 100000 in
theorem lc_14 {w v : Wd} {κ : Kx} {b L i : Nat} {xs : Nat → Int32} {Rel : Hp → Hp → Prop} (hC : CxL w v κ b L xs) (hi : i + 5 < L) (hH : H_coin Rel) (σ τ : Hp) (hrel : Rel σ τ) (kk : ∀ σ1 τ1, Rel σ1 τ1 → VL w v κ σ1 τ1 [some (.ref b), some (.ref (w.1 0)), some (.ref (v.1 0)), some (.int (nI i))] 1369 []) : VL w v κ σ τ [some (.ref b), some (.ref (w.1 0)), some (.ref (v.1 0)), some (.int (nI i))] 618 [] := by
  have hm := hH σ τ (xs (i + 1)) hrel
  refine VL.aload_n hC d_law_618 rfl rfl ?_
  refine VL.sarg (j := 1) hC d_law_619 d_law_620 d_law_621 d_law_622 d_law_623 rfl (by omega) rfl rfl ?_
  refine VL.callCI hC (w_P_coin w σ (xs (i + 1)) _ hm) d_law_624 mo_P_coin qm_L_72 rfl rfl rfl rfl rfl (Nat.le_of_ble_eq_true rfl) (fun r1 σ1 hm => ?_)
  refine VL.aload_n hC d_law_627 rfl rfl ?_
  refine VL.sarg (j := 1) hC d_law_628 d_law_629 d_law_630 d_law_631 d_law_632 rfl (by omega) rfl rfl ?_
  refine VL.callRI hC (w_R_coin v τ (xs (i + 1)) _ hm) d_law_633 mo_R_coin qm_L_75 rfl rfl rfl rfl rfl (Nat.le_of_ble_eq_true rfl) (fun r2 τ1 hm => ?_)
  obtain ⟨e9, hm⟩ := hm
  refine VL.icmp_eq (tgt := 1369) hC d_law_636 (by decide) e9 ?_
  exact kk σ1 τ1 hm
/-- P_broke: what is to be shown of the two pictures -/
def H_broke (Rel : Hp → Hp → Prop) : Prop := ∀ (σ τ : Hp) (x1 : Int32) , Rel σ τ → wp_P_broke σ x1 (fun r1 σ1 => wp_R_broke τ x1 (fun r2 τ1 => r1 = r2 ∧ Rel σ1 τ1))
set_option maxRecDepth 100000 in
theorem lc_15 {w v : Wd} {κ : Kx} {b L i : Nat} {xs : Nat → Int32} {Rel : Hp → Hp → Prop} (hC : CxL w v κ b L xs) (hi : i + 5 < L) (hH : H_broke Rel) (σ τ : Hp) (hrel : Rel σ τ) (kk : ∀ σ1 τ1, Rel σ1 τ1 → VL w v κ σ1 τ1 [some (.ref b), some (.ref (w.1 0)), some (.ref (v.1 0)), some (.int (nI i))] 1369 []) : VL w v κ σ τ [some (.ref b), some (.ref (w.1 0)), some (.ref (v.1 0)), some (.int (nI i))] 641 [] := by
  have hm := hH σ τ (xs (i + 1)) hrel
  refine VL.aload_n hC d_law_641 rfl rfl ?_
  refine VL.sarg (j := 1) hC d_law_642 d_law_643 d_law_644 d_law_645 d_law_646 rfl (by omega) rfl rfl ?_
  refine VL.callCI hC (w_P_broke w σ (xs (i + 1)) _ hm) d_law_647 mo_P_broke qm_L_76 rfl rfl rfl rfl rfl (Nat.le_of_ble_eq_true rfl) (fun r1 σ1 hm => ?_)
  refine VL.aload_n hC d_law_650 rfl rfl ?_
  refine VL.sarg (j := 1) hC d_law_651 d_law_652 d_law_653 d_law_654 d_law_655 rfl (by omega) rfl rfl ?_
  refine VL.callRI hC (w_R_broke v τ (xs (i + 1)) _ hm) d_law_656 mo_R_broke qm_L_79 rfl rfl rfl rfl rfl (Nat.le_of_ble_eq_true rfl) (fun r2 τ1 hm => ?_)
  obtain ⟨e9, hm⟩ := hm
  refine VL.icmp_eq (tgt := 1369) hC d_law_659 (by decide) e9 ?_
  exact kk σ1 τ1 hm
/-- P_richest: what is to be shown of the two pictures -/
def H_richest (Rel : Hp → Hp → Prop) : Prop := ∀ (σ τ : Hp) (x1 : Int32) , Rel σ τ → wp_P_richest σ x1 (fun r1 σ1 => wp_R_richest τ x1 (fun r2 τ1 => r1 = r2 ∧ Rel σ1 τ1))
set_option maxRecDepth 100000 in
theorem lc_16 {w v : Wd} {κ : Kx} {b L i : Nat} {xs : Nat → Int32} {Rel : Hp → Hp → Prop} (hC : CxL w v κ b L xs) (hi : i + 5 < L) (hH : H_richest Rel) (σ τ : Hp) (hrel : Rel σ τ) (kk : ∀ σ1 τ1, Rel σ1 τ1 → VL w v κ σ1 τ1 [some (.ref b), some (.ref (w.1 0)), some (.ref (v.1 0)), some (.int (nI i))] 1369 []) : VL w v κ σ τ [some (.ref b), some (.ref (w.1 0)), some (.ref (v.1 0)), some (.int (nI i))] 664 [] := by
  have hm := hH σ τ (xs (i + 1)) hrel
  refine VL.aload_n hC d_law_664 rfl rfl ?_
  refine VL.sarg (j := 1) hC d_law_665 d_law_666 d_law_667 d_law_668 d_law_669 rfl (by omega) rfl rfl ?_
  refine VL.callCI hC (w_P_richest w σ (xs (i + 1)) _ hm) d_law_670 mo_P_richest qm_L_80 rfl rfl rfl rfl rfl (Nat.le_of_ble_eq_true rfl) (fun r1 σ1 hm => ?_)
  refine VL.aload_n hC d_law_673 rfl rfl ?_
  refine VL.sarg (j := 1) hC d_law_674 d_law_675 d_law_676 d_law_677 d_law_678 rfl (by omega) rfl rfl ?_
  refine VL.callRI hC (w_R_richest v τ (xs (i + 1)) _ hm) d_law_679 mo_R_richest qm_L_83 rfl rfl rfl rfl rfl (Nat.le_of_ble_eq_true rfl) (fun r2 τ1 hm => ?_)
  obtain ⟨e9, hm⟩ := hm
  refine VL.icmp_eq (tgt := 1369) hC d_law_682 (by decide) e9 ?_
  exact kk σ1 τ1 hm
/-- P_payments: what is to be shown of the two pictures -/
def H_payments (Rel : Hp → Hp → Prop) : Prop := ∀ (σ τ : Hp) (x1 : Int32) , Rel σ τ → wp_P_payments σ x1 (fun r1 σ1 => wp_R_payments τ x1 (fun r2 τ1 => r1 = r2 ∧ Rel σ1 τ1))
set_option maxRecDepth 100000 in
theorem lc_17 {w v : Wd} {κ : Kx} {b L i : Nat} {xs : Nat → Int32} {Rel : Hp → Hp → Prop} (hC : CxL w v κ b L xs) (hi : i + 5 < L) (hH : H_payments Rel) (σ τ : Hp) (hrel : Rel σ τ) (kk : ∀ σ1 τ1, Rel σ1 τ1 → VL w v κ σ1 τ1 [some (.ref b), some (.ref (w.1 0)), some (.ref (v.1 0)), some (.int (nI i))] 1369 []) : VL w v κ σ τ [some (.ref b), some (.ref (w.1 0)), some (.ref (v.1 0)), some (.int (nI i))] 687 [] := by
  have hm := hH σ τ (xs (i + 1)) hrel
  refine VL.aload_n hC d_law_687 rfl rfl ?_
  refine VL.sarg (j := 1) hC d_law_688 d_law_689 d_law_690 d_law_691 d_law_692 rfl (by omega) rfl rfl ?_
  refine VL.callCI hC (w_P_payments w σ (xs (i + 1)) _ hm) d_law_693 mo_P_payments qm_L_84 rfl rfl rfl rfl rfl (Nat.le_of_ble_eq_true rfl) (fun r1 σ1 hm => ?_)
  refine VL.aload_n hC d_law_696 rfl rfl ?_
  refine VL.sarg (j := 1) hC d_law_697 d_law_698 d_law_699 d_law_700 d_law_701 rfl (by omega) rfl rfl ?_
  refine VL.callRI hC (w_R_payments v τ (xs (i + 1)) _ hm) d_law_702 mo_R_payments qm_L_87 rfl rfl rfl rfl rfl (Nat.le_of_ble_eq_true rfl) (fun r2 τ1 hm => ?_)
  obtain ⟨e9, hm⟩ := hm
  refine VL.icmp_eq (tgt := 1369) hC d_law_705 (by decide) e9 ?_
  exact kk σ1 τ1 hm
/-- P_rings: what is to be shown of the two pictures -/
def H_rings (Rel : Hp → Hp → Prop) : Prop := ∀ (σ τ : Hp) (x1 x2 : Int32) , Rel σ τ → wp_P_rings σ x1 x2 (fun r1 σ1 => wp_R_rings τ x1 x2 (fun r2 τ1 => r1 = r2 ∧ Rel σ1 τ1))
set_option maxRecDepth 100000 in
theorem lc_18 {w v : Wd} {κ : Kx} {b L i : Nat} {xs : Nat → Int32} {Rel : Hp → Hp → Prop} (hC : CxL w v κ b L xs) (hi : i + 5 < L) (hH : H_rings Rel) (σ τ : Hp) (hrel : Rel σ τ) (kk : ∀ σ1 τ1, Rel σ1 τ1 → VL w v κ σ1 τ1 [some (.ref b), some (.ref (w.1 0)), some (.ref (v.1 0)), some (.int (nI i))] 1369 []) : VL w v κ σ τ [some (.ref b), some (.ref (w.1 0)), some (.ref (v.1 0)), some (.int (nI i))] 710 [] := by
  have hm := hH σ τ (xs (i + 1)) (xs (i + 2)) hrel
  refine VL.aload_n hC d_law_710 rfl rfl ?_
  refine VL.sarg (j := 1) hC d_law_711 d_law_712 d_law_713 d_law_714 d_law_715 rfl (by omega) rfl rfl ?_
  refine VL.sarg (j := 2) hC d_law_716 d_law_717 d_law_718 d_law_719 d_law_720 rfl (by omega) rfl rfl ?_
  refine VL.callCI hC (w_P_rings w σ (xs (i + 1)) (xs (i + 2)) _ hm) d_law_721 mo_P_rings qm_L_88 rfl rfl rfl rfl rfl (Nat.le_of_ble_eq_true rfl) (fun r1 σ1 hm => ?_)
  refine VL.aload_n hC d_law_724 rfl rfl ?_
  refine VL.sarg (j := 1) hC d_law_725 d_law_726 d_law_727 d_law_728 d_law_729 rfl (by omega) rfl rfl ?_
  refine VL.sarg (j := 2) hC d_law_730 d_law_731 d_law_732 d_law_733 d_law_734 rfl (by omega) rfl rfl ?_
  refine VL.callRI hC (w_R_rings v τ (xs (i + 1)) (xs (i + 2)) _ hm) d_law_735 mo_R_rings qm_L_91 rfl rfl rfl rfl rfl (Nat.le_of_ble_eq_true rfl) (fun r2 τ1 hm => ?_)
  obtain ⟨e9, hm⟩ := hm
  refine VL.icmp_eq (tgt := 1369) hC d_law_738 (by decide) e9 ?_
  exact kk σ1 τ1 hm
/-- P_build: what is to be shown of the two pictures -/
def H_build (Rel : Hp → Hp → Prop) : Prop := ∀ (σ τ : Hp) (x1 x2 x3 : Int32) , Rel σ τ → wp_P_build σ x1 x2 x3 (fun r1 σ1 => wp_R_build τ x1 x2 x3 (fun r2 τ1 => r1 = r2 ∧ Rel σ1 τ1))
set_option maxRecDepth 100000 in
theorem lc_19 {w v : Wd} {κ : Kx} {b L i : Nat} {xs : Nat → Int32} {Rel : Hp → Hp → Prop} (hC : CxL w v κ b L xs) (hi : i + 5 < L) (hH : H_build Rel) (σ τ : Hp) (hrel : Rel σ τ) (kk : ∀ σ1 τ1, Rel σ1 τ1 → VL w v κ σ1 τ1 [some (.ref b), some (.ref (w.1 0)), some (.ref (v.1 0)), some (.int (nI i))] 1369 []) : VL w v κ σ τ [some (.ref b), some (.ref (w.1 0)), some (.ref (v.1 0)), some (.int (nI i))] 743 [] := by
  have hm := hH σ τ (xs (i + 1)) (xs (i + 2)) (xs (i + 3)) hrel
  refine VL.aload_n hC d_law_743 rfl rfl ?_
  refine VL.sarg (j := 1) hC d_law_744 d_law_745 d_law_746 d_law_747 d_law_748 rfl (by omega) rfl rfl ?_
  refine VL.sarg (j := 2) hC d_law_749 d_law_750 d_law_751 d_law_752 d_law_753 rfl (by omega) rfl rfl ?_
  refine VL.sarg (j := 3) hC d_law_754 d_law_755 d_law_756 d_law_757 d_law_758 rfl (by omega) rfl rfl ?_
  refine VL.callCI hC (w_P_build w σ (xs (i + 1)) (xs (i + 2)) (xs (i + 3)) _ hm) d_law_759 mo_P_build qm_L_92 rfl rfl rfl rfl rfl (Nat.le_of_ble_eq_true rfl) (fun r1 σ1 hm => ?_)
  refine VL.aload_n hC d_law_762 rfl rfl ?_
  refine VL.sarg (j := 1) hC d_law_763 d_law_764 d_law_765 d_law_766 d_law_767 rfl (by omega) rfl rfl ?_
  refine VL.sarg (j := 2) hC d_law_768 d_law_769 d_law_770 d_law_771 d_law_772 rfl (by omega) rfl rfl ?_
  refine VL.sarg (j := 3) hC d_law_773 d_law_774 d_law_775 d_law_776 d_law_777 rfl (by omega) rfl rfl ?_
  refine VL.callRI hC (w_R_build v τ (xs (i + 1)) (xs (i + 2)) (xs (i + 3)) _ hm) d_law_778 mo_R_build qm_L_95 rfl rfl rfl rfl rfl (Nat.le_of_ble_eq_true rfl) (fun r2 τ1 hm => ?_)
  obtain ⟨e9, hm⟩ := hm
  refine VL.icmp_eq (tgt := 1369) hC d_law_781 (by decide) e9 ?_
  exact kk σ1 τ1 hm
/-- P_fair: what is to be shown of the two pictures -/
def H_fair (Rel : Hp → Hp → Prop) : Prop := ∀ (σ τ : Hp) (x1 x2 x3 : Int32) , Rel σ τ → wp_P_fair σ x1 x2 x3 (fun r1 σ1 => wp_R_fair τ x1 x2 x3 (fun r2 τ1 => r1 = r2 ∧ Rel σ1 τ1))
set_option maxRecDepth 100000 in
theorem lc_20 {w v : Wd} {κ : Kx} {b L i : Nat} {xs : Nat → Int32} {Rel : Hp → Hp → Prop} (hC : CxL w v κ b L xs) (hi : i + 5 < L) (hH : H_fair Rel) (σ τ : Hp) (hrel : Rel σ τ) (kk : ∀ σ1 τ1, Rel σ1 τ1 → VL w v κ σ1 τ1 [some (.ref b), some (.ref (w.1 0)), some (.ref (v.1 0)), some (.int (nI i))] 1369 []) : VL w v κ σ τ [some (.ref b), some (.ref (w.1 0)), some (.ref (v.1 0)), some (.int (nI i))] 786 [] := by
  have hm := hH σ τ (xs (i + 1)) (xs (i + 2)) (xs (i + 3)) hrel
  refine VL.aload_n hC d_law_786 rfl rfl ?_
  refine VL.sarg (j := 1) hC d_law_787 d_law_788 d_law_789 d_law_790 d_law_791 rfl (by omega) rfl rfl ?_
  refine VL.sarg (j := 2) hC d_law_792 d_law_793 d_law_794 d_law_795 d_law_796 rfl (by omega) rfl rfl ?_
  refine VL.sarg (j := 3) hC d_law_797 d_law_798 d_law_799 d_law_800 d_law_801 rfl (by omega) rfl rfl ?_
  refine VL.callCI hC (w_P_fair w σ (xs (i + 1)) (xs (i + 2)) (xs (i + 3)) _ hm) d_law_802 mo_P_fair qm_L_96 rfl rfl rfl rfl rfl (Nat.le_of_ble_eq_true rfl) (fun r1 σ1 hm => ?_)
  refine VL.aload_n hC d_law_805 rfl rfl ?_
  refine VL.sarg (j := 1) hC d_law_806 d_law_807 d_law_808 d_law_809 d_law_810 rfl (by omega) rfl rfl ?_
  refine VL.sarg (j := 2) hC d_law_811 d_law_812 d_law_813 d_law_814 d_law_815 rfl (by omega) rfl rfl ?_
  refine VL.sarg (j := 3) hC d_law_816 d_law_817 d_law_818 d_law_819 d_law_820 rfl (by omega) rfl rfl ?_
  refine VL.callRI hC (w_R_fair v τ (xs (i + 1)) (xs (i + 2)) (xs (i + 3)) _ hm) d_law_821 mo_R_fair qm_L_99 rfl rfl rfl rfl rfl (Nat.le_of_ble_eq_true rfl) (fun r2 τ1 hm => ?_)
  obtain ⟨e9, hm⟩ := hm
  refine VL.icmp_eq (tgt := 1369) hC d_law_824 (by decide) e9 ?_
  exact kk σ1 τ1 hm
/-- P_drop: what is to be shown of the two pictures -/
def H_drop (Rel : Hp → Hp → Prop) : Prop := ∀ (σ τ : Hp) (x1 x2 : Int32) , Rel σ τ → wp_P_drop σ x1 x2 (fun r1 σ1 => wp_R_drop τ x1 x2 (fun r2 τ1 => r1 = r2 ∧ Rel σ1 τ1))
set_option maxRecDepth 100000 in
theorem lc_21 {w v : Wd} {κ : Kx} {b L i : Nat} {xs : Nat → Int32} {Rel : Hp → Hp → Prop} (hC : CxL w v κ b L xs) (hi : i + 5 < L) (hH : H_drop Rel) (σ τ : Hp) (hrel : Rel σ τ) (kk : ∀ σ1 τ1, Rel σ1 τ1 → VL w v κ σ1 τ1 [some (.ref b), some (.ref (w.1 0)), some (.ref (v.1 0)), some (.int (nI i))] 1369 []) : VL w v κ σ τ [some (.ref b), some (.ref (w.1 0)), some (.ref (v.1 0)), some (.int (nI i))] 829 [] := by
  have hm := hH σ τ (xs (i + 1)) (xs (i + 2)) hrel
  refine VL.aload_n hC d_law_829 rfl rfl ?_
  refine VL.sarg (j := 1) hC d_law_830 d_law_831 d_law_832 d_law_833 d_law_834 rfl (by omega) rfl rfl ?_
  refine VL.sarg (j := 2) hC d_law_835 d_law_836 d_law_837 d_law_838 d_law_839 rfl (by omega) rfl rfl ?_
  refine VL.callCI hC (w_P_drop w σ (xs (i + 1)) (xs (i + 2)) _ hm) d_law_840 mo_P_drop qm_L_100 rfl rfl rfl rfl rfl (Nat.le_of_ble_eq_true rfl) (fun r1 σ1 hm => ?_)
  refine VL.aload_n hC d_law_843 rfl rfl ?_
  refine VL.sarg (j := 1) hC d_law_844 d_law_845 d_law_846 d_law_847 d_law_848 rfl (by omega) rfl rfl ?_
  refine VL.sarg (j := 2) hC d_law_849 d_law_850 d_law_851 d_law_852 d_law_853 rfl (by omega) rfl rfl ?_
  refine VL.callRI hC (w_R_drop v τ (xs (i + 1)) (xs (i + 2)) _ hm) d_law_854 mo_R_drop qm_L_103 rfl rfl rfl rfl rfl (Nat.le_of_ble_eq_true rfl) (fun r2 τ1 hm => ?_)
  obtain ⟨e9, hm⟩ := hm
  refine VL.icmp_eq (tgt := 1369) hC d_law_857 (by decide) e9 ?_
  exact kk σ1 τ1 hm
/-- P_seen: what is to be shown of the two pictures -/
def H_seen (Rel : Hp → Hp → Prop) : Prop := ∀ (σ τ : Hp) (x1 x2 x3 : Int32) , Rel σ τ → wp_P_seen σ x1 x2 x3 (fun r1 σ1 => wp_R_seen τ x1 x2 x3 (fun r2 τ1 => r1 = r2 ∧ Rel σ1 τ1))
set_option maxRecDepth 100000 in
theorem lc_22 {w v : Wd} {κ : Kx} {b L i : Nat} {xs : Nat → Int32} {Rel : Hp → Hp → Prop} (hC : CxL w v κ b L xs) (hi : i + 5 < L) (hH : H_seen Rel) (σ τ : Hp) (hrel : Rel σ τ) (kk : ∀ σ1 τ1, Rel σ1 τ1 → VL w v κ σ1 τ1 [some (.ref b), some (.ref (w.1 0)), some (.ref (v.1 0)), some (.int (nI i))] 1369 []) : VL w v κ σ τ [some (.ref b), some (.ref (w.1 0)), some (.ref (v.1 0)), some (.int (nI i))] 862 [] := by
  have hm := hH σ τ (xs (i + 1)) (xs (i + 2)) (xs (i + 3)) hrel
  refine VL.aload_n hC d_law_862 rfl rfl ?_
  refine VL.sarg (j := 1) hC d_law_863 d_law_864 d_law_865 d_law_866 d_law_867 rfl (by omega) rfl rfl ?_
  refine VL.sarg (j := 2) hC d_law_868 d_law_869 d_law_870 d_law_871 d_law_872 rfl (by omega) rfl rfl ?_
  refine VL.sarg (j := 3) hC d_law_873 d_law_874 d_law_875 d_law_876 d_law_877 rfl (by omega) rfl rfl ?_
  refine VL.callCI hC (w_P_seen w σ (xs (i + 1)) (xs (i + 2)) (xs (i + 3)) _ hm) d_law_878 mo_P_seen qm_L_104 rfl rfl rfl rfl rfl (Nat.le_of_ble_eq_true rfl) (fun r1 σ1 hm => ?_)
  refine VL.aload_n hC d_law_881 rfl rfl ?_
  refine VL.sarg (j := 1) hC d_law_882 d_law_883 d_law_884 d_law_885 d_law_886 rfl (by omega) rfl rfl ?_
  refine VL.sarg (j := 2) hC d_law_887 d_law_888 d_law_889 d_law_890 d_law_891 rfl (by omega) rfl rfl ?_
  refine VL.sarg (j := 3) hC d_law_892 d_law_893 d_law_894 d_law_895 d_law_896 rfl (by omega) rfl rfl ?_
  refine VL.callRI hC (w_R_seen v τ (xs (i + 1)) (xs (i + 2)) (xs (i + 3)) _ hm) d_law_897 mo_R_seen qm_L_107 rfl rfl rfl rfl rfl (Nat.le_of_ble_eq_true rfl) (fun r2 τ1 hm => ?_)
  obtain ⟨e9, hm⟩ := hm
  refine VL.icmp_eq (tgt := 1369) hC d_law_900 (by decide) e9 ?_
  exact kk σ1 τ1 hm
/-- P_forget: what is to be shown of the two pictures -/
def H_forget (Rel : Hp → Hp → Prop) : Prop := ∀ (σ τ : Hp) , Rel σ τ → wp_P_forget σ  (fun r1 σ1 => wp_R_forget τ  (fun r2 τ1 => r1 = r2 ∧ Rel σ1 τ1))
set_option maxRecDepth 100000 in
theorem lc_23 {w v : Wd} {κ : Kx} {b L i : Nat} {xs : Nat → Int32} {Rel : Hp → Hp → Prop} (hC : CxL w v κ b L xs) (hi : i + 5 < L) (hH : H_forget Rel) (σ τ : Hp) (hrel : Rel σ τ) (kk : ∀ σ1 τ1, Rel σ1 τ1 → VL w v κ σ1 τ1 [some (.ref b), some (.ref (w.1 0)), some (.ref (v.1 0)), some (.int (nI i))] 1369 []) : VL w v κ σ τ [some (.ref b), some (.ref (w.1 0)), some (.ref (v.1 0)), some (.int (nI i))] 905 [] := by
  have hm := hH σ τ  hrel
  refine VL.aload_n hC d_law_905 rfl rfl ?_
  refine VL.callCI hC (w_P_forget w σ  _ hm) d_law_906 mo_P_forget qm_L_108 rfl rfl rfl rfl rfl (Nat.le_of_ble_eq_true rfl) (fun r1 σ1 hm => ?_)
  refine VL.aload_n hC d_law_909 rfl rfl ?_
  refine VL.callRI hC (w_R_forget v τ  _ hm) d_law_910 mo_R_forget qm_L_112 rfl rfl rfl rfl rfl (Nat.le_of_ble_eq_true rfl) (fun r2 τ1 hm => ?_)
  obtain ⟨e9, hm⟩ := hm
  refine VL.icmp_eq (tgt := 1369) hC d_law_913 (by decide) e9 ?_
  exact kk σ1 τ1 hm
/-- P_never: what is to be shown of the two pictures -/
def H_never (Rel : Hp → Hp → Prop) : Prop := ∀ (σ τ : Hp) , Rel σ τ → wp_P_never σ  (fun r1 σ1 => wp_R_never τ  (fun r2 τ1 => r1 = r2 ∧ Rel σ1 τ1))
set_option maxRecDepth 100000 in
theorem lc_24 {w v : Wd} {κ : Kx} {b L i : Nat} {xs : Nat → Int32} {Rel : Hp → Hp → Prop} (hC : CxL w v κ b L xs) (hi : i + 5 < L) (hH : H_never Rel) (σ τ : Hp) (hrel : Rel σ τ) (kk : ∀ σ1 τ1, Rel σ1 τ1 → VL w v κ σ1 τ1 [some (.ref b), some (.ref (w.1 0)), some (.ref (v.1 0)), some (.int (nI i))] 1369 []) : VL w v κ σ τ [some (.ref b), some (.ref (w.1 0)), some (.ref (v.1 0)), some (.int (nI i))] 918 [] := by
  have hm := hH σ τ  hrel
  refine VL.aload_n hC d_law_918 rfl rfl ?_
  refine VL.callCI hC (w_P_never w σ  _ hm) d_law_919 mo_P_never qm_L_113 rfl rfl rfl rfl rfl (Nat.le_of_ble_eq_true rfl) (fun r1 σ1 hm => ?_)
  refine VL.aload_n hC d_law_922 rfl rfl ?_
  refine VL.callRI hC (w_R_never v τ  _ hm) d_law_923 mo_R_never qm_L_116 rfl rfl rfl rfl rfl (Nat.le_of_ble_eq_true rfl) (fun r2 τ1 hm => ?_)
  obtain ⟨e9, hm⟩ := hm
  refine VL.icmp_eq (tgt := 1369) hC d_law_926 (by decide) e9 ?_
  exact kk σ1 τ1 hm
/-- P_leaked: what is to be shown of the two pictures -/
def H_leaked (Rel : Hp → Hp → Prop) : Prop := ∀ (σ τ : Hp) (x1 : Int32) , Rel σ τ → wp_P_leaked σ x1 (fun r1 σ1 => wp_R_leaked τ x1 (fun r2 τ1 => r1 = r2 ∧ Rel σ1 τ1))
set_option maxRecDepth 100000 in
theorem lc_25 {w v : Wd} {κ : Kx} {b L i : Nat} {xs : Nat → Int32} {Rel : Hp → Hp → Prop} (hC : CxL w v κ b L xs) (hi : i + 5 < L) (hH : H_leaked Rel) (σ τ : Hp) (hrel : Rel σ τ) (kk : ∀ σ1 τ1, Rel σ1 τ1 → VL w v κ σ1 τ1 [some (.ref b), some (.ref (w.1 0)), some (.ref (v.1 0)), some (.int (nI i))] 1369 []) : VL w v κ σ τ [some (.ref b), some (.ref (w.1 0)), some (.ref (v.1 0)), some (.int (nI i))] 931 [] := by
  have hm := hH σ τ (xs (i + 1)) hrel
  refine VL.aload_n hC d_law_931 rfl rfl ?_
  refine VL.sarg (j := 1) hC d_law_932 d_law_933 d_law_934 d_law_935 d_law_936 rfl (by omega) rfl rfl ?_
  refine VL.callCI hC (w_P_leaked w σ (xs (i + 1)) _ hm) d_law_937 mo_P_leaked qm_L_117 rfl rfl rfl rfl rfl (Nat.le_of_ble_eq_true rfl) (fun r1 σ1 hm => ?_)
  refine VL.aload_n hC d_law_940 rfl rfl ?_
  refine VL.sarg (j := 1) hC d_law_941 d_law_942 d_law_943 d_law_944 d_law_945 rfl (by omega) rfl rfl ?_
  refine VL.callRI hC (w_R_leaked v τ (xs (i + 1)) _ hm) d_law_946 mo_R_leaked qm_L_120 rfl rfl rfl rfl rfl (Nat.le_of_ble_eq_true rfl) (fun r2 τ1 hm => ?_)
  obtain ⟨e9, hm⟩ := hm
  refine VL.icmp_eq (tgt := 1369) hC d_law_949 (by decide) e9 ?_
  exact kk σ1 τ1 hm
/-- P_ask: what is to be shown of the two pictures -/
def H_ask (Rel : Hp → Hp → Prop) : Prop := ∀ (σ τ : Hp) (x1 : Int32) , Rel σ τ → wp_P_ask σ x1 (fun r1 σ1 => wp_R_ask τ x1 (fun r2 τ1 => r1 = r2 ∧ Rel σ1 τ1))
set_option maxRecDepth 100000 in
theorem lc_26 {w v : Wd} {κ : Kx} {b L i : Nat} {xs : Nat → Int32} {Rel : Hp → Hp → Prop} (hC : CxL w v κ b L xs) (hi : i + 5 < L) (hH : H_ask Rel) (σ τ : Hp) (hrel : Rel σ τ) (kk : ∀ σ1 τ1, Rel σ1 τ1 → VL w v κ σ1 τ1 [some (.ref b), some (.ref (w.1 0)), some (.ref (v.1 0)), some (.int (nI i))] 1369 []) : VL w v κ σ τ [some (.ref b), some (.ref (w.1 0)), some (.ref (v.1 0)), some (.int (nI i))] 954 [] := by
  have hm := hH σ τ (xs (i + 1)) hrel
  refine VL.aload_n hC d_law_954 rfl rfl ?_
  refine VL.sarg (j := 1) hC d_law_955 d_law_956 d_law_957 d_law_958 d_law_959 rfl (by omega) rfl rfl ?_
  refine VL.callCI hC (w_P_ask w σ (xs (i + 1)) _ hm) d_law_960 mo_P_ask qm_L_121 rfl rfl rfl rfl rfl (Nat.le_of_ble_eq_true rfl) (fun r1 σ1 hm => ?_)
  refine VL.aload_n hC d_law_963 rfl rfl ?_
  refine VL.sarg (j := 1) hC d_law_964 d_law_965 d_law_966 d_law_967 d_law_968 rfl (by omega) rfl rfl ?_
  refine VL.callRI hC (w_R_ask v τ (xs (i + 1)) _ hm) d_law_969 mo_R_ask qm_L_124 rfl rfl rfl rfl rfl (Nat.le_of_ble_eq_true rfl) (fun r2 τ1 hm => ?_)
  obtain ⟨e9, hm⟩ := hm
  refine VL.icmp_eq (tgt := 1369) hC d_law_972 (by decide) e9 ?_
  exact kk σ1 τ1 hm
/-- P_court: what is to be shown of the two pictures -/
def H_court (Rel : Hp → Hp → Prop) : Prop := ∀ (σ τ : Hp) (x1 x2 x3 x4 : Int32) , Rel σ τ → wp_P_court σ x1 x2 x3 x4 (fun r1 σ1 => wp_R_court τ x1 x2 x3 x4 (fun r2 τ1 => r1 = r2 ∧ Rel σ1 τ1))
set_option maxRecDepth 100000 in
theorem lc_27 {w v : Wd} {κ : Kx} {b L i : Nat} {xs : Nat → Int32} {Rel : Hp → Hp → Prop} (hC : CxL w v κ b L xs) (hi : i + 5 < L) (hH : H_court Rel) (σ τ : Hp) (hrel : Rel σ τ) (kk : ∀ σ1 τ1, Rel σ1 τ1 → VL w v κ σ1 τ1 [some (.ref b), some (.ref (w.1 0)), some (.ref (v.1 0)), some (.int (nI i))] 1369 []) : VL w v κ σ τ [some (.ref b), some (.ref (w.1 0)), some (.ref (v.1 0)), some (.int (nI i))] 977 [] := by
  have hm := hH σ τ (xs (i + 1)) (xs (i + 2)) (xs (i + 3)) (xs (i + 4)) hrel
  refine VL.aload_n hC d_law_977 rfl rfl ?_
  refine VL.sarg (j := 1) hC d_law_978 d_law_979 d_law_980 d_law_981 d_law_982 rfl (by omega) rfl rfl ?_
  refine VL.sarg (j := 2) hC d_law_983 d_law_984 d_law_985 d_law_986 d_law_987 rfl (by omega) rfl rfl ?_
  refine VL.sarg (j := 3) hC d_law_988 d_law_989 d_law_990 d_law_991 d_law_992 rfl (by omega) rfl rfl ?_
  refine VL.sarg (j := 4) hC d_law_993 d_law_994 d_law_995 d_law_996 d_law_997 rfl (by omega) rfl rfl ?_
  refine VL.callCL hC (w_P_court w σ (xs (i + 1)) (xs (i + 2)) (xs (i + 3)) (xs (i + 4)) _ hm) d_law_998 mo_P_court qm_L_125 rfl rfl rfl rfl rfl (Nat.le_of_ble_eq_true rfl) (fun r1 σ1 hm => ?_)
  refine VL.aload_n hC d_law_1001 rfl rfl ?_
  refine VL.sarg (j := 1) hC d_law_1002 d_law_1003 d_law_1004 d_law_1005 d_law_1006 rfl (by omega) rfl rfl ?_
  refine VL.sarg (j := 2) hC d_law_1007 d_law_1008 d_law_1009 d_law_1010 d_law_1011 rfl (by omega) rfl rfl ?_
  refine VL.sarg (j := 3) hC d_law_1012 d_law_1013 d_law_1014 d_law_1015 d_law_1016 rfl (by omega) rfl rfl ?_
  refine VL.sarg (j := 4) hC d_law_1017 d_law_1018 d_law_1019 d_law_1020 d_law_1021 rfl (by omega) rfl rfl ?_
  refine VL.callRL hC (w_R_court v τ (xs (i + 1)) (xs (i + 2)) (xs (i + 3)) (xs (i + 4)) _ hm) d_law_1022 mo_R_court qm_L_129 rfl rfl rfl rfl rfl (Nat.le_of_ble_eq_true rfl) (fun r2 τ1 hm => ?_)
  obtain ⟨e9, hm⟩ := hm
  refine VL.lcmp hC d_law_1025 ?_
  refine VL.if_eq (tgt := 1369) hC d_law_1026 (by decide) (by rw [e9]; simp [lg_cmp]) ?_
  exact kk σ1 τ1 hm
/-- P_month: what is to be shown of the two pictures -/
def H_month (Rel : Hp → Hp → Prop) : Prop := ∀ (σ τ : Hp) (x1 x2 x3 : Int32) , Rel σ τ → wp_P_month σ x1 x2 x3 (fun r1 σ1 => wp_R_month τ x1 x2 x3 (fun r2 τ1 => r1 = r2 ∧ Rel σ1 τ1))
set_option maxRecDepth 100000 in
theorem lc_28 {w v : Wd} {κ : Kx} {b L i : Nat} {xs : Nat → Int32} {Rel : Hp → Hp → Prop} (hC : CxL w v κ b L xs) (hi : i + 5 < L) (hH : H_month Rel) (σ τ : Hp) (hrel : Rel σ τ) (kk : ∀ σ1 τ1, Rel σ1 τ1 → VL w v κ σ1 τ1 [some (.ref b), some (.ref (w.1 0)), some (.ref (v.1 0)), some (.int (nI i))] 1369 []) : VL w v κ σ τ [some (.ref b), some (.ref (w.1 0)), some (.ref (v.1 0)), some (.int (nI i))] 1031 [] := by
  have hm := hH σ τ (xs (i + 1)) (xs (i + 2)) (xs (i + 3)) hrel
  refine VL.aload_n hC d_law_1031 rfl rfl ?_
  refine VL.sarg (j := 1) hC d_law_1032 d_law_1033 d_law_1034 d_law_1035 d_law_1036 rfl (by omega) rfl rfl ?_
  refine VL.sarg (j := 2) hC d_law_1037 d_law_1038 d_law_1039 d_law_1040 d_law_1041 rfl (by omega) rfl rfl ?_
  refine VL.sarg (j := 3) hC d_law_1042 d_law_1043 d_law_1044 d_law_1045 d_law_1046 rfl (by omega) rfl rfl ?_
  refine VL.callCI hC (w_P_month w σ (xs (i + 1)) (xs (i + 2)) (xs (i + 3)) _ hm) d_law_1047 mo_P_month qm_L_130 rfl rfl rfl rfl rfl (Nat.le_of_ble_eq_true rfl) (fun r1 σ1 hm => ?_)
  refine VL.aload_n hC d_law_1050 rfl rfl ?_
  refine VL.sarg (j := 1) hC d_law_1051 d_law_1052 d_law_1053 d_law_1054 d_law_1055 rfl (by omega) rfl rfl ?_
  refine VL.sarg (j := 2) hC d_law_1056 d_law_1057 d_law_1058 d_law_1059 d_law_1060 rfl (by omega) rfl rfl ?_
  refine VL.sarg (j := 3) hC d_law_1061 d_law_1062 d_law_1063 d_law_1064 d_law_1065 rfl (by omega) rfl rfl ?_
  refine VL.callRI hC (w_R_month v τ (xs (i + 1)) (xs (i + 2)) (xs (i + 3)) _ hm) d_law_1066 mo_R_month qm_L_133 rfl rfl rfl rfl rfl (Nat.le_of_ble_eq_true rfl) (fun r2 τ1 hm => ?_)
  obtain ⟨e9, hm⟩ := hm
  refine VL.icmp_eq (tgt := 1369) hC d_law_1069 (by decide) e9 ?_
  exact kk σ1 τ1 hm
/-- P_sheet: what is to be shown of the two pictures -/
def H_sheet (Rel : Hp → Hp → Prop) : Prop := ∀ (σ τ : Hp) (x1 x2 x3 : Int32) , Rel σ τ → wp_P_sheet σ x1 x2 x3 (fun r1 σ1 => wp_R_sheet τ x1 x2 x3 (fun r2 τ1 => r1 = r2 ∧ Rel σ1 τ1))
set_option maxRecDepth 100000 in
theorem lc_29 {w v : Wd} {κ : Kx} {b L i : Nat} {xs : Nat → Int32} {Rel : Hp → Hp → Prop} (hC : CxL w v κ b L xs) (hi : i + 5 < L) (hH : H_sheet Rel) (σ τ : Hp) (hrel : Rel σ τ) (kk : ∀ σ1 τ1, Rel σ1 τ1 → VL w v κ σ1 τ1 [some (.ref b), some (.ref (w.1 0)), some (.ref (v.1 0)), some (.int (nI i))] 1369 []) : VL w v κ σ τ [some (.ref b), some (.ref (w.1 0)), some (.ref (v.1 0)), some (.int (nI i))] 1074 [] := by
  have hm := hH σ τ (xs (i + 1)) (xs (i + 2)) (xs (i + 3)) hrel
  refine VL.aload_n hC d_law_1074 rfl rfl ?_
  refine VL.sarg (j := 1) hC d_law_1075 d_law_1076 d_law_1077 d_law_1078 d_law_1079 rfl (by omega) rfl rfl ?_
  refine VL.sarg (j := 2) hC d_law_1080 d_law_1081 d_law_1082 d_law_1083 d_law_1084 rfl (by omega) rfl rfl ?_
  refine VL.sarg (j := 3) hC d_law_1085 d_law_1086 d_law_1087 d_law_1088 d_law_1089 rfl (by omega) rfl rfl ?_
  refine VL.callCI hC (w_P_sheet w σ (xs (i + 1)) (xs (i + 2)) (xs (i + 3)) _ hm) d_law_1090 mo_P_sheet qm_L_134 rfl rfl rfl rfl rfl (Nat.le_of_ble_eq_true rfl) (fun r1 σ1 hm => ?_)
  refine VL.aload_n hC d_law_1093 rfl rfl ?_
  refine VL.sarg (j := 1) hC d_law_1094 d_law_1095 d_law_1096 d_law_1097 d_law_1098 rfl (by omega) rfl rfl ?_
  refine VL.sarg (j := 2) hC d_law_1099 d_law_1100 d_law_1101 d_law_1102 d_law_1103 rfl (by omega) rfl rfl ?_
  refine VL.sarg (j := 3) hC d_law_1104 d_law_1105 d_law_1106 d_law_1107 d_law_1108 rfl (by omega) rfl rfl ?_
  refine VL.callRI hC (w_R_sheet v τ (xs (i + 1)) (xs (i + 2)) (xs (i + 3)) _ hm) d_law_1109 mo_R_sheet qm_L_137 rfl rfl rfl rfl rfl (Nat.le_of_ble_eq_true rfl) (fun r2 τ1 hm => ?_)
  obtain ⟨e9, hm⟩ := hm
  refine VL.icmp_eq (tgt := 1369) hC d_law_1112 (by decide) e9 ?_
  exact kk σ1 τ1 hm
/-- P_lose: what is to be shown of the two pictures -/
def H_lose (Rel : Hp → Hp → Prop) : Prop := ∀ (σ τ : Hp) (x1 : Int32) , Rel σ τ → wp_P_lose σ x1 (fun r1 σ1 => wp_R_lose τ x1 (fun r2 τ1 => r1 = r2 ∧ Rel σ1 τ1))
set_option maxRecDepth 100000 in
theorem lc_30 {w v : Wd} {κ : Kx} {b L i : Nat} {xs : Nat → Int32} {Rel : Hp → Hp → Prop} (hC : CxL w v κ b L xs) (hi : i + 5 < L) (hH : H_lose Rel) (σ τ : Hp) (hrel : Rel σ τ) (kk : ∀ σ1 τ1, Rel σ1 τ1 → VL w v κ σ1 τ1 [some (.ref b), some (.ref (w.1 0)), some (.ref (v.1 0)), some (.int (nI i))] 1369 []) : VL w v κ σ τ [some (.ref b), some (.ref (w.1 0)), some (.ref (v.1 0)), some (.int (nI i))] 1117 [] := by
  have hm := hH σ τ (xs (i + 1)) hrel
  refine VL.aload_n hC d_law_1117 rfl rfl ?_
  refine VL.sarg (j := 1) hC d_law_1118 d_law_1119 d_law_1120 d_law_1121 d_law_1122 rfl (by omega) rfl rfl ?_
  refine VL.callCI hC (w_P_lose w σ (xs (i + 1)) _ hm) d_law_1123 mo_P_lose qm_L_138 rfl rfl rfl rfl rfl (Nat.le_of_ble_eq_true rfl) (fun r1 σ1 hm => ?_)
  refine VL.aload_n hC d_law_1126 rfl rfl ?_
  refine VL.sarg (j := 1) hC d_law_1127 d_law_1128 d_law_1129 d_law_1130 d_law_1131 rfl (by omega) rfl rfl ?_
  refine VL.callRI hC (w_R_lose v τ (xs (i + 1)) _ hm) d_law_1132 mo_R_lose qm_L_141 rfl rfl rfl rfl rfl (Nat.le_of_ble_eq_true rfl) (fun r2 τ1 hm => ?_)
  obtain ⟨e9, hm⟩ := hm
  refine VL.icmp_eq (tgt := 1369) hC d_law_1135 (by decide) e9 ?_
  exact kk σ1 τ1 hm
/-- P_put: what is to be shown of the two pictures -/
def H_put (Rel : Hp → Hp → Prop) : Prop := ∀ (σ τ : Hp) (x1 x2 x3 x4 : Int32) , Rel σ τ → wp_P_put σ x1 x2 x3 x4 (fun r1 σ1 => wp_R_put τ x1 x2 x3 x4 (fun r2 τ1 => r1 = r2 ∧ Rel σ1 τ1))
set_option maxRecDepth 100000 in
theorem lc_31 {w v : Wd} {κ : Kx} {b L i : Nat} {xs : Nat → Int32} {Rel : Hp → Hp → Prop} (hC : CxL w v κ b L xs) (hi : i + 5 < L) (hH : H_put Rel) (σ τ : Hp) (hrel : Rel σ τ) (kk : ∀ σ1 τ1, Rel σ1 τ1 → VL w v κ σ1 τ1 [some (.ref b), some (.ref (w.1 0)), some (.ref (v.1 0)), some (.int (nI i))] 1369 []) : VL w v κ σ τ [some (.ref b), some (.ref (w.1 0)), some (.ref (v.1 0)), some (.int (nI i))] 1140 [] := by
  have hm := hH σ τ (xs (i + 1)) (xs (i + 2)) (xs (i + 3)) (xs (i + 4)) hrel
  refine VL.aload_n hC d_law_1140 rfl rfl ?_
  refine VL.sarg (j := 1) hC d_law_1141 d_law_1142 d_law_1143 d_law_1144 d_law_1145 rfl (by omega) rfl rfl ?_
  refine VL.sarg (j := 2) hC d_law_1146 d_law_1147 d_law_1148 d_law_1149 d_law_1150 rfl (by omega) rfl rfl ?_
  refine VL.sarg (j := 3) hC d_law_1151 d_law_1152 d_law_1153 d_law_1154 d_law_1155 rfl (by omega) rfl rfl ?_
  refine VL.sarg (j := 4) hC d_law_1156 d_law_1157 d_law_1158 d_law_1159 d_law_1160 rfl (by omega) rfl rfl ?_
  refine VL.callCI hC (w_P_put w σ (xs (i + 1)) (xs (i + 2)) (xs (i + 3)) (xs (i + 4)) _ hm) d_law_1161 mo_P_put qm_L_142 rfl rfl rfl rfl rfl (Nat.le_of_ble_eq_true rfl) (fun r1 σ1 hm => ?_)
  refine VL.aload_n hC d_law_1164 rfl rfl ?_
  refine VL.sarg (j := 1) hC d_law_1165 d_law_1166 d_law_1167 d_law_1168 d_law_1169 rfl (by omega) rfl rfl ?_
  refine VL.sarg (j := 2) hC d_law_1170 d_law_1171 d_law_1172 d_law_1173 d_law_1174 rfl (by omega) rfl rfl ?_
  refine VL.sarg (j := 3) hC d_law_1175 d_law_1176 d_law_1177 d_law_1178 d_law_1179 rfl (by omega) rfl rfl ?_
  refine VL.sarg (j := 4) hC d_law_1180 d_law_1181 d_law_1182 d_law_1183 d_law_1184 rfl (by omega) rfl rfl ?_
  refine VL.callRI hC (w_R_put v τ (xs (i + 1)) (xs (i + 2)) (xs (i + 3)) (xs (i + 4)) _ hm) d_law_1185 mo_R_put qm_L_146 rfl rfl rfl rfl rfl (Nat.le_of_ble_eq_true rfl) (fun r2 τ1 hm => ?_)
  obtain ⟨e9, hm⟩ := hm
  refine VL.icmp_eq (tgt := 1369) hC d_law_1188 (by decide) e9 ?_
  exact kk σ1 τ1 hm
/-- P_get: what is to be shown of the two pictures -/
def H_get (Rel : Hp → Hp → Prop) : Prop := ∀ (σ τ : Hp) (x1 x2 x3 : Int32) , Rel σ τ → wp_P_get σ x1 x2 x3 (fun r1 σ1 => wp_R_get τ x1 x2 x3 (fun r2 τ1 => r1 = r2 ∧ Rel σ1 τ1))
set_option maxRecDepth 100000 in
theorem lc_32 {w v : Wd} {κ : Kx} {b L i : Nat} {xs : Nat → Int32} {Rel : Hp → Hp → Prop} (hC : CxL w v κ b L xs) (hi : i + 5 < L) (hH : H_get Rel) (σ τ : Hp) (hrel : Rel σ τ) (kk : ∀ σ1 τ1, Rel σ1 τ1 → VL w v κ σ1 τ1 [some (.ref b), some (.ref (w.1 0)), some (.ref (v.1 0)), some (.int (nI i))] 1369 []) : VL w v κ σ τ [some (.ref b), some (.ref (w.1 0)), some (.ref (v.1 0)), some (.int (nI i))] 1193 [] := by
  have hm := hH σ τ (xs (i + 1)) (xs (i + 2)) (xs (i + 3)) hrel
  refine VL.aload_n hC d_law_1193 rfl rfl ?_
  refine VL.sarg (j := 1) hC d_law_1194 d_law_1195 d_law_1196 d_law_1197 d_law_1198 rfl (by omega) rfl rfl ?_
  refine VL.sarg (j := 2) hC d_law_1199 d_law_1200 d_law_1201 d_law_1202 d_law_1203 rfl (by omega) rfl rfl ?_
  refine VL.sarg (j := 3) hC d_law_1204 d_law_1205 d_law_1206 d_law_1207 d_law_1208 rfl (by omega) rfl rfl ?_
  refine VL.callCI hC (w_P_get w σ (xs (i + 1)) (xs (i + 2)) (xs (i + 3)) _ hm) d_law_1209 mo_P_get qm_L_147 rfl rfl rfl rfl rfl (Nat.le_of_ble_eq_true rfl) (fun r1 σ1 hm => ?_)
  refine VL.aload_n hC d_law_1212 rfl rfl ?_
  refine VL.sarg (j := 1) hC d_law_1213 d_law_1214 d_law_1215 d_law_1216 d_law_1217 rfl (by omega) rfl rfl ?_
  refine VL.sarg (j := 2) hC d_law_1218 d_law_1219 d_law_1220 d_law_1221 d_law_1222 rfl (by omega) rfl rfl ?_
  refine VL.sarg (j := 3) hC d_law_1223 d_law_1224 d_law_1225 d_law_1226 d_law_1227 rfl (by omega) rfl rfl ?_
  refine VL.callRI hC (w_R_get v τ (xs (i + 1)) (xs (i + 2)) (xs (i + 3)) _ hm) d_law_1228 mo_R_get qm_L_150 rfl rfl rfl rfl rfl (Nat.le_of_ble_eq_true rfl) (fun r2 τ1 hm => ?_)
  obtain ⟨e9, hm⟩ := hm
  refine VL.icmp_eq (tgt := 1369) hC d_law_1231 (by decide) e9 ?_
  exact kk σ1 τ1 hm
/-- P_copy: what is to be shown of the two pictures -/
def H_copy (Rel : Hp → Hp → Prop) : Prop := ∀ (σ τ : Hp) (x1 x2 x3 x4 x5 : Int32) , Rel σ τ → wp_P_copy σ x1 x2 x3 x4 x5 (fun r1 σ1 => wp_R_copy τ x1 x2 x3 x4 x5 (fun r2 τ1 => r1 = r2 ∧ Rel σ1 τ1))
set_option maxRecDepth 100000 in
theorem lc_33 {w v : Wd} {κ : Kx} {b L i : Nat} {xs : Nat → Int32} {Rel : Hp → Hp → Prop} (hC : CxL w v κ b L xs) (hi : i + 5 < L) (hH : H_copy Rel) (σ τ : Hp) (hrel : Rel σ τ) (kk : ∀ σ1 τ1, Rel σ1 τ1 → VL w v κ σ1 τ1 [some (.ref b), some (.ref (w.1 0)), some (.ref (v.1 0)), some (.int (nI i))] 1369 []) : VL w v κ σ τ [some (.ref b), some (.ref (w.1 0)), some (.ref (v.1 0)), some (.int (nI i))] 1236 [] := by
  have hm := hH σ τ (xs (i + 1)) (xs (i + 2)) (xs (i + 3)) (xs (i + 4)) (xs (i + 5)) hrel
  refine VL.aload_n hC d_law_1236 rfl rfl ?_
  refine VL.sarg (j := 1) hC d_law_1237 d_law_1238 d_law_1239 d_law_1240 d_law_1241 rfl (by omega) rfl rfl ?_
  refine VL.sarg (j := 2) hC d_law_1242 d_law_1243 d_law_1244 d_law_1245 d_law_1246 rfl (by omega) rfl rfl ?_
  refine VL.sarg (j := 3) hC d_law_1247 d_law_1248 d_law_1249 d_law_1250 d_law_1251 rfl (by omega) rfl rfl ?_
  refine VL.sarg (j := 4) hC d_law_1252 d_law_1253 d_law_1254 d_law_1255 d_law_1256 rfl (by omega) rfl rfl ?_
  refine VL.sarg (j := 5) hC d_law_1257 d_law_1258 d_law_1259 d_law_1260 d_law_1261 rfl (by omega) rfl rfl ?_
  refine VL.callCI hC (w_P_copy w σ (xs (i + 1)) (xs (i + 2)) (xs (i + 3)) (xs (i + 4)) (xs (i + 5)) _ hm) d_law_1262 mo_P_copy qm_L_151 rfl rfl rfl rfl rfl (Nat.le_of_ble_eq_true rfl) (fun r1 σ1 hm => ?_)
  refine VL.aload_n hC d_law_1265 rfl rfl ?_
  refine VL.sarg (j := 1) hC d_law_1266 d_law_1267 d_law_1268 d_law_1269 d_law_1270 rfl (by omega) rfl rfl ?_
  refine VL.sarg (j := 2) hC d_law_1271 d_law_1272 d_law_1273 d_law_1274 d_law_1275 rfl (by omega) rfl rfl ?_
  refine VL.sarg (j := 3) hC d_law_1276 d_law_1277 d_law_1278 d_law_1279 d_law_1280 rfl (by omega) rfl rfl ?_
  refine VL.sarg (j := 4) hC d_law_1281 d_law_1282 d_law_1283 d_law_1284 d_law_1285 rfl (by omega) rfl rfl ?_
  refine VL.sarg (j := 5) hC d_law_1286 d_law_1287 d_law_1288 d_law_1289 d_law_1290 rfl (by omega) rfl rfl ?_
  refine VL.callRI hC (w_R_copy v τ (xs (i + 1)) (xs (i + 2)) (xs (i + 3)) (xs (i + 4)) (xs (i + 5)) _ hm) d_law_1291 mo_R_copy qm_L_155 rfl rfl rfl rfl rfl (Nat.le_of_ble_eq_true rfl) (fun r2 τ1 hm => ?_)
  obtain ⟨e9, hm⟩ := hm
  refine VL.icmp_eq (tgt := 1369) hC d_law_1294 (by decide) e9 ?_
  exact kk σ1 τ1 hm
/-- P_write: what is to be shown of the two pictures -/
def H_write (Rel : Hp → Hp → Prop) : Prop := ∀ (σ τ : Hp) (x1 x2 : Int32) , Rel σ τ → wp_P_write σ x1 x2 (fun r1 σ1 => wp_R_write τ x1 x2 (fun r2 τ1 => r1 = r2 ∧ Rel σ1 τ1))
set_option maxRecDepth 100000 in
theorem lc_34 {w v : Wd} {κ : Kx} {b L i : Nat} {xs : Nat → Int32} {Rel : Hp → Hp → Prop} (hC : CxL w v κ b L xs) (hi : i + 5 < L) (hH : H_write Rel) (σ τ : Hp) (hrel : Rel σ τ) (kk : ∀ σ1 τ1, Rel σ1 τ1 → VL w v κ σ1 τ1 [some (.ref b), some (.ref (w.1 0)), some (.ref (v.1 0)), some (.int (nI i))] 1369 []) : VL w v κ σ τ [some (.ref b), some (.ref (w.1 0)), some (.ref (v.1 0)), some (.int (nI i))] 1299 [] := by
  have hm := hH σ τ (xs (i + 1)) (xs (i + 2)) hrel
  refine VL.aload_n hC d_law_1299 rfl rfl ?_
  refine VL.sarg (j := 1) hC d_law_1300 d_law_1301 d_law_1302 d_law_1303 d_law_1304 rfl (by omega) rfl rfl ?_
  refine VL.sarg (j := 2) hC d_law_1305 d_law_1306 d_law_1307 d_law_1308 d_law_1309 rfl (by omega) rfl rfl ?_
  refine VL.callCI hC (w_P_write w σ (xs (i + 1)) (xs (i + 2)) _ hm) d_law_1310 mo_P_write qm_L_156 rfl rfl rfl rfl rfl (Nat.le_of_ble_eq_true rfl) (fun r1 σ1 hm => ?_)
  refine VL.aload_n hC d_law_1313 rfl rfl ?_
  refine VL.sarg (j := 1) hC d_law_1314 d_law_1315 d_law_1316 d_law_1317 d_law_1318 rfl (by omega) rfl rfl ?_
  refine VL.sarg (j := 2) hC d_law_1319 d_law_1320 d_law_1321 d_law_1322 d_law_1323 rfl (by omega) rfl rfl ?_
  refine VL.callRI hC (w_R_write v τ (xs (i + 1)) (xs (i + 2)) _ hm) d_law_1324 mo_R_write qm_L_159 rfl rfl rfl rfl rfl (Nat.le_of_ble_eq_true rfl) (fun r2 τ1 hm => ?_)
  obtain ⟨e9, hm⟩ := hm
  refine VL.icmp_eq (tgt := 1369) hC d_law_1327 (by decide) e9 ?_
  exact kk σ1 τ1 hm
/-- P_count: what is to be shown of the two pictures -/
def H_count (Rel : Hp → Hp → Prop) : Prop := ∀ (σ τ : Hp) (x1 : Int32) , Rel σ τ → wp_P_count σ x1 (fun r1 σ1 => wp_R_count τ x1 (fun r2 τ1 => r1 = r2 ∧ Rel σ1 τ1))
set_option maxRecDepth 100000 in
theorem lc_35 {w v : Wd} {κ : Kx} {b L i : Nat} {xs : Nat → Int32} {Rel : Hp → Hp → Prop} (hC : CxL w v κ b L xs) (hi : i + 5 < L) (hH : H_count Rel) (σ τ : Hp) (hrel : Rel σ τ) (kk : ∀ σ1 τ1, Rel σ1 τ1 → VL w v κ σ1 τ1 [some (.ref b), some (.ref (w.1 0)), some (.ref (v.1 0)), some (.int (nI i))] 1369 []) : VL w v κ σ τ [some (.ref b), some (.ref (w.1 0)), some (.ref (v.1 0)), some (.int (nI i))] 1332 [] := by
  have hm := hH σ τ (xs (i + 1)) hrel
  refine VL.aload_n hC d_law_1332 rfl rfl ?_
  refine VL.sarg (j := 1) hC d_law_1333 d_law_1334 d_law_1335 d_law_1336 d_law_1337 rfl (by omega) rfl rfl ?_
  refine VL.callCI hC (w_P_count w σ (xs (i + 1)) _ hm) d_law_1338 mo_P_count qm_L_160 rfl rfl rfl rfl rfl (Nat.le_of_ble_eq_true rfl) (fun r1 σ1 hm => ?_)
  refine VL.aload_n hC d_law_1341 rfl rfl ?_
  refine VL.sarg (j := 1) hC d_law_1342 d_law_1343 d_law_1344 d_law_1345 d_law_1346 rfl (by omega) rfl rfl ?_
  refine VL.callRI hC (w_R_count v τ (xs (i + 1)) _ hm) d_law_1347 mo_R_count qm_L_163 rfl rfl rfl rfl rfl (Nat.le_of_ble_eq_true rfl) (fun r2 τ1 hm => ?_)
  obtain ⟨e9, hm⟩ := hm
  refine VL.icmp_eq (tgt := 1369) hC d_law_1350 (by decide) e9 ?_
  exact kk σ1 τ1 hm
/-- P_digest: what is to be shown of the two pictures -/
def H_digest (Rel : Hp → Hp → Prop) : Prop := ∀ (σ τ : Hp) , Rel σ τ → wp_P_digest σ  (fun r1 σ1 => wp_R_digest τ  (fun r2 τ1 => r1 = r2 ∧ Rel σ1 τ1))
set_option maxRecDepth 100000 in
theorem lc_36 {w v : Wd} {κ : Kx} {b L i : Nat} {xs : Nat → Int32} {Rel : Hp → Hp → Prop} (hC : CxL w v κ b L xs) (hi : i + 5 < L) (hH : H_digest Rel) (σ τ : Hp) (hrel : Rel σ τ) (kk : ∀ σ1 τ1, Rel σ1 τ1 → VL w v κ σ1 τ1 [some (.ref b), some (.ref (w.1 0)), some (.ref (v.1 0)), some (.int (nI i))] 1369 []) : VL w v κ σ τ [some (.ref b), some (.ref (w.1 0)), some (.ref (v.1 0)), some (.int (nI i))] 1355 [] := by
  have hm := hH σ τ  hrel
  refine VL.aload_n hC d_law_1355 rfl rfl ?_
  refine VL.callCL hC (w_P_digest w σ  _ hm) d_law_1356 mo_P_digest qm_L_164 rfl rfl rfl rfl rfl (Nat.le_of_ble_eq_true rfl) (fun r1 σ1 hm => ?_)
  refine VL.aload_n hC d_law_1359 rfl rfl ?_
  refine VL.callRL hC (w_R_digest v τ  _ hm) d_law_1360 mo_R_digest qm_L_168 rfl rfl rfl rfl rfl (Nat.le_of_ble_eq_true rfl) (fun r2 τ1 hm => ?_)
  obtain ⟨e9, hm⟩ := hm
  refine VL.lcmp hC d_law_1363 ?_
  refine VL.if_eq (tgt := 1369) hC d_law_1364 (by decide) (by rw [e9]; simp [lg_cmp]) ?_
  exact kk σ1 τ1 hm
def AllH (Rel : Hp → Hp → Prop) : Prop := H_type Rel ∧ H_wipe Rel ∧ H_undo Rel ∧ H_fault Rel ∧ H_house Rel ∧ H_rate Rel ∧ H_wall Rel ∧ H_suit Rel ∧ H_shut Rel ∧ H_back Rel ∧ H_read Rel ∧ H_through Rel ∧ H_owes Rel ∧ H_balance Rel ∧ H_coin Rel ∧ H_broke Rel ∧ H_richest Rel ∧ H_payments Rel ∧ H_rings Rel ∧ H_build Rel ∧ H_fair Rel ∧ H_drop Rel ∧ H_seen Rel ∧ H_forget Rel ∧ H_never Rel ∧ H_leaked Rel ∧ H_ask Rel ∧ H_court Rel ∧ H_month Rel ∧ H_sheet Rel ∧ H_lose Rel ∧ H_put Rel ∧ H_get Rel ∧ H_copy Rel ∧ H_write Rel ∧ H_count Rel ∧ H_digest Rel
theorem law_head {w v : Wd} {κ : Kx} {b L : Nat} {xs : Nat → Int32} {Rel : Hp → Hp → Prop} (hC : CxL w v κ b L xs) (hA : AllH Rel) : ∀ (n i : Nat) (σ τ : Hp), L + 6 ≤ i + n → i ≤ L → Rel σ τ → VL w v κ σ τ [some (.ref b), some (.ref (w.1 0)), some (.ref (v.1 0)), some (.int (nI i))] 18 [] := by
  have hL : L ≤ 3072 := by
    obtain ⟨p, l, e, R, s, m, args, below, meth, c, Q, kc, ks⟩ := κ
    exact hC.2.2.2.2.2.2.1
  obtain ⟨h0, h1, h2, h3, h4, h5, h6, h7, h8, h9, h10, h11, h12, h13, h14, h15, h16, h17, h18, h19, h20, h21, h22, h23, h24, h25, h26, h27, h28, h29, h30, h31, h32, h33, h34, h35, h36⟩ := hA
  intro n
  induction n with
  | zero => intro i σ τ q1 q2 _; omega
  | succ n ih =>
    intro i σ τ q1 q2 hrel
    refine VL.iload_n hC d_law_18 rfl rfl ?_
    refine VL.aload_n hC d_law_19 rfl rfl ?_
    refine VL.slen hC d_law_20 ?_
    refine VL.bipush (z := 6) hC d_law_21 (by decide) ?_
    refine VL.isub hC d_law_23 ?_
    have hcmp : (nI L - 6 < nI i) ↔ (L < i + 6) := by
      have e1 : (nI L - 6).toInt = (L : Int) - 6 := pk_sub_toInt (b := 6) (by omega) (by omega)
      rw [Int32.lt_iff_toInt_lt, e1, nI_toInt (by omega)]
      omega
    refine VL.icmp_gt (tgt := 1375) hC d_law_24 (by decide) (fun c1 => ?_) (fun c1 => ?_)
    · refine VL.iconst (z := 1) hC d_law_1375 (by decide) ?_
      exact VL.one hC d_law_1376
    · have hi : i + 5 < L := by
        have h9 : ¬ L < i + 6 := fun z => c1 (hcmp.mpr z)
        omega
      have kk : ∀ σ1 τ1, Rel σ1 τ1 → VL w v κ σ1 τ1 [some (.ref b), some (.ref (w.1 0)), some (.ref (v.1 0)), some (.int (nI i))] 1369 [] := by
        intro σ1 τ1 h
        refine VL.iinc (y := nI (i + 6)) (lo' := [some (.ref b), some (.ref (w.1 0)), some (.ref (v.1 0)), some (.int (nI (i + 6)))]) hC d_law_1369 rfl rfl (nI_add i 6).symm rfl ?_
        refine VL.goto (tgt := 18) hC d_law_1372 (by decide) ?_
        exact ih (i + 6) σ1 τ1 (by omega) (by omega) h
      refine VL.aload_n hC d_law_27 rfl rfl ?_
      refine VL.iload_n hC d_law_28 rfl rfl ?_
      refine VL.sld hC d_law_29 (vp_in_nI (by omega) (by omega)) ?_
      refine VL.bipush (z := 63) hC d_law_30 (by decide) ?_
      refine VL.iand hC d_law_32 ?_
      generalize xs (nI i).toNatClampNeg &&& 63 = x9
      rcases sw_cases x9 36 with c2 | ⟨k9, hk9, c2⟩
      · exact VL.tabOut (tgt := 1369) hC d_law_33 c2 (by decide) (kk σ τ hrel)
      · rcases (show k9 = 0 ∨ k9 = 1 ∨ k9 = 2 ∨ k9 = 3 ∨ k9 = 4 ∨ k9 = 5 ∨ k9 = 6 ∨ k9 = 7 ∨ k9 = 8 ∨ k9 = 9 ∨ k9 = 10 ∨ k9 = 11 ∨ k9 = 12 ∨ k9 = 13 ∨ k9 = 14 ∨ k9 = 15 ∨ k9 = 16 ∨ k9 = 17 ∨ k9 = 18 ∨ k9 = 19 ∨ k9 = 20 ∨ k9 = 21 ∨ k9 = 22 ∨ k9 = 23 ∨ k9 = 24 ∨ k9 = 25 ∨ k9 = 26 ∨ k9 = 27 ∨ k9 = 28 ∨ k9 = 29 ∨ k9 = 30 ∨ k9 = 31 ∨ k9 = 32 ∨ k9 = 33 ∨ k9 = 34 ∨ k9 = 35 ∨ k9 = 36 by omega) with rfl | rfl | rfl | rfl | rfl | rfl | rfl | rfl | rfl | rfl | rfl | rfl | rfl | rfl | rfl | rfl | rfl | rfl | rfl | rfl | rfl | rfl | rfl | rfl | rfl | rfl | rfl | rfl | rfl | rfl | rfl | rfl | rfl | rfl | rfl | rfl | rfl
        · exact VL.tabIn (tgt := 196) hC d_law_33 (by rw [c2]; decide) (by rw [c2]; decide) (by rw [c2]; rfl) (by decide) (lc_0 hC hi h0 σ τ hrel kk)
        · exact VL.tabIn (tgt := 229) hC d_law_33 (by rw [c2]; decide) (by rw [c2]; decide) (by rw [c2]; rfl) (by decide) (lc_1 hC hi h1 σ τ hrel kk)
        · exact VL.tabIn (tgt := 252) hC d_law_33 (by rw [c2]; decide) (by rw [c2]; decide) (by rw [c2]; rfl) (by decide) (lc_2 hC hi h2 σ τ hrel kk)
        · exact VL.tabIn (tgt := 275) hC d_law_33 (by rw [c2]; decide) (by rw [c2]; decide) (by rw [c2]; rfl) (by decide) (lc_3 hC hi h3 σ τ hrel kk)
        · exact VL.tabIn (tgt := 298) hC d_law_33 (by rw [c2]; decide) (by rw [c2]; decide) (by rw [c2]; rfl) (by decide) (lc_4 hC hi h4 σ τ hrel kk)
        · exact VL.tabIn (tgt := 331) hC d_law_33 (by rw [c2]; decide) (by rw [c2]; decide) (by rw [c2]; rfl) (by decide) (lc_5 hC hi h5 σ τ hrel kk)
        · exact VL.tabIn (tgt := 354) hC d_law_33 (by rw [c2]; decide) (by rw [c2]; decide) (by rw [c2]; rfl) (by decide) (lc_6 hC hi h6 σ τ hrel kk)
        · exact VL.tabIn (tgt := 387) hC d_law_33 (by rw [c2]; decide) (by rw [c2]; decide) (by rw [c2]; rfl) (by decide) (lc_7 hC hi h7 σ τ hrel kk)
        · exact VL.tabIn (tgt := 430) hC d_law_33 (by rw [c2]; decide) (by rw [c2]; decide) (by rw [c2]; rfl) (by decide) (lc_8 hC hi h8 σ τ hrel kk)
        · exact VL.tabIn (tgt := 463) hC d_law_33 (by rw [c2]; decide) (by rw [c2]; decide) (by rw [c2]; rfl) (by decide) (lc_9 hC hi h9 σ τ hrel kk)
        · exact VL.tabIn (tgt := 486) hC d_law_33 (by rw [c2]; decide) (by rw [c2]; decide) (by rw [c2]; rfl) (by decide) (lc_10 hC hi h10 σ τ hrel kk)
        · exact VL.tabIn (tgt := 509) hC d_law_33 (by rw [c2]; decide) (by rw [c2]; decide) (by rw [c2]; rfl) (by decide) (lc_11 hC hi h11 σ τ hrel kk)
        · exact VL.tabIn (tgt := 542) hC d_law_33 (by rw [c2]; decide) (by rw [c2]; decide) (by rw [c2]; rfl) (by decide) (lc_12 hC hi h12 σ τ hrel kk)
        · exact VL.tabIn (tgt := 585) hC d_law_33 (by rw [c2]; decide) (by rw [c2]; decide) (by rw [c2]; rfl) (by decide) (lc_13 hC hi h13 σ τ hrel kk)
        · exact VL.tabIn (tgt := 618) hC d_law_33 (by rw [c2]; decide) (by rw [c2]; decide) (by rw [c2]; rfl) (by decide) (lc_14 hC hi h14 σ τ hrel kk)
        · exact VL.tabIn (tgt := 641) hC d_law_33 (by rw [c2]; decide) (by rw [c2]; decide) (by rw [c2]; rfl) (by decide) (lc_15 hC hi h15 σ τ hrel kk)
        · exact VL.tabIn (tgt := 664) hC d_law_33 (by rw [c2]; decide) (by rw [c2]; decide) (by rw [c2]; rfl) (by decide) (lc_16 hC hi h16 σ τ hrel kk)
        · exact VL.tabIn (tgt := 687) hC d_law_33 (by rw [c2]; decide) (by rw [c2]; decide) (by rw [c2]; rfl) (by decide) (lc_17 hC hi h17 σ τ hrel kk)
        · exact VL.tabIn (tgt := 710) hC d_law_33 (by rw [c2]; decide) (by rw [c2]; decide) (by rw [c2]; rfl) (by decide) (lc_18 hC hi h18 σ τ hrel kk)
        · exact VL.tabIn (tgt := 743) hC d_law_33 (by rw [c2]; decide) (by rw [c2]; decide) (by rw [c2]; rfl) (by decide) (lc_19 hC hi h19 σ τ hrel kk)
        · exact VL.tabIn (tgt := 786) hC d_law_33 (by rw [c2]; decide) (by rw [c2]; decide) (by rw [c2]; rfl) (by decide) (lc_20 hC hi h20 σ τ hrel kk)
        · exact VL.tabIn (tgt := 829) hC d_law_33 (by rw [c2]; decide) (by rw [c2]; decide) (by rw [c2]; rfl) (by decide) (lc_21 hC hi h21 σ τ hrel kk)
        · exact VL.tabIn (tgt := 862) hC d_law_33 (by rw [c2]; decide) (by rw [c2]; decide) (by rw [c2]; rfl) (by decide) (lc_22 hC hi h22 σ τ hrel kk)
        · exact VL.tabIn (tgt := 905) hC d_law_33 (by rw [c2]; decide) (by rw [c2]; decide) (by rw [c2]; rfl) (by decide) (lc_23 hC hi h23 σ τ hrel kk)
        · exact VL.tabIn (tgt := 918) hC d_law_33 (by rw [c2]; decide) (by rw [c2]; decide) (by rw [c2]; rfl) (by decide) (lc_24 hC hi h24 σ τ hrel kk)
        · exact VL.tabIn (tgt := 931) hC d_law_33 (by rw [c2]; decide) (by rw [c2]; decide) (by rw [c2]; rfl) (by decide) (lc_25 hC hi h25 σ τ hrel kk)
        · exact VL.tabIn (tgt := 954) hC d_law_33 (by rw [c2]; decide) (by rw [c2]; decide) (by rw [c2]; rfl) (by decide) (lc_26 hC hi h26 σ τ hrel kk)
        · exact VL.tabIn (tgt := 977) hC d_law_33 (by rw [c2]; decide) (by rw [c2]; decide) (by rw [c2]; rfl) (by decide) (lc_27 hC hi h27 σ τ hrel kk)
        · exact VL.tabIn (tgt := 1031) hC d_law_33 (by rw [c2]; decide) (by rw [c2]; decide) (by rw [c2]; rfl) (by decide) (lc_28 hC hi h28 σ τ hrel kk)
        · exact VL.tabIn (tgt := 1074) hC d_law_33 (by rw [c2]; decide) (by rw [c2]; decide) (by rw [c2]; rfl) (by decide) (lc_29 hC hi h29 σ τ hrel kk)
        · exact VL.tabIn (tgt := 1117) hC d_law_33 (by rw [c2]; decide) (by rw [c2]; decide) (by rw [c2]; rfl) (by decide) (lc_30 hC hi h30 σ τ hrel kk)
        · exact VL.tabIn (tgt := 1140) hC d_law_33 (by rw [c2]; decide) (by rw [c2]; decide) (by rw [c2]; rfl) (by decide) (lc_31 hC hi h31 σ τ hrel kk)
        · exact VL.tabIn (tgt := 1193) hC d_law_33 (by rw [c2]; decide) (by rw [c2]; decide) (by rw [c2]; rfl) (by decide) (lc_32 hC hi h32 σ τ hrel kk)
        · exact VL.tabIn (tgt := 1236) hC d_law_33 (by rw [c2]; decide) (by rw [c2]; decide) (by rw [c2]; rfl) (by decide) (lc_33 hC hi h33 σ τ hrel kk)
        · exact VL.tabIn (tgt := 1299) hC d_law_33 (by rw [c2]; decide) (by rw [c2]; decide) (by rw [c2]; rfl) (by decide) (lc_34 hC hi h34 σ τ hrel kk)
        · exact VL.tabIn (tgt := 1332) hC d_law_33 (by rw [c2]; decide) (by rw [c2]; decide) (by rw [c2]; rfl) (by decide) (lc_35 hC hi h35 σ τ hrel kk)
        · exact VL.tabIn (tgt := 1355) hC d_law_33 (by rw [c2]; decide) (by rw [c2]; decide) (by rw [c2]; rfl) (by decide) (lc_36 hC hi h36 σ τ hrel kk)
