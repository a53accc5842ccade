abbrev Kx : Type := Program × Launch × Env × Room × State × MethodId × Array Value × List Frame × Method × Code × (State → Prop) × Nat × Nat
/-- from this frame, over this picture, the machine comes to its goal -/
def V (μ : Wk) (w : Wd) (nL : Nat) (κ : Kx) (σ : Hp) (lo : List (Option Value)) (pc : Nat) (stk : List Value) : Prop :=
  match κ with
  | (p, l, e, R, s, m, args, below, meth, c, Q, kc, ks) => ∀ (H : Heap) (locs : List Loc) (ls : Array Slot), va_P w.2.2.2.2 classes (cels μ.1 w σ) H → va_S (AW μ w) s.heap H locs → lhas ls nL lo → W p l e R s m args below meth c H locs kc ks Q (F0 m pc ls stk)
/-- what is given of the frame: the machine, its code, the tables' words, the classes, what stands outside the world, room for calls of depth d -/
def Cx (μ : Wk) (w : Wd) (nL : Nat) (κ : Kx) (own : String) (cc : ByteArray) (d : Nat) : Prop :=
  match κ with
  | (p, l, e, R, s, m, args, below, meth, c, Q, kc, ks) => p.tables.exec = Jvm.exec ∧ c.code = cc ∧ c.maxLocals = nL ∧ s.vm.findClass own = some m.cls ∧ (∀ x ∈ tbl, x.before args s = true) ∧ va_K w.2.2.2.2 classes (tysW w) s ∧ Inj μ w ∧ μ.2 w (AW μ w) s s.heap ∧ d ≤ R.frames ∧ 64 * d ≤ R.locals ∧ kc ≤ R.cells ∧ ks ≤ R.slots
def ExtOk (μ : Wk) : Prop := ∀ (w : Wd) (A : Nat → Prop) (s U : State), s.WarmedH U.vm → (∀ q, q < s.heap.size → ¬ A q → U.heap[q]? = s.heap[q]?) → μ.2 w A s s.heap → μ.2 w A U U.heap
section RULES
variable {μ : Wk} {w : Wd} {nL : Nat} {κ : Kx} {σ : Hp} {lo : List (Option Value)} {pc : Nat} {r : List Value} {own : String} {cc : ByteArray} {d : Nat}
theorem V.eq {pc' : Nat} {lo' : List (Option Value)} {stk stk' : List Value} (h1 : pc' = pc) (h2 : lo' = lo) (h3 : stk' = stk) (k : V μ w nL κ σ lo' pc' stk') : V μ w nL κ σ lo pc stk := by
  subst h1; subst h2; subst h3; exact k
theorem V.msk (b : List Bool) {lo' : List (Option Value)} {stk : List Value} (h : msk b lo = lo') (k : V μ w nL κ σ lo' pc stk) : V μ w nL κ σ lo pc stk := by
  obtain ⟨p, l, e, R, s, m, args, below, meth, c, Q, kc, ks⟩ := κ
  subst h
  exact fun H locs ls hP hS hl => k H locs ls hP hS (lhas_msk hl b)
theorem V.iconst (hC : Cx μ w nL κ own cc d) {n : Int} {v : Int32} (hd : decode cc pc = .ok (.iconst n, 1)) (hv : Int32.ofInt n = v) (k : V μ w nL κ σ lo (pc + 1) (.int v :: r)) : V μ w nL κ σ lo pc r := by
  obtain ⟨p, l, e, R, s, m, args, below, meth, c, Q, kc, ks⟩ := κ
  exact fun H locs ls hP hS hl => lv_iconst hC.1 hC.2.1 hd hv (k H locs ls hP hS hl)
theorem V.bipush (hC : Cx μ w nL κ own cc d) {n : Int} {v : Int32} (hd : decode cc pc = .ok (.bipush n, 2)) (hv : (Int8.ofInt n).toInt32 = v) (k : V μ w nL κ σ lo (pc + 2) (.int v :: r)) : V μ w nL κ σ lo pc r := by
  obtain ⟨p, l, e, R, s, m, args, below, meth, c, Q, kc, ks⟩ := κ
  exact fun H locs ls hP hS hl => lv_bipush hC.1 hC.2.1 hd hv (k H locs ls hP hS hl)
theorem V.sipush (hC : Cx μ w nL κ own cc d) {n : Int} {v : Int32} (hd : decode cc pc = .ok (.sipush n, 3)) (hv : (Int16.ofInt n).toInt32 = v) (k : V μ w nL κ σ lo (pc + 3) (.int v :: r)) : V μ w nL κ σ lo pc r := by
  obtain ⟨p, l, e, R, s, m, args, below, meth, c, Q, kc, ks⟩ := κ
  exact fun H locs ls hP hS hl => lv_sipush hC.1 hC.2.1 hd hv (k H locs ls hP hS hl)
theorem V.lconst (hC : Cx μ w nL κ own cc d) {n : Fin 2} {v : Int64} (hd : decode cc pc = .ok (.lconst n, 1)) (hv : Int64.ofNat (n : Nat) = v) (k : V μ w nL κ σ lo (pc + 1) (.long v :: r)) : V μ w nL κ σ lo pc r := by
  obtain ⟨p, l, e, R, s, m, args, below, meth, c, Q, kc, ks⟩ := κ
  exact fun H locs ls hP hS hl => lv_lconst hC.1 hC.2.1 hd hv (k H locs ls hP hS hl)
theorem V.ldc (hC : Cx μ w nL κ own cc d) {i : Nat} {v : Int32} (hd : decode cc pc = .ok (.ldc i, 2)) (hw : Cond.constant own i v ∈ tbl) (k : V μ w nL κ σ lo (pc + 2) (.int v :: r)) : V μ w nL κ σ lo pc r := by
  obtain ⟨p, l, e, R, s, m, args, below, meth, c, Q, kc, ks⟩ := κ
  exact fun H locs ls hP hS hl => lv_ldc hC.1 hC.2.1 hC.2.2.2.1 (hC.2.2.2.2.1 _ hw) hd (k H locs ls hP hS hl)
theorem V.ldcw (hC : Cx μ w nL κ own cc d) {i : Nat} {v : Int32} (hd : decode cc pc = .ok (.ldc_w i, 3)) (hw : Cond.constant own i v ∈ tbl) (k : V μ w nL κ σ lo (pc + 3) (.int v :: r)) : V μ w nL κ σ lo pc r := by
  obtain ⟨p, l, e, R, s, m, args, below, meth, c, Q, kc, ks⟩ := κ
  exact fun H locs ls hP hS hl => lv_ldcw hC.1 hC.2.1 hC.2.2.2.1 (hC.2.2.2.2.1 _ hw) hd (k H locs ls hP hS hl)
theorem V.ldc2 (hC : Cx μ w nL κ own cc d) {i : Nat} {v : Int64} (hd : decode cc pc = .ok (.ldc2_w i, 3)) (hw : Cond.constantLong own i v ∈ tbl) (k : V μ w nL κ σ lo (pc + 3) (.long v :: r)) : V μ w nL κ σ lo pc r := by
  obtain ⟨p, l, e, R, s, m, args, below, meth, c, Q, kc, ks⟩ := κ
  exact fun H locs ls hP hS hl => lv_ldc2 hC.1 hC.2.1 hC.2.2.2.1 (hC.2.2.2.2.1 _ hw) hd (k H locs ls hP hS hl)
theorem V.iload_n (hC : Cx μ w nL κ own cc d) {j : Fin 4} {i : Nat} {x : Int32} (hd : decode cc pc = .ok (.iload_n j, 1)) (hi : (j : Nat) = i) (h : lo[i]? = some (some (.int x))) (k : V μ w nL κ σ lo (pc + 1) (.int x :: r)) : V μ w nL κ σ lo pc r := by
  obtain ⟨p, l, e, R, s, m, args, below, meth, c, Q, kc, ks⟩ := κ
  exact fun H locs ls hP hS hl => lv_iload_n hC.1 hC.2.1 hd hi (lhas_at hl h) (k H locs ls hP hS hl)
theorem V.iload (hC : Cx μ w nL κ own cc d) {i : Nat} {x : Int32} (hd : decode cc pc = .ok (.iload i, 2)) (h : lo[i]? = some (some (.int x))) (k : V μ w nL κ σ lo (pc + 2) (.int x :: r)) : V μ w nL κ σ lo pc r := by
  obtain ⟨p, l, e, R, s, m, args, below, meth, c, Q, kc, ks⟩ := κ
  exact fun H locs ls hP hS hl => lv_iload hC.1 hC.2.1 hd (lhas_at hl h) (k H locs ls hP hS hl)
theorem V.lload_n (hC : Cx μ w nL κ own cc d) {j : Fin 4} {i : Nat} {x : Int64} (hd : decode cc pc = .ok (.lload_n j, 1)) (hi : (j : Nat) = i) (h : lo[i]? = some (some (.long x))) (k : V μ w nL κ σ lo (pc + 1) (.long x :: r)) : V μ w nL κ σ lo pc r := by
  obtain ⟨p, l, e, R, s, m, args, below, meth, c, Q, kc, ks⟩ := κ
  exact fun H locs ls hP hS hl => lv_lload_n hC.1 hC.2.1 hd hi (lhas_at hl h) (k H locs ls hP hS hl)
theorem V.lload (hC : Cx μ w nL κ own cc d) {i : Nat} {x : Int64} (hd : decode cc pc = .ok (.lload i, 2)) (h : lo[i]? = some (some (.long x))) (k : V μ w nL κ σ lo (pc + 2) (.long x :: r)) : V μ w nL κ σ lo pc r := by
  obtain ⟨p, l, e, R, s, m, args, below, meth, c, Q, kc, ks⟩ := κ
  exact fun H locs ls hP hS hl => lv_lload hC.1 hC.2.1 hd (lhas_at hl h) (k H locs ls hP hS hl)
theorem V.aload_n (hC : Cx μ w nL κ own cc d) {j : Fin 4} {i x : Nat} (hd : decode cc pc = .ok (.aload_n j, 1)) (hi : (j : Nat) = i) (h : lo[i]? = some (some (.ref x))) (k : V μ w nL κ σ lo (pc + 1) (.ref x :: r)) : V μ w nL κ σ lo pc r := by
  obtain ⟨p, l, e, R, s, m, args, below, meth, c, Q, kc, ks⟩ := κ
  exact fun H locs ls hP hS hl => lv_aload_n hC.1 hC.2.1 hd hi (lhas_at hl h) (k H locs ls hP hS hl)
theorem V.aload (hC : Cx μ w nL κ own cc d) {i x : Nat} (hd : decode cc pc = .ok (.aload i, 2)) (h : lo[i]? = some (some (.ref x))) (k : V μ w nL κ σ lo (pc + 2) (.ref x :: r)) : V μ w nL κ σ lo pc r := by
  obtain ⟨p, l, e, R, s, m, args, below, meth, c, Q, kc, ks⟩ := κ
  exact fun H locs ls hP hS hl => lv_aload hC.1 hC.2.1 hd (lhas_at hl h) (k H locs ls hP hS hl)
theorem V.istore_n (hC : Cx μ w nL κ own cc d) {j : Fin 4} {i : Nat} {x y : Int32} {lo' : List (Option Value)} (hd : decode cc pc = .ok (.istore_n j, 1)) (hi : (j : Nat) = i) (hn : Nat.ble (i + 1) nL = true) (hy : y = x) (h : sto1 lo i (.int y) = lo') (k : V μ w nL κ σ lo' (pc + 1) r) : V μ w nL κ σ lo pc (.int x :: r) := by
  obtain ⟨p, l, e, R, s, m, args, below, meth, c, Q, kc, ks⟩ := κ
  subst hy; subst h
  exact fun H locs ls hP hS hl => lv_istore_n hC.1 hC.2.1 hd hi hl (Nat.le_of_ble_eq_true hn) rfl (fun ls' hl' => k H locs ls' hP hS (lhas_sto1 hl'))
theorem V.istore (hC : Cx μ w nL κ own cc d) {i : Nat} {x y : Int32} {lo' : List (Option Value)} (hd : decode cc pc = .ok (.istore i, 2)) (hn : Nat.ble (i + 1) nL = true) (hy : y = x) (h : sto1 lo i (.int y) = lo') (k : V μ w nL κ σ lo' (pc + 2) r) : V μ w nL κ σ lo pc (.int x :: r) := by
  obtain ⟨p, l, e, R, s, m, args, below, meth, c, Q, kc, ks⟩ := κ
  subst hy; subst h
  exact fun H locs ls hP hS hl => lv_istore hC.1 hC.2.1 hd hl (Nat.le_of_ble_eq_true hn) rfl (fun ls' hl' => k H locs ls' hP hS (lhas_sto1 hl'))
theorem V.lstore_n (hC : Cx μ w nL κ own cc d) {j : Fin 4} {i : Nat} {x y : Int64} {lo' : List (Option Value)} (hd : decode cc pc = .ok (.lstore_n j, 1)) (hi : (j : Nat) = i) (hn : Nat.ble (i + 2) nL = true) (hy : y = x) (h : sto2 lo i (.long y) = lo') (k : V μ w nL κ σ lo' (pc + 1) r) : V μ w nL κ σ lo pc (.long x :: r) := by
  obtain ⟨p, l, e, R, s, m, args, below, meth, c, Q, kc, ks⟩ := κ
  subst hy; subst h
  exact fun H locs ls hP hS hl => lv_lstore_n hC.1 hC.2.1 hd hi hl (Nat.le_of_ble_eq_true hn) rfl (fun ls' hl' => k H locs ls' hP hS (lhas_sto2 hl'))
theorem V.lstore (hC : Cx μ w nL κ own cc d) {i : Nat} {x y : Int64} {lo' : List (Option Value)} (hd : decode cc pc = .ok (.lstore i, 2)) (hn : Nat.ble (i + 2) nL = true) (hy : y = x) (h : sto2 lo i (.long y) = lo') (k : V μ w nL κ σ lo' (pc + 2) r) : V μ w nL κ σ lo pc (.long x :: r) := by
  obtain ⟨p, l, e, R, s, m, args, below, meth, c, Q, kc, ks⟩ := κ
  subst hy; subst h
  exact fun H locs ls hP hS hl => lv_lstore hC.1 hC.2.1 hd hl (Nat.le_of_ble_eq_true hn) rfl (fun ls' hl' => k H locs ls' hP hS (lhas_sto2 hl'))
theorem V.astore_n (hC : Cx μ w nL κ own cc d) {j : Fin 4} {i x : Nat} {lo' : List (Option Value)} (hd : decode cc pc = .ok (.astore_n j, 1)) (hi : (j : Nat) = i) (hn : Nat.ble (i + 1) nL = true) (h : sto1 lo i (.ref x) = lo') (k : V μ w nL κ σ lo' (pc + 1) r) : V μ w nL κ σ lo pc (.ref x :: r) := by
  obtain ⟨p, l, e, R, s, m, args, below, meth, c, Q, kc, ks⟩ := κ
  subst h
  exact fun H locs ls hP hS hl => lv_astore_n hC.1 hC.2.1 hd hi hl (Nat.le_of_ble_eq_true hn) rfl (fun ls' hl' => k H locs ls' hP hS (lhas_sto1 hl'))
theorem V.astore (hC : Cx μ w nL κ own cc d) {i x : Nat} {lo' : List (Option Value)} (hd : decode cc pc = .ok (.astore i, 2)) (hn : Nat.ble (i + 1) nL = true) (h : sto1 lo i (.ref x) = lo') (k : V μ w nL κ σ lo' (pc + 2) r) : V μ w nL κ σ lo pc (.ref x :: r) := by
  obtain ⟨p, l, e, R, s, m, args, below, meth, c, Q, kc, ks⟩ := κ
  subst h
  exact fun H locs ls hP hS hl => lv_astore hC.1 hC.2.1 hd hl (Nat.le_of_ble_eq_true hn) rfl (fun ls' hl' => k H locs ls' hP hS (lhas_sto1 hl'))
theorem asl_place : ∀ (lo : List (Option Value)) (b i : Nat) (v : Value), lo[i]? = some (some v) → ∃ k : Nat, (asl b lo)[k]? = some (b + i, v) := by
  intro lo b i v h
  have hm : (b + i, v) ∈ asl b lo := (asl_mem lo b (b + i, v)).mpr ⟨Nat.le_add_right _ _, by simpa using h⟩
  exact List.getElem?_of_mem hm
theorem V.iinc (hC : Cx μ w nL κ own cc d) {i : Nat} {n : Int} {x y : Int32} {lo' : List (Option Value)} (hd : decode cc pc = .ok (.iinc i n, 3)) (hn : Nat.ble (i + 1) nL = true) (hx : lo[i]? = some (some (.int x))) (hy : y = x + Int32.ofInt n) (h : sto1 lo i (.int y) = lo') (k : V μ w nL κ σ lo' (pc + 3) r) : V μ w nL κ σ lo pc r := by
  obtain ⟨p, l, e, R, s, m, args, below, meth, c, Q, kc, ks⟩ := κ
  subst h
  obtain ⟨k0, hk0⟩ := asl_place lo 0 i _ hx
  rw [Nat.zero_add] at hk0
  exact fun H locs ls hP hS hl => lv_iinc hC.1 hC.2.1 hd hl hk0 hy.symm (Nat.le_of_ble_eq_true hn) rfl (fun ls' hl' => k H locs ls' hP hS (lhas_sto1 hl'))
theorem V.iadd (hC : Cx μ w nL κ own cc d) {x y : Int32} (hd : decode cc pc = .ok (.iadd, 1)) (k : V μ w nL κ σ lo (pc + 1) (.int (x + y) :: r)) : V μ w nL κ σ lo pc (.int y :: .int x :: r) := by
  obtain ⟨p, l, e, R, s, m, args, below, meth, c, Q, kc, ks⟩ := κ
  exact fun H locs ls hP hS hl => lv_iadd hC.1 hC.2.1 hd (k H locs ls hP hS hl)
theorem V.isub (hC : Cx μ w nL κ own cc d) {x y : Int32} (hd : decode cc pc = .ok (.isub, 1)) (k : V μ w nL κ σ lo (pc + 1) (.int (x - y) :: r)) : V μ w nL κ σ lo pc (.int y :: .int x :: r) := by
  obtain ⟨p, l, e, R, s, m, args, below, meth, c, Q, kc, ks⟩ := κ
  exact fun H locs ls hP hS hl => lv_isub hC.1 hC.2.1 hd (k H locs ls hP hS hl)
theorem V.imul (hC : Cx μ w nL κ own cc d) {x y : Int32} (hd : decode cc pc = .ok (.imul, 1)) (k : V μ w nL κ σ lo (pc + 1) (.int (x * y) :: r)) : V μ w nL κ σ lo pc (.int y :: .int x :: r) := by
  obtain ⟨p, l, e, R, s, m, args, below, meth, c, Q, kc, ks⟩ := κ
  exact fun H locs ls hP hS hl => lv_imul hC.1 hC.2.1 hd (k H locs ls hP hS hl)
theorem V.iand (hC : Cx μ w nL κ own cc d) {x y : Int32} (hd : decode cc pc = .ok (.iand, 1)) (k : V μ w nL κ σ lo (pc + 1) (.int (x &&& y) :: r)) : V μ w nL κ σ lo pc (.int y :: .int x :: r) := by
  obtain ⟨p, l, e, R, s, m, args, below, meth, c, Q, kc, ks⟩ := κ
  exact fun H locs ls hP hS hl => lv_iand hC.1 hC.2.1 hd (k H locs ls hP hS hl)
theorem V.ior (hC : Cx μ w nL κ own cc d) {x y : Int32} (hd : decode cc pc = .ok (.ior, 1)) (k : V μ w nL κ σ lo (pc + 1) (.int (x ||| y) :: r)) : V μ w nL κ σ lo pc (.int y :: .int x :: r) := by
  obtain ⟨p, l, e, R, s, m, args, below, meth, c, Q, kc, ks⟩ := κ
  exact fun H locs ls hP hS hl => lv_ior hC.1 hC.2.1 hd (k H locs ls hP hS hl)
theorem V.ixor (hC : Cx μ w nL κ own cc d) {x y : Int32} (hd : decode cc pc = .ok (.ixor, 1)) (k : V μ w nL κ σ lo (pc + 1) (.int (x ^^^ y) :: r)) : V μ w nL κ σ lo pc (.int y :: .int x :: r) := by
  obtain ⟨p, l, e, R, s, m, args, below, meth, c, Q, kc, ks⟩ := κ
  exact fun H locs ls hP hS hl => lv_ixor hC.1 hC.2.1 hd (k H locs ls hP hS hl)
theorem V.ishl (hC : Cx μ w nL κ own cc d) {x y : Int32} (hd : decode cc pc = .ok (.ishl, 1)) (k : V μ w nL κ σ lo (pc + 1) (.int (x <<< (y &&& 31)) :: r)) : V μ w nL κ σ lo pc (.int y :: .int x :: r) := by
  obtain ⟨p, l, e, R, s, m, args, below, meth, c, Q, kc, ks⟩ := κ
  exact fun H locs ls hP hS hl => lv_ishl hC.1 hC.2.1 hd (k H locs ls hP hS hl)
theorem V.ishr (hC : Cx μ w nL κ own cc d) {x y : Int32} (hd : decode cc pc = .ok (.ishr, 1)) (k : V μ w nL κ σ lo (pc + 1) (.int (x >>> (y &&& 31)) :: r)) : V μ w nL κ σ lo pc (.int y :: .int x :: r) := by
  obtain ⟨p, l, e, R, s, m, args, below, meth, c, Q, kc, ks⟩ := κ
  exact fun H locs ls hP hS hl => lv_ishr hC.1 hC.2.1 hd (k H locs ls hP hS hl)
theorem V.idiv (hC : Cx μ w nL κ own cc d) {x y : Int32} (hd : decode cc pc = .ok (.idiv, 1)) (hne : ¬ y = 0) (k : V μ w nL κ σ lo (pc + 1) (.int (x / y) :: r)) : V μ w nL κ σ lo pc (.int y :: .int x :: r) := by
  obtain ⟨p, l, e, R, s, m, args, below, meth, c, Q, kc, ks⟩ := κ
  exact fun H locs ls hP hS hl => lv_idiv hC.1 hC.2.1 hd hne (k H locs ls hP hS hl)
theorem V.irem (hC : Cx μ w nL κ own cc d) {x y : Int32} (hd : decode cc pc = .ok (.irem, 1)) (hne : ¬ y = 0) (k : V μ w nL κ σ lo (pc + 1) (.int (x - x / y * y) :: r)) : V μ w nL κ σ lo pc (.int y :: .int x :: r) := by
  obtain ⟨p, l, e, R, s, m, args, below, meth, c, Q, kc, ks⟩ := κ
  exact fun H locs ls hP hS hl => lv_irem hC.1 hC.2.1 hd hne (k H locs ls hP hS hl)
theorem V.ineg (hC : Cx μ w nL κ own cc d) {x : Int32} (hd : decode cc pc = .ok (.ineg, 1)) (k : V μ w nL κ σ lo (pc + 1) (.int (-x) :: r)) : V μ w nL κ σ lo pc (.int x :: r) := by
  obtain ⟨p, l, e, R, s, m, args, below, meth, c, Q, kc, ks⟩ := κ
  exact fun H locs ls hP hS hl => lv_ineg hC.1 hC.2.1 hd (k H locs ls hP hS hl)
theorem V.iushr (hC : Cx μ w nL κ own cc d) {x y : Int32} (hd : decode cc pc = .ok (.iushr, 1)) (k : V μ w nL κ σ lo (pc + 1) (.int ((x.toUInt32 >>> (y.toUInt32 &&& Int32.toUInt32 31)).toInt32) :: r)) : V μ w nL κ σ lo pc (.int y :: .int x :: r) := by
  obtain ⟨p, l, e, R, s, m, args, below, meth, c, Q, kc, ks⟩ := κ
  exact fun H locs ls hP hS hl => lv_iushr hC.1 hC.2.1 hd rfl (k H locs ls hP hS hl)
theorem V.i2l (hC : Cx μ w nL κ own cc d) {x : Int32} (hd : decode cc pc = .ok (.i2l, 1)) (k : V μ w nL κ σ lo (pc + 1) (.long x.toInt64 :: r)) : V μ w nL κ σ lo pc (.int x :: r) := by
  obtain ⟨p, l, e, R, s, m, args, below, meth, c, Q, kc, ks⟩ := κ
  exact fun H locs ls hP hS hl => lv_i2l hC.1 hC.2.1 hd rfl (k H locs ls hP hS hl)
theorem V.i2b (hC : Cx μ w nL κ own cc d) {x : Int32} (hd : decode cc pc = .ok (.i2b, 1)) (k : V μ w nL κ σ lo (pc + 1) (.int x.toInt8.toInt32 :: r)) : V μ w nL κ σ lo pc (.int x :: r) := by
  obtain ⟨p, l, e, R, s, m, args, below, meth, c, Q, kc, ks⟩ := κ
  exact fun H locs ls hP hS hl => lv_i2b hC.1 hC.2.1 hd rfl (k H locs ls hP hS hl)
theorem V.i2s (hC : Cx μ w nL κ own cc d) {x : Int32} (hd : decode cc pc = .ok (.i2s, 1)) (k : V μ w nL κ σ lo (pc + 1) (.int x.toInt16.toInt32 :: r)) : V μ w nL κ σ lo pc (.int x :: r) := by
  obtain ⟨p, l, e, R, s, m, args, below, meth, c, Q, kc, ks⟩ := κ
  exact fun H locs ls hP hS hl => lv_i2s hC.1 hC.2.1 hd rfl (k H locs ls hP hS hl)
theorem V.i2c (hC : Cx μ w nL κ own cc d) {x : Int32} (hd : decode cc pc = .ok (.i2c, 1)) (k : V μ w nL κ σ lo (pc + 1) (.int (x.toUInt32 % 65536).toInt32 :: r)) : V μ w nL κ σ lo pc (.int x :: r) := by
  obtain ⟨p, l, e, R, s, m, args, below, meth, c, Q, kc, ks⟩ := κ
  exact fun H locs ls hP hS hl => lv_i2c hC.1 hC.2.1 hd rfl (k H locs ls hP hS hl)
theorem V.ladd (hC : Cx μ w nL κ own cc d) {x y : Int64} (hd : decode cc pc = .ok (.ladd, 1)) (k : V μ w nL κ σ lo (pc + 1) (.long (x + y) :: r)) : V μ w nL κ σ lo pc (.long y :: .long x :: r) := by
  obtain ⟨p, l, e, R, s, m, args, below, meth, c, Q, kc, ks⟩ := κ
  exact fun H locs ls hP hS hl => lv_ladd hC.1 hC.2.1 hd (k H locs ls hP hS hl)
theorem V.lsub (hC : Cx μ w nL κ own cc d) {x y : Int64} (hd : decode cc pc = .ok (.lsub, 1)) (k : V μ w nL κ σ lo (pc + 1) (.long (x - y) :: r)) : V μ w nL κ σ lo pc (.long y :: .long x :: r) := by
  obtain ⟨p, l, e, R, s, m, args, below, meth, c, Q, kc, ks⟩ := κ
  exact fun H locs ls hP hS hl => lv_lsub hC.1 hC.2.1 hd (k H locs ls hP hS hl)
theorem V.lmul (hC : Cx μ w nL κ own cc d) {x y : Int64} (hd : decode cc pc = .ok (.lmul, 1)) (k : V μ w nL κ σ lo (pc + 1) (.long (x * y) :: r)) : V μ w nL κ σ lo pc (.long y :: .long x :: r) := by
  obtain ⟨p, l, e, R, s, m, args, below, meth, c, Q, kc, ks⟩ := κ
  exact fun H locs ls hP hS hl => lv_lmul hC.1 hC.2.1 hd (k H locs ls hP hS hl)
theorem V.ldiv (hC : Cx μ w nL κ own cc d) {x y : Int64} (hd : decode cc pc = .ok (.ldiv, 1)) (hne : ¬ y = 0) (k : V μ w nL κ σ lo (pc + 1) (.long (x / y) :: r)) : V μ w nL κ σ lo pc (.long y :: .long x :: r) := by
  obtain ⟨p, l, e, R, s, m, args, below, meth, c, Q, kc, ks⟩ := κ
  exact fun H locs ls hP hS hl => lv_ldiv hC.1 hC.2.1 hd hne (k H locs ls hP hS hl)
theorem V.lrem (hC : Cx μ w nL κ own cc d) {x y : Int64} (hd : decode cc pc = .ok (.lrem, 1)) (hne : ¬ y = 0) (k : V μ w nL κ σ lo (pc + 1) (.long (x - x / y * y) :: r)) : V μ w nL κ σ lo pc (.long y :: .long x :: r) := by
  obtain ⟨p, l, e, R, s, m, args, below, meth, c, Q, kc, ks⟩ := κ
  exact fun H locs ls hP hS hl => lv_lrem hC.1 hC.2.1 hd hne (k H locs ls hP hS hl)
theorem V.lshl (hC : Cx μ w nL κ own cc d) {x : Int64} {y : Int32} (hd : decode cc pc = .ok (.lshl, 1)) (k : V μ w nL κ σ lo (pc + 1) (.long (x <<< (y.toInt64 &&& 63)) :: r)) : V μ w nL κ σ lo pc (.int y :: .long x :: r) := by
  obtain ⟨p, l, e, R, s, m, args, below, meth, c, Q, kc, ks⟩ := κ
  exact fun H locs ls hP hS hl => lv_lshl hC.1 hC.2.1 hd rfl (k H locs ls hP hS hl)
theorem V.lcmp (hC : Cx μ w nL κ own cc d) {x y : Int64} (hd : decode cc pc = .ok (.lcmp, 1)) (k : V μ w nL κ σ lo (pc + 1) (.int (lg_cmp x y) :: r)) : V μ w nL κ σ lo pc (.long y :: .long x :: r) := by
  obtain ⟨p, l, e, R, s, m, args, below, meth, c, Q, kc, ks⟩ := κ
  exact fun H locs ls hP hS hl => W.lcmp hC.1 hC.2.1 hd (k H locs ls hP hS hl)
theorem V.dup (hC : Cx μ w nL κ own cc d) {v : Value} (hd : decode cc pc = .ok (.dup, 1)) (h1 : v.category = 1) (k : V μ w nL κ σ lo (pc + 1) (v :: v :: r)) : V μ w nL κ σ lo pc (v :: r) := by
  obtain ⟨p, l, e, R, s, m, args, below, meth, c, Q, kc, ks⟩ := κ
  exact fun H locs ls hP hS hl => lv_dup hC.1 hC.2.1 hd h1 (k H locs ls hP hS hl)
theorem V.pop (hC : Cx μ w nL κ own cc d) {v : Value} (hd : decode cc pc = .ok (.pop, 1)) (h1 : v.category = 1) (k : V μ w nL κ σ lo (pc + 1) (r)) : V μ w nL κ σ lo pc (v :: r) := by
  obtain ⟨p, l, e, R, s, m, args, below, meth, c, Q, kc, ks⟩ := κ
  exact fun H locs ls hP hS hl => lv_pop hC.1 hC.2.1 hd h1 (k H locs ls hP hS hl)
theorem V.dup2_11 (hC : Cx μ w nL κ own cc d) {v u : Value} (hd : decode cc pc = .ok (.dup2, 1)) (h1 : v.category = 1) (h2 : u.category = 1) (k : V μ w nL κ σ lo (pc + 1) (v :: u :: v :: u :: r)) : V μ w nL κ σ lo pc (v :: u :: r) := by
  obtain ⟨p, l, e, R, s, m, args, below, meth, c, Q, kc, ks⟩ := κ
  exact fun H locs ls hP hS hl => lv_dup2_11 hC.1 hC.2.1 hd h1 h2 (k H locs ls hP hS hl)
theorem V.if_eq (hC : Cx μ w nL κ own cc d) {x : Int32} {off : Int} {tgt : Nat} (hd : decode cc pc = .ok (.ifCond .eq off, 3)) (ht : (pc : Int) + off = (tgt : Int)) (kt : x = 0 → V μ w nL κ σ lo tgt r) (kf : ¬ x = 0 → V μ w nL κ σ lo (pc + 3) r) : V μ w nL κ σ lo pc (.int x :: r) := by
  obtain ⟨p, l, e, R, s, m, args, below, meth, c, Q, kc, ks⟩ := κ
  exact fun H locs ls hP hS hl => lv_if_eq hC.1 hC.2.1 hd ht (fun z => kt z H locs ls hP hS hl) (fun z => kf z H locs ls hP hS hl)
theorem V.icmp_eq (hC : Cx μ w nL κ own cc d) {x y : Int32} {off : Int} {tgt : Nat} (hd : decode cc pc = .ok (.if_icmp .eq off, 3)) (ht : (pc : Int) + off = (tgt : Int)) (kt : x = y → V μ w nL κ σ lo tgt r) (kf : ¬ x = y → V μ w nL κ σ lo (pc + 3) r) : V μ w nL κ σ lo pc (.int y :: .int x :: r) := by
  obtain ⟨p, l, e, R, s, m, args, below, meth, c, Q, kc, ks⟩ := κ
  exact fun H locs ls hP hS hl => lv_icmp_eq hC.1 hC.2.1 hd ht (fun z => kt z H locs ls hP hS hl) (fun z => kf z H locs ls hP hS hl)
theorem V.if_ne (hC : Cx μ w nL κ own cc d) {x : Int32} {off : Int} {tgt : Nat} (hd : decode cc pc = .ok (.ifCond .ne off, 3)) (ht : (pc : Int) + off = (tgt : Int)) (kt : ¬ x = 0 → V μ w nL κ σ lo tgt r) (kf : x = 0 → V μ w nL κ σ lo (pc + 3) r) : V μ w nL κ σ lo pc (.int x :: r) := by
  obtain ⟨p, l, e, R, s, m, args, below, meth, c, Q, kc, ks⟩ := κ
  exact fun H locs ls hP hS hl => lv_if_ne hC.1 hC.2.1 hd ht (fun z => kt z H locs ls hP hS hl) (fun z => kf z H locs ls hP hS hl)
theorem V.icmp_ne (hC : Cx μ w nL κ own cc d) {x y : Int32} {off : Int} {tgt : Nat} (hd : decode cc pc = .ok (.if_icmp .ne off, 3)) (ht : (pc : Int) + off = (tgt : Int)) (kt : ¬ x = y → V μ w nL κ σ lo tgt r) (kf : x = y → V μ w nL κ σ lo (pc + 3) r) : V μ w nL κ σ lo pc (.int y :: .int x :: r) := by
  obtain ⟨p, l, e, R, s, m, args, below, meth, c, Q, kc, ks⟩ := κ
  exact fun H locs ls hP hS hl => lv_icmp_ne hC.1 hC.2.1 hd ht (fun z => kt z H locs ls hP hS hl) (fun z => kf z H locs ls hP hS hl)
theorem V.if_lt (hC : Cx μ w nL κ own cc d) {x : Int32} {off : Int} {tgt : Nat} (hd : decode cc pc = .ok (.ifCond .lt off, 3)) (ht : (pc : Int) + off = (tgt : Int)) (kt : x < 0 → V μ w nL κ σ lo tgt r) (kf : ¬ x < 0 → V μ w nL κ σ lo (pc + 3) r) : V μ w nL κ σ lo pc (.int x :: r) := by
  obtain ⟨p, l, e, R, s, m, args, below, meth, c, Q, kc, ks⟩ := κ
  exact fun H locs ls hP hS hl => lv_if_lt hC.1 hC.2.1 hd ht (fun z => kt z H locs ls hP hS hl) (fun z => kf z H locs ls hP hS hl)
theorem V.icmp_lt (hC : Cx μ w nL κ own cc d) {x y : Int32} {off : Int} {tgt : Nat} (hd : decode cc pc = .ok (.if_icmp .lt off, 3)) (ht : (pc : Int) + off = (tgt : Int)) (kt : x < y → V μ w nL κ σ lo tgt r) (kf : ¬ x < y → V μ w nL κ σ lo (pc + 3) r) : V μ w nL κ σ lo pc (.int y :: .int x :: r) := by
  obtain ⟨p, l, e, R, s, m, args, below, meth, c, Q, kc, ks⟩ := κ
  exact fun H locs ls hP hS hl => lv_icmp_lt hC.1 hC.2.1 hd ht (fun z => kt z H locs ls hP hS hl) (fun z => kf z H locs ls hP hS hl)
theorem V.if_ge (hC : Cx μ w nL κ own cc d) {x : Int32} {off : Int} {tgt : Nat} (hd : decode cc pc = .ok (.ifCond .ge off, 3)) (ht : (pc : Int) + off = (tgt : Int)) (kt : 0 ≤ x → V μ w nL κ σ lo tgt r) (kf : ¬ 0 ≤ x → V μ w nL κ σ lo (pc + 3) r) : V μ w nL κ σ lo pc (.int x :: r) := by
  obtain ⟨p, l, e, R, s, m, args, below, meth, c, Q, kc, ks⟩ := κ
  exact fun H locs ls hP hS hl => lv_if_ge hC.1 hC.2.1 hd ht (fun z => kt z H locs ls hP hS hl) (fun z => kf z H locs ls hP hS hl)
theorem V.icmp_ge (hC : Cx μ w nL κ own cc d) {x y : Int32} {off : Int} {tgt : Nat} (hd : decode cc pc = .ok (.if_icmp .ge off, 3)) (ht : (pc : Int) + off = (tgt : Int)) (kt : y ≤ x → V μ w nL κ σ lo tgt r) (kf : ¬ y ≤ x → V μ w nL κ σ lo (pc + 3) r) : V μ w nL κ σ lo pc (.int y :: .int x :: r) := by
  obtain ⟨p, l, e, R, s, m, args, below, meth, c, Q, kc, ks⟩ := κ
  exact fun H locs ls hP hS hl => lv_icmp_ge hC.1 hC.2.1 hd ht (fun z => kt z H locs ls hP hS hl) (fun z => kf z H locs ls hP hS hl)
theorem V.if_gt (hC : Cx μ w nL κ own cc d) {x : Int32} {off : Int} {tgt : Nat} (hd : decode cc pc = .ok (.ifCond .gt off, 3)) (ht : (pc : Int) + off = (tgt : Int)) (kt : 0 < x → V μ w nL κ σ lo tgt r) (kf : ¬ 0 < x → V μ w nL κ σ lo (pc + 3) r) : V μ w nL κ σ lo pc (.int x :: r) := by
  obtain ⟨p, l, e, R, s, m, args, below, meth, c, Q, kc, ks⟩ := κ
  exact fun H locs ls hP hS hl => lv_if_gt hC.1 hC.2.1 hd ht (fun z => kt z H locs ls hP hS hl) (fun z => kf z H locs ls hP hS hl)
theorem V.icmp_gt (hC : Cx μ w nL κ own cc d) {x y : Int32} {off : Int} {tgt : Nat} (hd : decode cc pc = .ok (.if_icmp .gt off, 3)) (ht : (pc : Int) + off = (tgt : Int)) (kt : y < x → V μ w nL κ σ lo tgt r) (kf : ¬ y < x → V μ w nL κ σ lo (pc + 3) r) : V μ w nL κ σ lo pc (.int y :: .int x :: r) := by
  obtain ⟨p, l, e, R, s, m, args, below, meth, c, Q, kc, ks⟩ := κ
  exact fun H locs ls hP hS hl => lv_icmp_gt hC.1 hC.2.1 hd ht (fun z => kt z H locs ls hP hS hl) (fun z => kf z H locs ls hP hS hl)
theorem V.if_le (hC : Cx μ w nL κ own cc d) {x : Int32} {off : Int} {tgt : Nat} (hd : decode cc pc = .ok (.ifCond .le off, 3)) (ht : (pc : Int) + off = (tgt : Int)) (kt : x ≤ 0 → V μ w nL κ σ lo tgt r) (kf : ¬ x ≤ 0 → V μ w nL κ σ lo (pc + 3) r) : V μ w nL κ σ lo pc (.int x :: r) := by
  obtain ⟨p, l, e, R, s, m, args, below, meth, c, Q, kc, ks⟩ := κ
  exact fun H locs ls hP hS hl => lv_if_le hC.1 hC.2.1 hd ht (fun z => kt z H locs ls hP hS hl) (fun z => kf z H locs ls hP hS hl)
theorem V.icmp_le (hC : Cx μ w nL κ own cc d) {x y : Int32} {off : Int} {tgt : Nat} (hd : decode cc pc = .ok (.if_icmp .le off, 3)) (ht : (pc : Int) + off = (tgt : Int)) (kt : x ≤ y → V μ w nL κ σ lo tgt r) (kf : ¬ x ≤ y → V μ w nL κ σ lo (pc + 3) r) : V μ w nL κ σ lo pc (.int y :: .int x :: r) := by
  obtain ⟨p, l, e, R, s, m, args, below, meth, c, Q, kc, ks⟩ := κ
  exact fun H locs ls hP hS hl => lv_icmp_le hC.1 hC.2.1 hd ht (fun z => kt z H locs ls hP hS hl) (fun z => kf z H locs ls hP hS hl)
theorem V.goto (hC : Cx μ w nL κ own cc d) {off : Int} {tgt : Nat} (hd : decode cc pc = .ok (.goto off, 3)) (ht : (pc : Int) + off = (tgt : Int)) (k : V μ w nL κ σ lo tgt r) : V μ w nL κ σ lo pc r := by
  obtain ⟨p, l, e, R, s, m, args, below, meth, c, Q, kc, ks⟩ := κ
  exact fun H locs ls hP hS hl => lv_goto hC.1 hC.2.1 hd ht (k H locs ls hP hS hl)
theorem V.tabOut (hC : Cx μ w nL κ own cc d) {df lw hg : Int} {offs : Array Int} {len : Nat} {x : Int32} {tgt : Nat} (hd : decode cc pc = .ok (.tableswitch df lw hg offs, len)) (h : x.toInt < lw ∨ hg < x.toInt) (ht : (pc : Int) + df = (tgt : Int)) (k : V μ w nL κ σ lo tgt r) : V μ w nL κ σ lo pc (.int x :: r) := by
  obtain ⟨p, l, e, R, s, m, args, below, meth, c, Q, kc, ks⟩ := κ
  exact fun H locs ls hP hS hl => lv_tableOut hC.1 hC.2.1 hd h ht (k H locs ls hP hS hl)
theorem V.tabIn (hC : Cx μ w nL κ own cc d) {df lw hg off : Int} {offs : Array Int} {len : Nat} {x : Int32} {tgt : Nat} (hd : decode cc pc = .ok (.tableswitch df lw hg offs, len)) (h1 : ¬ x.toInt < lw) (h2 : ¬ hg < x.toInt) (ho : offs[(x.toInt - lw).toNat]? = some off) (ht : (pc : Int) + off = (tgt : Int)) (k : V μ w nL κ σ lo tgt r) : V μ w nL κ σ lo pc (.int x :: r) := by
  obtain ⟨p, l, e, R, s, m, args, below, meth, c, Q, kc, ks⟩ := κ
  exact fun H locs ls hP hS hl => lv_tableIn hC.1 hC.2.1 hd h1 h2 ho ht (k H locs ls hP hS hl)
/-- a field's value, of an object whose shape is known -/
theorem V.get (hC : Cx μ w nL κ own cc d) {o ci j i N : Nat} {C : String} {T : u_T} {fs : List (Nat ⊕ Nat)} {f : Nat ⊕ Nat} (hd : decode cc pc = .ok (.getfield i, 3)) (hs : μ.1[o]? = some (.inl (ci, fs))) (hc : classes[ci]? = some (C, T, N)) (hu : ∀ x ∈ u_ws C T N, x ∈ tbl) (hj : Nat.ble (j + 1) N = true) (hf : fs[j]? = some f) (hw : Cond.fieldLink own i (T j).1 (T j).2.1 (T j).2.2.1 ∈ tbl) (k : V μ w nL κ σ lo (pc + 3) (fcel w (σ o) f :: r)) : V μ w nL κ σ lo pc (.ref (w.1 o) :: r) := by
  obtain ⟨p, l, e, R, s, m, args, below, meth, c, Q, kc, ks⟩ := κ
  exact fun H locs ls hP hS hl => va_get (Ts := tbl) hC.1 hC.2.1 hC.2.2.2.2.1 hu hC.2.2.2.1 hC.2.2.2.2.2.1 hP o (cels_get hs) hc j (Nat.le_of_ble_eq_true hj) (hC.2.2.2.2.1 _ hw) (fun _ h9 => h9) (by simp [hf]) hd (k H locs ls hP hS hl)
theorem fcel_set (w : Wd) (f : Nat → Int32) (j : Nat) (v : Int32) (fs : List (Nat ⊕ Nat)) (h : ∀ i, fs[i]? = some (Sum.inl j) → i = j) (hj : fs[j]? = some (Sum.inl j)) : (fs.map (fcel w f)).set j (.int v) = fs.map (fcel w (upd f j v)) := by
  apply List.ext_getElem?
  intro i
  rw [List.getElem?_set, List.getElem?_map, List.getElem?_map]
  by_cases hi : j = i
  · subst hi
    have hl : j < (fs.map (fcel w f)).length := by simp; exact (List.getElem?_eq_some_iff.mp hj).1
    rw [if_pos rfl, if_pos hl, hj]
    simp [fcel, upd]
  · rw [if_neg hi]
    cases hx : fs[i]? with
    | none => rfl
    | some y =>
      cases y with
      | inr q => rfl
      | inl z =>
        have hz : z ≠ j := by
          intro e
          subst e
          exact hi (h i hx).symm
        simp [fcel, upd, hz]
/-- each int field has its own place -/
def ownPl (fs : List (Nat ⊕ Nat)) : Bool := (List.range fs.length).all (fun i => match fs[i]? with | some (.inl j) => i == j | _ => true)
theorem ownPl_spec {fs : List (Nat ⊕ Nat)} (h : ownPl fs = true) {i j : Nat} (hi : fs[i]? = some (.inl j)) : i = j := by
  have h1 := List.all_eq_true.mp h i (List.mem_range.mpr (List.getElem?_eq_some_iff.mp hi).1)
  rw [hi] at h1
  simpa using h1
theorem V.put (hC : Cx μ w nL κ own cc d) {o ci j i N : Nat} {C : String} {T : u_T} {fs : List (Nat ⊕ Nat)} {ty0 : Nat → FieldType} {v : Int32} (hd : decode cc pc = .ok (.putfield i, 3)) (hs : μ.1[o]? = some (.inl (ci, fs))) (hc : classes[ci]? = some (C, T, N)) (hu : ∀ x ∈ u_ws C T N, x ∈ tbl) (hty : ∀ k, k < N → parseFieldDescriptor (T k).2.2.1 = some (ty0 k)) (hnm : ∀ a, a < N → ∀ b, b < N → a ≠ b → (T a).2.1 ≠ (T b).2.1) (hj : Nat.ble (j + 1) N = true) (hf : fs[j]? = some (.inl j)) (hown : ownPl fs = true) (hint : ty0 j = .int) (hfin : (T j).2.2.2 = false) (hw : Cond.fieldLink own i (T j).1 (T j).2.1 (T j).2.2.1 ∈ tbl) (k : V μ w nL κ (st σ o j v) lo (pc + 3) r) : V μ w nL κ σ lo pc (.int v :: .ref (w.1 o) :: r) := by
  obtain ⟨p, l, e, R, s, m, args, below, meth, c, Q, kc, ks⟩ := κ
  intro H locs ls hP hS hl
  have hjN := Nat.le_of_ble_eq_true hj
  refine va_put (Ts := tbl) (ty := .int) hC.1 hC.2.1 hC.2.2.2.2.1 hu ty0 hty hnm hC.2.2.2.1 hC.2.2.2.2.2.1 hP (cels_D σ hC.2.2.2.2.2.2.1) hS o (cels_get hs) hc j hjN (hC.2.2.2.2.1 _ hw) (fun _ h9 => h9) hfin (by rw [hty j hjN, hint]) rfl rfl (by simp; exact (List.getElem?_eq_some_iff.mp hf).1) hd (fun H1 locs1 hP1 _ hS1 => k H1 locs1 ls ?_ hS1 hl)
  rw [fcel_set w (σ o) j v fs (fun i hi => ownPl_spec hown hi) hf] at hP1
  have h2 : cel w (st σ o j v o) (.inl (ci, fs)) = .inr (ci, fs.map (fcel w (upd (σ o) j v))) := by rw [st_at]; rfl
  rw [← h2, cels_set hs (fun q hq => st_ne σ j v hq)] at hP1
  exact hP1
theorem V.iald (hC : Cx μ w nL κ own cc d) {o n : Nat} {i : Int32} (hd : decode cc pc = .ok (.iaload, 1)) (hs : μ.1[o]? = some (.inr (0, n))) (hin : vp_in i n) (k : V μ w nL κ σ lo (pc + 1) (.int (σ o i.toNatClampNeg) :: r)) : V μ w nL κ σ lo pc (.int i :: .ref (w.1 o) :: r) := by
  obtain ⟨p, l, e, R, s, m, args, below, meth, c, Q, kc, ks⟩ := κ
  exact fun H locs ls hP hS hl => va_iald hC.1 hC.2.1 hC.2.2.2.2.2.1 hP o 0 (cels_get hs) rfl hin hd (k H locs ls hP hS hl)
theorem V.zald (hC : Cx μ w nL κ own cc d) {o n : Nat} {i : Int32} (hd : decode cc pc = .ok (.baload, 1)) (hs : μ.1[o]? = some (.inr (1, n))) (hin : vp_in i n) (k : V μ w nL κ σ lo (pc + 1) (.int (σ o i.toNatClampNeg) :: r)) : V μ w nL κ σ lo pc (.int i :: .ref (w.1 o) :: r) := by
  obtain ⟨p, l, e, R, s, m, args, below, meth, c, Q, kc, ks⟩ := κ
  exact fun H locs ls hP hS hl => va_zald hC.1 hC.2.1 hC.2.2.2.2.2.1 hP o 1 (cels_get hs) rfl hin hd (k H locs ls hP hS hl)
theorem V.qald (hC : Cx μ w nL κ own cc d) {o n b : Nat} {i : Int32} (hd : decode cc pc = .ok (.aaload, 1)) (hs : μ.1[o]? = some (.inr (b + 2, n))) (hin : vp_in i n) (k : V μ w nL κ σ lo (pc + 1) (.ref (w.1 (b + i.toNatClampNeg)) :: r)) : V μ w nL κ σ lo pc (.int i :: .ref (w.1 o) :: r) := by
  obtain ⟨p, l, e, R, s, m, args, below, meth, c, Q, kc, ks⟩ := κ
  exact fun H locs ls hP hS hl => va_aldq (C := "SoundPaid$Sheet") hC.1 hC.2.1 hC.2.2.2.2.2.1 hP o 2 (cels_get hs) rfl hin hd (k H locs ls hP hS hl)
theorem V.iast (hC : Cx μ w nL κ own cc d) {o n : Nat} {i v : Int32} (hd : decode cc pc = .ok (.iastore, 1)) (hs : μ.1[o]? = some (.inr (0, n))) (hin : vp_in i n) (k : V μ w nL κ (st σ o i.toNatClampNeg v) lo (pc + 1) r) : V μ w nL κ σ lo pc (.int v :: .int i :: .ref (w.1 o) :: r) := by
  obtain ⟨p, l, e, R, s, m, args, below, meth, c, Q, kc, ks⟩ := κ
  intro H locs ls hP hS hl
  refine va_iast hC.1 hC.2.1 hC.2.2.2.2.2.1 hP (cels_D σ hC.2.2.2.2.2.2.1) hS o 0 (cels_get hs) rfl hin hd (fun H1 locs1 hP1 _ hS1 => k H1 locs1 ls ?_ hS1 hl)
  have h2 : cel w (st σ o i.toNatClampNeg v o) (.inr (0, n)) = .inl (w.2.1, n, .inl (upd (σ o) i.toNatClampNeg v)) := by rw [st_at]; rfl
  rw [← h2, cels_set hs (fun q hq => st_ne σ _ v hq)] at hP1
  exact hP1
theorem V.zast (hC : Cx μ w nL κ own cc d) {o n : Nat} {i v : Int32} (hd : decode cc pc = .ok (.bastore, 1)) (hs : μ.1[o]? = some (.inr (1, n))) (hin : vp_in i n) (hv : v &&& 1 = v) (k : V μ w nL κ (st σ o i.toNatClampNeg v) lo (pc + 1) r) : V μ w nL κ σ lo pc (.int v :: .int i :: .ref (w.1 o) :: r) := by
  obtain ⟨p, l, e, R, s, m, args, below, meth, c, Q, kc, ks⟩ := κ
  intro H locs ls hP hS hl
  refine va_zast hC.1 hC.2.1 hC.2.2.2.2.2.1 hP (cels_D σ hC.2.2.2.2.2.2.1) hS o 1 (cels_get hs) rfl hin hd (fun H1 locs1 hP1 _ hS1 => k H1 locs1 ls ?_ hS1 hl)
  have hb : vp_nar .boolean v = v := hv
  rw [hb] at hP1
  have h2 : cel w (st σ o i.toNatClampNeg v o) (.inr (1, n)) = .inl (w.2.2.1, n, .inl (upd (σ o) i.toNatClampNeg v)) := by rw [st_at]; rfl
  rw [← h2, cels_set hs (fun q hq => st_ne σ _ v hq)] at hP1
  exact hP1
theorem V.alen0 (hC : Cx μ w nL κ own cc d) {o n : Nat} {v : Int32} (hd : decode cc pc = .ok (.arraylength, 1)) (hs : μ.1[o]? = some (.inr (0, n))) (hv : Int32.ofNat n = v) (k : V μ w nL κ σ lo (pc + 1) (.int v :: r)) : V μ w nL κ σ lo pc (.ref (w.1 o) :: r) := by
  obtain ⟨p, l, e, R, s, m, args, below, meth, c, Q, kc, ks⟩ := κ
  exact fun H locs ls hP hS hl => va_alen hC.1 hC.2.1 hC.2.2.2.2.2.1 hP o 0 (cels_get hs) rfl hv hd (k H locs ls hP hS hl)
theorem V.alenq (hC : Cx μ w nL κ own cc d) {o n b : Nat} {v : Int32} (hd : decode cc pc = .ok (.arraylength, 1)) (hs : μ.1[o]? = some (.inr (b + 2, n))) (hv : Int32.ofNat n = v) (k : V μ w nL κ σ lo (pc + 1) (.int v :: r)) : V μ w nL κ σ lo pc (.ref (w.1 o) :: r) := by
  obtain ⟨p, l, e, R, s, m, args, below, meth, c, Q, kc, ks⟩ := κ
  exact fun H locs ls hP hS hl => va_alen hC.1 hC.2.1 hC.2.2.2.2.2.1 hP o 2 (cels_get hs) rfl hv hd (k H locs ls hP hS hl)
/-! contracts -/
def rmD (d : Nat) : Room := { frames := d, cells := 0, slots := 0, locals := 64 * d }
def wsM (y : MethodName) (cc : ByteArray) (nL : Nat) (ret : Option FieldType) : List Cond := Cond.code y cc nL ret :: tbl
def PcW (μ : Wk) (w : Wd) (As : List Value) (σ : Hp) : Array Value → State → Prop := va_Pc As (fun U => va_P w.2.2.2.2 classes (cels μ.1 w σ) U.heap ∧ va_K w.2.2.2.2 classes (tysW w) U ∧ Inj μ w ∧ ExtOk μ ∧ μ.2 w (AW μ w) U U.heap)
def QcW (μ : Wk) (w : Wd) (P : Option Value → Hp → Prop) : Array Value → State → Outcome → State → Prop := fun _ s oc t => (∃ (v : Option Value) (τ : Hp), oc = .returned v ∧ P v τ ∧ va_P w.2.2.2.2 classes (cels μ.1 w τ) t.heap) ∧ va_F (AW μ w) s t
/-- method y, with these arguments over this picture, returns with P of its answer and of the picture behind it -/
def Ct (μ : Wk) (w : Wd) (y : MethodName) (cc : ByteArray) (nL : Nat) (ret : Option FieldType) (d : Nat) (As : List Value) (σ : Hp) (P : Option Value → Hp → Prop) : Prop := ∀ l : Launch, Met l y (wsM y cc nL ret) (rmD d) (PcW μ w As σ) (QcW μ w P) 0 0 (AW μ w)
theorem PcW_blind (As : List Value) (σ : Hp) : FrameBlind (PcW μ w As σ) := by
  intro a U g mk q
  obtain ⟨q0, qP, qK, qI, qE, qX⟩ := q
  exact ⟨q0, qP, va_K.moved (u := U) (U := U.calling g mk a) (Vm.Alike.refl U.vm) qK, qI, qE, qE w _ U (U.calling g mk a) (State.WarmedH.refl U) (fun _ _ _ => rfl) qX⟩
theorem PcW_at {p : Program} {l : Launch} {e : Env} {R : Room} {s : State} {m : MethodId} {args : Array Value} {below : List Frame} {meth : Method} {c : Code} {Q : State → Prop} {kc ks : Nat} (hC : Cx μ w nL (p, l, e, R, s, m, args, below, meth, c, Q, kc, ks) own cc d) (hE : ExtOk μ) {As : List Value} {H : Heap} {locs : List Loc} (hP : va_P w.2.2.2.2 classes (cels μ.1 w σ) H) (hS : va_S (AW μ w) s.heap H locs) : ∀ U : State, U.heap = H → s.WarmedH U.vm → PcW μ w As σ As.toArray U := by
  intro U hU hW
  refine ⟨rfl, by rw [hU]; exact hP, va_K.moved hW.alike hC.2.2.2.2.2.1, hC.2.2.2.2.2.2.1, hE, hE w _ s U hW (fun q h1 h2 => by rw [hU]; exact hS.2.1 q h1 h2) hC.2.2.2.2.2.2.2.1⟩
theorem W_ofRun {p : Program} {l : Launch} {e : Env} {R : Room} {s : State} {m : MethodId} {args : Array Value} {below : List Frame} {meth : Method} {c : Code} {Q : State → Prop} {kc ks : Nat} {H : Heap} {locs : List Loc} {ls : Array Slot} {stk rest : List Value} {a : Array Value} {P : Option Value → Hp → Prop}
    (hr : va_Run p l e R s m args below meth c H locs kc ks 0 0 (F0 m pc ls stk) rest (QcW μ w P a) (AW μ w)) (hS : va_S (AW μ w) s.heap H locs)
    (kk : ∀ (v : Option Value) (τ : Hp) (H1 : Heap) (locs1 : List Loc), P v τ → va_P w.2.2.2.2 classes (cels μ.1 w τ) H1 → va_S (AW μ w) s.heap H1 locs1 → W p l e R s m args below meth c H1 locs1 kc ks Q (F0 m (pc + 3) ls (v.toList ++ rest))) : W p l e R s m args below meth c H locs kc ks Q (F0 m pc ls stk) := by
  intro T hT X
  obtain ⟨v, st₀, t, T', L, h0, X', hL, e1, e2, ⟨⟨v', τ, hv, hp, hb⟩, hz, hk⟩, stp⟩ := hr T hT X
  cases hv
  rw [h0] at hz hk
  obtain ⟨t2, a1, b1⟩ := kk v τ T'.heap (locs ++ L) hp (by rw [e1]; exact hb)
    ⟨Nat.le_trans hS.1 (by rw [e1]; exact hz), fun q h1 h2 => by rw [e1, hk q (Nat.lt_of_lt_of_le h1 hS.1) h2]; exact hS.2.1 q h1 h2, fun q hq => by
      rcases List.mem_append.mp hq with h | h
      · exact hS.2.2 q h
      · exact hL q h⟩ T' rfl X'
  exact ⟨t2, stp t2 a1, b1⟩
/-- what the tables say of a method that may be called: n its arguments without the object -/
def MokV (y : MethodName) (cc : ByteArray) (nL : Nat) (ret : Option FieldType) (n : Nat) : Prop := (Cond.code y cc nL ret ∈ tbl ∧ Cond.initialized y.cls ∈ tbl) ∧ (Cond.instanceMethod y ∈ tbl ∧ Cond.selects y.cls y y ∈ lw_tbl ∧ Cond.selects y.cls y y ∈ tbl) ∧ (y.cls ≠ "java/lang/invoke/MethodHandle" ∧ y.cls ≠ "java/lang/invoke/VarHandle") ∧ (parseMethodDescriptor y.desc).map (fun d => d.parameters.length) = some n
def MokS (y : MethodName) (cc : ByteArray) (nL : Nat) (ret : Option FieldType) (n : Nat) : Prop := (Cond.code y cc nL ret ∈ tbl ∧ Cond.initialized y.cls ∈ tbl) ∧ Cond.static y ∈ tbl ∧ (y.cls ≠ "java/lang/invoke/MethodHandle" ∧ y.cls ≠ "java/lang/invoke/VarHandle") ∧ (parseMethodDescriptor y.desc).map (fun d => d.parameters.length) = some n
theorem arity_of {y : MethodName} {n : Nat} (h : (parseMethodDescriptor y.desc).map (fun d => d.parameters.length) = some n) : ∀ sig, parseMethodDescriptor y.desc = some sig → n = sig.parameters.length := by
  intro sig hs
  rw [hs] at h
  exact (Option.some.inj h).symm
theorem ws_pay {s : State} {args : Array Value} {y : MethodName} {c2 : ByteArray} {n2 : Nat} {ret : Option FieldType} (ht : ∀ x ∈ tbl, x.before args s = true) (hc : Cond.code y c2 n2 ret ∈ tbl) : ∀ x ∈ wsM y c2 n2 ret, ∀ (a' : Array Value) (U : State), s.WarmedH U.vm → x.before a' U = true := by
  intro x hx a' U hW
  have hx' : x ∈ tbl := by
    rcases List.mem_cons.mp hx with rfl | h
    · exact hc
    · exact h
  exact word_at hW (tbl_good x hx') (ht x hx')
theorem V.callV (hC : Cx μ w nL κ own cc d) (hE : ExtOk μ) {i o ci N n n2 d2 : Nat} {y : MethodName} {c2 : ByteArray} {ret : Option FieldType} {C : String} {T : u_T} {fs : List (Nat ⊕ Nat)} {As : List Value} {P : Option Value → Hp → Prop} {stk : List Value}
    (hM : Ct μ w y c2 n2 ret d2 (.ref (w.1 o) :: As) σ P) (hd : decode cc pc = .ok (.invokevirtual i, 3)) (hy : MokV y c2 n2 ret n) (hw : Cond.methodLink own i y ∈ tbl) (hs : μ.1[o]? = some (.inl (ci, fs))) (hc : classes[ci]? = some (C, T, N)) (hcls : y.cls = C) (hn : As.length = n) (hst : stk = As.reverse ++ .ref (w.1 o) :: r) (hroom : Nat.ble (d2 + 1) d = true) (hloc : Nat.ble n2 45 = true) (hW : (r.map fun v => v.category).sum ≤ 8)
    (k : ∀ v τ, P v τ → V μ w nL κ τ lo (pc + 3) (v.toList ++ r)) : V μ w nL κ σ lo pc stk := by
  obtain ⟨p, l, e, R, s, m, args, below, meth, c, Q, kc, ks⟩ := κ
  intro H locs ls hP hS hl
  have hR := Nat.le_of_ble_eq_true hroom
  have hL := Nat.le_of_ble_eq_true hloc
  obtain ⟨hx, hb, hml, hown, hts, hK, hI, hX, hf, hlo, hkc, hks⟩ := id hC
  refine W_ofRun (va_runV (Ts := tbl) (As := As) (rest := r) ⟨hx, hb, hml, hown, hts⟩ (hM l) (C := C) ⟨⟨rfl, rfl, ?_, ?_, ws_pay hts hy.1.1, List.mem_cons_self, hts _ hy.1.1, hts _ hy.1.2, hy.2.2.1, arity_of hy.2.2.2, hts _ hw⟩, hts _ hy.2.1.1, by rw [← hcls]; exact hts _ hy.2.1.2.2⟩ ⟨PcW_blind _ _, va_recv hK hP hc (cels_get hs), PcW_at hC hE hP hS⟩ rfl hn hl.1 hst (lv_room hW) hd ⟨hkc, hks⟩) hS (fun v τ H1 locs1 hp hP1 hS1 => k v τ hp H1 locs1 ls hP1 hS1 hl)
  · exact Nat.le_trans hR hf
  · refine Nat.le_trans ?_ hlo
    show 8 + (n2 + 11) + 64 * d2 ≤ 64 * d
    omega
theorem V.callS (hC : Cx μ w nL κ own cc d) (hE : ExtOk μ) {i n n2 d2 : Nat} {y : MethodName} {c2 : ByteArray} {ret : Option FieldType} {As : List Value} {P : Option Value → Hp → Prop} {stk : List Value}
    (hM : Ct μ w y c2 n2 ret d2 As σ P) (hd : decode cc pc = .ok (.invokestatic i, 3)) (hy : MokS y c2 n2 ret n) (hw : Cond.methodLink own i y ∈ tbl) (hn : As.length = n) (hst : stk = As.reverse ++ r) (hroom : Nat.ble (d2 + 1) d = true) (hloc : Nat.ble n2 45 = true) (hW : (r.map fun v => v.category).sum ≤ 8)
    (k : ∀ v τ, P v τ → V μ w nL κ τ lo (pc + 3) (v.toList ++ r)) : V μ w nL κ σ lo pc stk := by
  obtain ⟨p, l, e, R, s, m, args, below, meth, c, Q, kc, ks⟩ := κ
  intro H locs ls hP hS hl
  have hR := Nat.le_of_ble_eq_true hroom
  have hL := Nat.le_of_ble_eq_true hloc
  obtain ⟨hx, hb, hml, hown, hts, hK, hI, hX, hf, hlo, hkc, hks⟩ := id hC
  refine W_ofRun (va_runS (Ts := tbl) (As := As) (rest := r) ⟨hx, hb, hml, hown, hts⟩ (hM l) ⟨⟨rfl, rfl, ?_, ?_, ws_pay hts hy.1.1, List.mem_cons_self, hts _ hy.1.1, hts _ hy.1.2, hy.2.2.1, arity_of hy.2.2.2, hts _ hw⟩, hts _ hy.2.1⟩ ⟨PcW_blind _ _, PcW_at hC hE hP hS⟩ rfl hn hl.1 hst (lv_room hW) hd ⟨hkc, hks⟩) hS (fun v τ H1 locs1 hp hP1 hS1 => k v τ hp H1 locs1 ls hP1 hS1 hl)
  · exact Nat.le_trans hR hf
  · refine Nat.le_trans ?_ hlo
    show 8 + (n2 + 11) + 64 * d2 ≤ 64 * d
    omega
/-- a static method of a nest mate: its link stands outside the tables' words -/
theorem V.callH (hC : Cx μ w nL κ own cc d) (hE : ExtOk μ) {i n n2 d2 : Nat} {y : MethodName} {host : String} {c2 : ByteArray} {ret : Option FieldType} {As : List Value} {P : Option Value → Hp → Prop} {stk : List Value}
    (hM : Ct μ w y c2 n2 ret d2 As σ P) (hd : decode cc pc = .ok (.invokestatic i, 3)) (hy : MokS y c2 n2 ret n) (hw : ∀ A U H, μ.2 w A U H → va_Nw (.methodLinkNest own i y host) U) (hn : As.length = n) (hst : stk = As.reverse ++ r) (hroom : Nat.ble (d2 + 1) d = true) (hloc : Nat.ble n2 45 = true) (hW : (r.map fun v => v.category).sum ≤ 8)
    (k : ∀ v τ, P v τ → V μ w nL κ τ lo (pc + 3) (v.toList ++ r)) : V μ w nL κ σ lo pc stk := by
  obtain ⟨p, l, e, R, s, m, args, below, meth, c, Q, kc, ks⟩ := κ
  intro H locs ls hP hS hl
  have hR := Nat.le_of_ble_eq_true hroom
  have hL := Nat.le_of_ble_eq_true hloc
  obtain ⟨hx, hb, hml, hown, hts, hK, hI, hX, hf, hlo, hkc, hks⟩ := id hC
  refine W_ofRun (va_runSN (Ts := tbl) (As := As) (rest := r) (host := host) ⟨hx, hb, hml, hown, hts⟩ (hM l) ⟨⟨⟨rfl, rfl, ?_, ?_, ws_pay hts hy.1.1, List.mem_cons_self⟩, hts _ hy.1.1, hts _ hy.1.2, hy.2.2.1, arity_of hy.2.2.2, va_Nw.use rfl (hw _ _ _ hX)⟩, hts _ hy.2.1, trivial⟩ ⟨PcW_blind _ _, PcW_at hC hE hP hS⟩ rfl hn hl.1 hst (lv_room hW) hd ⟨hkc, hks⟩) hS (fun v τ H1 locs1 hp hP1 hS1 => k v τ hp H1 locs1 ls hP1 hS1 hl)
  · exact Nat.le_trans hR hf
  · refine Nat.le_trans ?_ hlo
    show 8 + (n2 + 11) + 64 * d2 ≤ 64 * d
    omega
/-! what stands outside the world, and is never written -/
theorem V.gets (hC : Cx μ w nL κ own cc d) {i : Nat} {C n dd : String} {v : Value} (hd : decode cc pc = .ok (.getstatic i, 3)) (hZ : ∀ A U H, μ.2 w A U H → va_Z C n dd v A U H) (hw : Cond.fieldLink own i C n dd ∈ tbl) (k : V μ w nL κ σ lo (pc + 3) (v :: r)) : V μ w nL κ σ lo pc r := by
  obtain ⟨p, l, e, R, s, m, args, below, meth, c, Q, kc, ks⟩ := κ
  exact fun H locs ls hP hS hl => va_gets hC.1 hC.2.1 (hZ _ _ _ hC.2.2.2.2.2.2.2.1) hS hC.2.2.2.1 (hC.2.2.2.2.1 _ hw) (fun _ h9 => h9) hd (k H locs ls hP hS hl)
theorem V.getX (hC : Cx μ w nL κ own cc d) {i q : Nat} {C n dd : String} {v : Value} (hd : decode cc pc = .ok (.getfield i, 3)) (hZ : ∀ A U H, μ.2 w A U H → va_OF C n dd v q A U H) (hw : Cond.fieldLink own i C n dd ∈ tbl) (k : V μ w nL κ σ lo (pc + 3) (v :: r)) : V μ w nL κ σ lo pc (.ref q :: r) := by
  obtain ⟨p, l, e, R, s, m, args, below, meth, c, Q, kc, ks⟩ := κ
  exact fun H locs ls hP hS hl => vk_getf hC.1 hC.2.1 (hZ _ _ _ hC.2.2.2.2.2.2.2.1) hS hC.2.2.2.1 (hC.2.2.2.2.1 _ hw) (fun _ h9 => h9) hd (k H locs ls hP hS hl)
theorem V.tabi (hC : Cx μ w nL κ own cc d) {q n : Nat} {f : Nat → Value} {i x : Int32} (hd : decode cc pc = .ok (.iaload, 1)) (hT : ∀ A U H, μ.2 w A U H → va_T .int q n f A U H) (hin : vp_in i n) (hx : f i.toNatClampNeg = .int x) (k : V μ w nL κ σ lo (pc + 1) (.int x :: r)) : V μ w nL κ σ lo pc (.int i :: .ref q :: r) := by
  obtain ⟨p, l, e, R, s, m, args, below, meth, c, Q, kc, ks⟩ := κ
  exact fun H locs ls hP hS hl => va_ti hC.1 hC.2.1 (hT _ _ _ hC.2.2.2.2.2.2.2.1) hS hin hx hd (k H locs ls hP hS hl)
theorem V.tabb (hC : Cx μ w nL κ own cc d) {q n : Nat} {f : Nat → Value} {i x : Int32} (hd : decode cc pc = .ok (.baload, 1)) (hT : ∀ A U H, μ.2 w A U H → va_T .byte q n f A U H) (hin : vp_in i n) (hx : f i.toNatClampNeg = .int x) (k : V μ w nL κ σ lo (pc + 1) (.int x :: r)) : V μ w nL κ σ lo pc (.int i :: .ref q :: r) := by
  obtain ⟨p, l, e, R, s, m, args, below, meth, c, Q, kc, ks⟩ := κ
  exact fun H locs ls hP hS hl => va_tb hC.1 hC.2.1 (hT _ _ _ hC.2.2.2.2.2.2.2.1) hS hin hx hd (k H locs ls hP hS hl)
theorem V.tlen (hC : Cx μ w nL κ own cc d) {q n : Nat} {ty : FieldType} {f : Nat → Value} {v : Int32} (hd : decode cc pc = .ok (.arraylength, 1)) (hT : ∀ A U H, μ.2 w A U H → va_T ty q n f A U H) (hv : Int32.ofNat n = v) (k : V μ w nL κ σ lo (pc + 1) (.int v :: r)) : V μ w nL κ σ lo pc (.ref q :: r) := by
  obtain ⟨p, l, e, R, s, m, args, below, meth, c, Q, kc, ks⟩ := κ
  exact fun H locs ls hP hS hl => va_tlen hC.1 hC.2.1 (hT _ _ _ hC.2.2.2.2.2.2.2.1) hS hv hd (k H locs ls hP hS hl)
/-- a call on an object that stands outside the world -/
theorem V.callX (hC : Cx μ w nL κ own cc d) (hE : ExtOk μ) {i q n n2 d2 : Nat} {y : MethodName} {c2 : ByteArray} {ret : Option FieldType} {As : List Value} {P : Option Value → Hp → Prop} {stk : List Value}
    (hM : Ct μ w y c2 n2 ret d2 (.ref q :: As) σ P) (hd : decode cc pc = .ok (.invokevirtual i, 3)) (hy : MokV y c2 n2 ret n) (hw : Cond.methodLink own i y ∈ tbl) (hO : ∀ A U H, μ.2 w A U H → va_O y.cls q A U H) (hn : As.length = n) (hst : stk = As.reverse ++ .ref q :: r) (hroom : Nat.ble (d2 + 1) d = true) (hloc : Nat.ble n2 45 = true) (hW : (r.map fun v => v.category).sum ≤ 8)
    (k : ∀ v τ, P v τ → V μ w nL κ τ lo (pc + 3) (v.toList ++ r)) : V μ w nL κ σ lo pc stk := by
  obtain ⟨p, l, e, R, s, m, args, below, meth, c, Q, kc, ks⟩ := κ
  intro H locs ls hP hS hl
  have hR := Nat.le_of_ble_eq_true hroom
  have hL := Nat.le_of_ble_eq_true hloc
  obtain ⟨hx, hb, hml, hown, hts, hK, hI, hX, hf, hlo, hkc, hks⟩ := id hC
  have hrec : ∃ cell : Cell, H[q]? = some cell ∧ cell.vm.isStatics = false ∧ s.vm.findClass y.cls = some cell.cls := by
    obtain ⟨cell, h1, h2, h3, -⟩ := (hO _ _ _ hX).kept hS.2.1
    exact ⟨cell, h1, h2, h3⟩
  refine W_ofRun (va_runV (Ts := tbl) (As := As) (rest := r) ⟨hx, hb, hml, hown, hts⟩ (hM l) (C := y.cls) ⟨⟨rfl, rfl, ?_, ?_, ws_pay hts hy.1.1, List.mem_cons_self, hts _ hy.1.1, hts _ hy.1.2, hy.2.2.1, arity_of hy.2.2.2, hts _ hw⟩, hts _ hy.2.1.1, hts _ hy.2.1.2.2⟩ ⟨PcW_blind _ _, hrec, PcW_at hC hE hP hS⟩ rfl hn hl.1 hst (lv_room hW) hd ⟨hkc, hks⟩) hS (fun v τ H1 locs1 hp hP1 hS1 => k v τ hp H1 locs1 ls hP1 hS1 hl)
  · exact Nat.le_trans hR hf
  · refine Nat.le_trans ?_ hlo
    show 8 + (n2 + 11) + 64 * d2 ≤ 64 * d
    omega
/-- System.arraycopy of int rows -/
theorem V.copyi (hC : Cx μ w nL κ own cc d) {i o0 o1 n0 n1 : Nat} {sp dp n : Int32} (hd : decode cc pc = .ok (.invokestatic i, 3)) (hw : Cond.methodLink own i arraycopyName ∈ tbl) (hnat : Cond.native arraycopyName ∈ tbl) (hst : Cond.static arraycopyName ∈ tbl) (hini : Cond.initialized "java/lang/System" ∈ tbl)
    (h0 : μ.1[o0]? = some (.inr (0, n0))) (h1 : μ.1[o1]? = some (.inr (0, n1))) (a1 : ¬ sp < 0) (a2 : ¬ dp < 0) (a3 : ¬ n < 0) (a4 : sp.toNatClampNeg + n.toNatClampNeg ≤ n0) (a5 : dp.toNatClampNeg + n.toNatClampNeg ≤ n1) (hroom : Nat.ble 1 d = true) (hW : Nat.ble ((r.map fun v => v.category).sum + (nativeFrameWords "java/lang/System" "arraycopy" 5 + 11)) 64 = true)
    (k : V μ w nL κ (fun q => if q = o1 then va_cpy (σ o0) (σ o1) sp.toNatClampNeg dp.toNatClampNeg n.toNatClampNeg else σ q) lo (pc + 3) r) : V μ w nL κ σ lo pc (.int n :: .int dp :: .ref (w.1 o1) :: .int sp :: .ref (w.1 o0) :: r) := by
  obtain ⟨p, l, e, R, s, m, args, below, meth, c, Q, kc, ks⟩ := κ
  intro H locs ls hP hS hl
  have hR := Nat.le_of_ble_eq_true hroom
  have hL := Nat.le_of_ble_eq_true hW
  obtain ⟨hx, hb, hml, hown, hts, hK, hI, hX, hf, hlo, hkc, hks⟩ := id hC
  refine va_copyi hx hb (by rw [hml]; exact hl.1.symm) hown (hts _ hw) (hts _ hnat) (hts _ hst) (hts _ hini) hK hP (cels_D σ hI) hS o0 o1 0 0 (cels_get h0) (cels_get h1) rfl rfl rfl a1 a2 a3 a4 a5 (fun _ _ => rfl) (Nat.le_trans hR hf) (Nat.le_trans hL (Nat.le_trans (by omega) hlo)) hd (fun H1 locs1 hP1 _ hS1 => k H1 locs1 ls ?_ hS1 hl)
  refine Eq.mp (congrArg (fun x => va_P w.2.2.2.2 classes x H1) ?_) hP1
  have h2 := cels_set (σ := σ) (w := w) (τ := fun q => if q = o1 then va_cpy (σ o0) (σ o1) sp.toNatClampNeg dp.toNatClampNeg n.toNatClampNeg else σ q) h1 (fun q hq => if_neg hq)
  rw [← h2]
  simp only [if_pos]
  rfl
theorem Ct.ofV {y : MethodName} {nL : Nat} {ret : Option FieldType} {As : List Value} {P : Option Value → Hp → Prop} {C : String} (hE : ExtOk μ) (hy : plainName y.cls = true) (hcl : y.cls = C) (hlo : asl 0 lo = lv_args 0 As) (hlen : Nat.ble (lg_sl As).length nL = true)
    (body : ∀ κ : Kx, Cx μ w nL κ C cc d → (∀ (τ : Hp) (lo : List (Option Value)) (pc : Nat) (v : Option Value), P v τ → ((v = none ∧ ret = none ∧ decode cc pc = .ok (.return_, 1)) ∨ (∃ x ty, v = some (.int x) ∧ ret = some ty ∧ narrow ty (.int x) = .int x ∧ decode cc pc = .ok (.ireturn, 1)) ∨ (∃ x, v = some (.long x) ∧ ret = some .long ∧ decode cc pc = .ok (.lreturn, 1)) ∨ (∃ q nm, v = some (.ref q) ∧ ret = some (.object nm) ∧ decode cc pc = .ok (.areturn, 1))) → V μ w nL κ τ lo pc v.toList) → V μ w nL κ σ lo 0 []) : Ct μ w y cc nL ret d As σ P := by
  intro l
  refine Met.ofW (cc := cc) (maxL := nL) (ret := ret) hy rfl ?_
  intro p e s m args below meth c s₁ B hml hv
  obtain ⟨rfl, hP, hK, hI, -, hX⟩ := hv
  have hts := atoms_spec (ws := wsM y cc nL ret) B.pre
  have hown : s.vm.findClass C = some m.cls := by rw [← hcl]; exact findClass_of_methodNamed B.named
  have hl := lv_entry As (n := nL) (Nat.le_of_ble_eq_true hlen)
  rw [lg_entry_eq]
  generalize (lg_sl As ++ List.replicate (nL - (lg_sl As).length) Slot.unset).toArray = ls at hl ⊢
  have hl' : lhas ls nL lo := by unfold lhas; rw [hlo]; exact hl
  refine body (p, l, e, rmD d, s, m, As.toArray, below, meth, c, MQ below (QcW μ w P) As.toArray s 0 0 (AW μ w), 0, 0) ⟨B.exec, B.bytes, hml, hown, fun x hx => hts x (List.mem_cons_of_mem _ hx), hK, hI, hX, Nat.le_refl _, Nat.le_refl _, Nat.le_refl _, Nat.le_refl _⟩ ?_ s.heap [] ls hP va_S.rf hl'
  intro τ lo' pc v hp hret H locs ls' hP' hS' hl'
  have hlocks := B.notSynchronized
  have hr := B.returns
  have hq : ∀ t : State, t.heap = H → s.WarmedH t.vm → QcW μ w P As.toArray s (.returned v) t := fun t ht _ => ⟨⟨v, τ, rfl, hp, by rw [ht]; exact hP'⟩, hS'.F ht⟩
  rcases hret with ⟨rfl, h1, h2⟩ | ⟨x, ty, rfl, h1, h3, h2⟩ | ⟨x, rfl, h1, h2⟩ | ⟨q, nm, rfl, h1, h2⟩
  · exact W.vret B.exec B.bytes (hr.trans h1) hq hS'.2.2 h2 hlocks
  · exact W.zret (ty := ty) B.exec B.bytes (hr.trans h1) h3 hq hS'.2.2 h2 hlocks
  · exact W.lret B.exec B.bytes (hr.trans h1) hq hS'.2.2 h2 hlocks
  · exact W.aret B.exec B.bytes (hr.trans h1) (Or.inl ⟨nm, rfl⟩) (Or.inr ⟨q, rfl⟩) hq hS'.2.2 h2 hlocks
end RULES
