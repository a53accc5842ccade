/-! constructors: worlds that grow -/
def ExA (w : Wd) (U : State) : Prop :=
  (va_Nw (.methodLinkNest "SoundPaid" 27 ⟨"SoundPaid$Debts", "<init>", "()V"⟩ "SoundPaid") U ∧ va_Nw (.methodLinkNest "SoundPaid$Debts" 11 ⟨"SoundPaid$Street", "<init>", "()V"⟩ "SoundPaid") U ∧ va_Nw (.methodLinkNest "SoundPaid$Debts" 20 ⟨"SoundPaid$Docket", "<init>", "()V"⟩ "SoundPaid") U) ∧
  (va_Nw (.methodLinkNest "SoundPaid" 44 ⟨"SoundPaid$Memory", "<init>", "()V"⟩ "SoundPaid") U ∧ va_Nw (.methodLinkNest "SoundPaid" 51 ⟨"SoundPaid$Bench", "<init>", "()V"⟩ "SoundPaid") U ∧ va_Nw (.methodLinkNest "SoundPaid" 58 ⟨"SoundPaid$Sheet", "<init>", "()V"⟩ "SoundPaid") U) ∧
  vk_R "SoundPaid" 11 "cmho" (w.1 50) U ∧ vk_R "SoundPaid" 20 "cmh" (w.1 51) U ∧ va_AO "SoundPaid$Sheet" U
theorem ExA_warm {w : Wd} {s U : State} (hW : s.WarmedH U.vm) (h : ExA w s) : ExA w U := by
  obtain ⟨⟨h1, h2, h3⟩, ⟨h4, h5, h6⟩, h7, h8, h9⟩ := h
  exact ⟨⟨va_Nw.warmM hW h1, va_Nw.warmM hW h2, va_Nw.warmM hW h3⟩, ⟨va_Nw.warmM hW h4, va_Nw.warmM hW h5, va_Nw.warmM hW h6⟩, vk_R.warm hW h7, vk_R.warm hW h8, va_AO.moved hW.alike h9⟩
def VA (w : Wd) (nL : Nat) (A : Nat → Prop) (κ : Kx) (ws : va_W) (lo : List (Option Value)) (kc ks pc : Nat) (stk : List Value) : Prop :=
  match κ with
  | (p, l, e, R, s, m, args, below, meth, c, Q, _, _) => ∀ (H : Heap) (locs : List Loc) (ls : Array Slot), va_P w.2.2.2.2 classes ws H → va_D A ws → va_S A s.heap H locs → lhas ls nL lo → W p l e R s m args below meth c H locs kc ks Q (F0 m pc ls stk)
def CxA (w : Wd) (nL : Nat) (A : Nat → Prop) (κ : Kx) (own : String) (cc : ByteArray) (d kr sr : Nat) : Prop :=
  match κ with
  | (p, l, e, R, s, m, args, below, meth, c, Q, _, _) => (p.tables.exec = Jvm.exec ∧ c.code = cc ∧ c.maxLocals = nL ∧ s.vm.findClass own = some m.cls ∧ (∀ x ∈ tbl, x.before args s = true)) ∧ (va_K w.2.2.2.2 classes (tysW w) s ∧ (∀ q, s.heap.size ≤ q → A q) ∧ (own = "SoundPaidLaw" ∨ meth.name = "<init>") ∧ ExA w s) ∧ (d ≤ R.frames ∧ 64 * d ≤ R.locals ∧ kr ≤ R.cells ∧ sr ≤ R.slots)
def CtA (w : Wd) (y : MethodName) (cc : ByteArray) (nL d kc ks : Nat) (As : List Value) (h0 : Nat) (e0 : va_E) (F : (Nat → Nat) → va_W) : Prop :=
  ∀ (l : Launch) (sz : Nat), Met l y (wsM y cc nL none) { frames := d, cells := kc, slots := ks, locals := 64 * d } (va_Pc (.ref h0 :: As) (fun U => U.heap.size = sz ∧ va_P w.2.2.2.2 classes [(h0, e0)] U.heap ∧ va_K w.2.2.2.2 classes (tysW w) U ∧ ExA w U))
    (fun _ st oc t => (∃ qs : Nat → Nat, oc = .returned none ∧ va_P w.2.2.2.2 classes (F qs) t.heap ∧ va_D (va_A [(h0, e0)] sz) (F qs)) ∧ va_F (va_A [(h0, e0)] sz) st t) kc ks (va_A [(h0, e0)] sz)
section RULEA
variable {w : Wd} {nL : Nat} {A : Nat → Prop} {κ : Kx} {ws : va_W} {lo : List (Option Value)} {kc ks pc : Nat} {r : List Value} {own : String} {cc : ByteArray} {d kr sr : Nat}
theorem VA.eqw (ws' : va_W) {stk : List Value} (h : ws = ws') (k : VA w nL A κ ws' lo kc ks pc stk) : VA w nL A κ ws lo kc ks pc stk := by subst h; exact k
theorem VA.eqks {ks' : Nat} {stk : List Value} (h : ks = ks') (k : VA w nL A κ ws lo kc ks' pc stk) : VA w nL A κ ws lo kc ks pc stk := by subst h; exact k
theorem VA.iconst (hC : CxA w nL A κ own cc d kr sr) {n : Int} {v : Int32} (hd : decode cc pc = .ok (.iconst n, 1)) (hv : Int32.ofInt n = v) (k : VA w nL A κ ws lo kc ks (pc + 1) (.int v :: r)) : VA w nL A κ ws lo kc ks pc r := by
  obtain ⟨p, l, e, R, s, m, args, below, meth, c, Q, kc, ks⟩ := κ
  exact fun H locs ls hP hD hS hl => lv_iconst hC.1.1 hC.1.2.1 hd hv (k H locs ls hP hD hS hl)
theorem VA.bipush (hC : CxA w nL A κ own cc d kr sr) {n : Int} {v : Int32} (hd : decode cc pc = .ok (.bipush n, 2)) (hv : (Int8.ofInt n).toInt32 = v) (k : VA w nL A κ ws lo kc ks (pc + 2) (.int v :: r)) : VA w nL A κ ws lo kc ks pc r := by
  obtain ⟨p, l, e, R, s, m, args, below, meth, c, Q, kc, ks⟩ := κ
  exact fun H locs ls hP hD hS hl => lv_bipush hC.1.1 hC.1.2.1 hd hv (k H locs ls hP hD hS hl)
theorem VA.sipush (hC : CxA w nL A κ own cc d kr sr) {n : Int} {v : Int32} (hd : decode cc pc = .ok (.sipush n, 3)) (hv : (Int16.ofInt n).toInt32 = v) (k : VA w nL A κ ws lo kc ks (pc + 3) (.int v :: r)) : VA w nL A κ ws lo kc ks pc r := by
  obtain ⟨p, l, e, R, s, m, args, below, meth, c, Q, kc, ks⟩ := κ
  exact fun H locs ls hP hD hS hl => lv_sipush hC.1.1 hC.1.2.1 hd hv (k H locs ls hP hD hS hl)
theorem VA.iload_n (hC : CxA w nL A κ own cc d kr sr) {j : Fin 4} {i : Nat} {x : Int32} (hd : decode cc pc = .ok (.iload_n j, 1)) (hi : (j : Nat) = i) (h : lo[i]? = some (some (.int x))) (k : VA w nL A κ ws lo kc ks (pc + 1) (.int x :: r)) : VA w nL A κ ws lo kc ks pc r := by
  obtain ⟨p, l, e, R, s, m, args, below, meth, c, Q, kc, ks⟩ := κ
  exact fun H locs ls hP hD hS hl => lv_iload_n hC.1.1 hC.1.2.1 hd hi (lhas_at hl h) (k H locs ls hP hD hS hl)
theorem VA.aload_n (hC : CxA w nL A κ own cc d kr sr) {j : Fin 4} {i x : Nat} (hd : decode cc pc = .ok (.aload_n j, 1)) (hi : (j : Nat) = i) (h : lo[i]? = some (some (.ref x))) (k : VA w nL A κ ws lo kc ks (pc + 1) (.ref x :: r)) : VA w nL A κ ws lo kc ks pc r := by
  obtain ⟨p, l, e, R, s, m, args, below, meth, c, Q, kc, ks⟩ := κ
  exact fun H locs ls hP hD hS hl => lv_aload_n hC.1.1 hC.1.2.1 hd hi (lhas_at hl h) (k H locs ls hP hD hS hl)
theorem VA.astore_n (hC : CxA w nL A κ own cc d kr sr) {j : Fin 4} {i x : Nat} {lo' : List (Option Value)} (hd : decode cc pc = .ok (.astore_n j, 1)) (hi : (j : Nat) = i) (hn : Nat.ble (i + 1) nL = true) (h : sto1 lo i (.ref x) = lo') (k : VA w nL A κ ws lo' kc ks (pc + 1) r) : VA w nL A κ ws lo kc ks pc (.ref x :: r) := by
  obtain ⟨p, l, e, R, s, m, args, below, meth, c, Q, kc, ks⟩ := κ
  subst h
  exact fun H locs ls hP hD hS hl => lv_astore_n hC.1.1 hC.1.2.1 hd hi hl (Nat.le_of_ble_eq_true hn) rfl (fun ls' hl' => k H locs ls' hP hD hS (lhas_sto1 hl'))
theorem VA.istore_n (hC : CxA w nL A κ own cc d kr sr) {j : Fin 4} {i : Nat} {x : Int32} {lo' : List (Option Value)} (hd : decode cc pc = .ok (.istore_n j, 1)) (hi : (j : Nat) = i) (hn : Nat.ble (i + 1) nL = true) (h : sto1 lo i (.int x) = lo') (k : VA w nL A κ ws lo' kc ks (pc + 1) r) : VA w nL A κ ws lo kc ks pc (.int x :: r) := by
  obtain ⟨p, l, e, R, s, m, args, below, meth, c, Q, kc, ks⟩ := κ
  subst h
  exact fun H locs ls hP hD hS hl => lv_istore_n hC.1.1 hC.1.2.1 hd hi hl (Nat.le_of_ble_eq_true hn) rfl (fun ls' hl' => k H locs ls' hP hD hS (lhas_sto1 hl'))
theorem VA.dup (hC : CxA w nL A κ own cc d kr sr) {v : Value} (hd : decode cc pc = .ok (.dup, 1)) (h1 : v.category = 1) (k : VA w nL A κ ws lo kc ks (pc + 1) (v :: v :: r)) : VA w nL A κ ws lo kc ks pc (v :: r) := by
  obtain ⟨p, l, e, R, s, m, args, below, meth, c, Q, kc, ks⟩ := κ
  exact fun H locs ls hP hD hS hl => lv_dup hC.1.1 hC.1.2.1 hd h1 (k H locs ls hP hD hS hl)
theorem VA.ldc (hC : CxA w nL A κ own cc d kr sr) {i q : Nat} {tx : String} (hd : decode cc pc = .ok (.ldc i, 2)) (hZ : ∀ U, ExA w U → vk_R own i tx q U) (k : VA w nL A κ ws lo kc ks (pc + 2) (.ref q :: r)) : VA w nL A κ ws lo kc ks pc r := by
  obtain ⟨p, l, e, R, s, m, args, below, meth, c, Q, kc, ks⟩ := κ
  exact fun H locs ls hP hD hS hl => va_ldcS hC.1.1 hC.1.2.1 hC.1.2.2.2.1 (hZ s hC.2.1.2.2.2) hd (k H locs ls hP hD hS hl)
theorem VA.obj (hC : CxA w nL A κ own cc d kr sr) {i a : Nat} (hd : decode cc pc = .ok (.invokespecial i, 3)) (hw : Cond.methodLink own i objectInit ∈ tbl) (hi : Cond.instanceMethod objectInit ∈ tbl) (hc : Cond.code objectInit ⟨#[0xb1]⟩ 1 none ∈ tbl) (hroom : Nat.ble 1 d = true) (hW : Nat.ble ((r.map fun v => v.category).sum + 12) 64 = true) (k : VA w nL A κ ws lo kc ks (pc + 3) r) : VA w nL A κ ws lo kc ks pc (.ref a :: r) := by
  obtain ⟨p, l, e, R, s, m, args, below, meth, c, Q, kc0, ks0⟩ := κ
  have hR := Nat.le_of_ble_eq_true hroom
  have hL := Nat.le_of_ble_eq_true hW
  intro H locs ls hP hD hS hl
  obtain ⟨⟨hx, hb, hml, hown, hts⟩, -, ⟨hf, hlo, -⟩⟩ := id hC
  refine W.objInit hx hb hown (hts _ hw) (hts _ hi) (hts _ hc) rfl (by rw [hml]; exact hl.1) rfl hd (Nat.le_trans hR hf) (Nat.le_trans (by show 2 * 0 + _ + 12 ≤ 64 * d; omega) hlo) (k H locs ls hP hD hS hl)
theorem VA.new (hC : CxA w nL A κ own cc d kr sr) {i ci N : Nat} {C : String} {T : u_T} {ty : Nat → FieldType} {fs : List Value} (hd : decode cc pc = .ok (.new i, 3)) (hc : classes[ci]? = some (C, T, N)) (hu : ∀ x ∈ u_ws C T N, x ∈ tbl) (hty : ∀ k, k < N → parseFieldDescriptor (T k).2.2.1 = some (ty k)) (hcl : Cond.classLink own i C ∈ tbl) (hin : Cond.instantiable C N ∈ tbl) (hini : Cond.initialized C ∈ tbl) (hfs : ∀ j, j < N → defaultValue (ty j) = vp_V fs j) (h1 : Nat.ble (kc + 1) kr = true) (h2 : Nat.ble (ks + N) sr = true)
    (k : ∀ q : Nat, VA w nL A κ (ws ++ [(q, .inr (ci, fs))]) lo (kc + 1) (ks + N) (pc + 3) (.ref q :: r)) : VA w nL A κ ws lo kc ks pc r := by
  obtain ⟨p, l, e, R, s, m, args, below, meth, c, Q, kc0, ks0⟩ := κ
  intro H locs ls hP hD hS hl
  obtain ⟨⟨hx, hb, hml, hown, hts⟩, ⟨hK, hA, -⟩, ⟨-, -, hr, hs⟩⟩ := id hC
  exact va_new (Ts := tbl) hx hb hts hu ty hty hown (hts _ hcl) (hts _ hin) (hts _ hini) hK hP hD hS hA hc hfs (Nat.le_trans (Nat.le_of_ble_eq_true h1) hr) (Nat.le_trans (Nat.le_of_ble_eq_true h2) hs) hd (fun q H1 hP1 hD1 hS1 => k q H1 locs ls hP1 hD1 hS1 hl)
theorem VA.newi (hC : CxA w nL A κ own cc d kr sr) {n : Int32} {N : Nat} (hd : decode cc pc = .ok (.newarray .int, 2)) (hw : Cond.arrayClass .int ∈ tbl) (hn : ¬ n < 0) (hN : n.toNatClampNeg = N) (hby : Nat.ble (N * componentBytes .int) 536870912 = true) (h1 : Nat.ble (kc + 1) kr = true) (h2 : Nat.ble (ks + N) sr = true)
    (k : ∀ q : Nat, VA w nL A κ (ws ++ [(q, .inl (w.2.1, N, .inl (fun _ => 0)))]) lo (kc + 1) (ks + N) (pc + 2) (.ref q :: r)) : VA w nL A κ ws lo kc ks pc (.int n :: r) := by
  obtain ⟨p, l, e, R, s, m, args, below, meth, c, Q, kc0, ks0⟩ := κ
  intro H locs ls hP hD hS hl
  obtain ⟨⟨hx, hb, hml, hown, hts⟩, ⟨hK, hA, -⟩, ⟨-, -, hr, hs⟩⟩ := id hC
  refine va_newa (atype := .int) (a0 := (N, .inl (fun _ => 0))) hx hb (hts _ hw) rfl hK hP hD hS hA (fun _ => rfl) hn hN (Nat.le_of_ble_eq_true hby) (Nat.le_trans (Nat.le_of_ble_eq_true h1) hr) (Nat.le_trans (Nat.le_of_ble_eq_true h2) hs) hd (fun q cA H1 hK1 hP1 hD1 hS1 => ?_)
  have e1 : s.vm.findClass ("[" ++ FieldType.int.toString) = some cA := (hK1.2 3 (cA, .int) rfl).2
  have e2 : s.vm.findClass ("[" ++ FieldType.int.toString) = some w.2.1 := (hK1.2 0 (w.2.1, .int) rfl).2
  have e3 : cA = w.2.1 := Option.some.inj (e1.symm.trans e2)
  subst e3
  exact k q H1 locs ls hP1 hD1 hS1 hl
theorem VA.newz (hC : CxA w nL A κ own cc d kr sr) {n : Int32} {N : Nat} (hd : decode cc pc = .ok (.newarray .boolean, 2)) (hw : Cond.arrayClass .boolean ∈ tbl) (hn : ¬ n < 0) (hN : n.toNatClampNeg = N) (hby : Nat.ble (N * componentBytes .boolean) 536870912 = true) (h1 : Nat.ble (kc + 1) kr = true) (h2 : Nat.ble (ks + N) sr = true)
    (k : ∀ q : Nat, VA w nL A κ (ws ++ [(q, .inl (w.2.2.1, N, .inl (fun _ => 0)))]) lo (kc + 1) (ks + N) (pc + 2) (.ref q :: r)) : VA w nL A κ ws lo kc ks pc (.int n :: r) := by
  obtain ⟨p, l, e, R, s, m, args, below, meth, c, Q, kc0, ks0⟩ := κ
  intro H locs ls hP hD hS hl
  obtain ⟨⟨hx, hb, hml, hown, hts⟩, ⟨hK, hA, -⟩, ⟨-, -, hr, hs⟩⟩ := id hC
  refine va_newa (atype := .boolean) (a0 := (N, .inl (fun _ => 0))) hx hb (hts _ hw) rfl hK hP hD hS hA (fun _ => rfl) hn hN (Nat.le_of_ble_eq_true hby) (Nat.le_trans (Nat.le_of_ble_eq_true h1) hr) (Nat.le_trans (Nat.le_of_ble_eq_true h2) hs) hd (fun q cA H1 hK1 hP1 hD1 hS1 => ?_)
  have e1 : s.vm.findClass ("[" ++ FieldType.boolean.toString) = some cA := (hK1.2 3 (cA, .boolean) rfl).2
  have e2 : s.vm.findClass ("[" ++ FieldType.boolean.toString) = some w.2.2.1 := (hK1.2 1 (w.2.2.1, .boolean) rfl).2
  have e3 : cA = w.2.2.1 := Option.some.inj (e1.symm.trans e2)
  subst e3
  exact k q H1 locs ls hP1 hD1 hS1 hl
theorem VA.newq (hC : CxA w nL A κ own cc d kr sr) {i : Nat} {n : Int32} {N : Nat} (hd : decode cc pc = .ok (.anewarray i, 3)) (hcl : Cond.classLink own i "SoundPaid$Sheet" ∈ tbl) (hn : ¬ n < 0) (hN : n.toNatClampNeg = N) (hby : Nat.ble (N * 4) 536870912 = true) (h1 : Nat.ble (kc + 1) kr = true) (h2 : Nat.ble (ks + N) sr = true)
    (k : ∀ q : Nat, VA w nL A κ (ws ++ [(q, .inl (w.2.2.2.1, N, .inr (.inr (.inr (.inr (fun _ => none))))))]) lo (kc + 1) (ks + N) (pc + 3) (.ref q :: r)) : VA w nL A κ ws lo kc ks pc (.int n :: r) := by
  obtain ⟨p, l, e, R, s, m, args, below, meth, c, Q, kc0, ks0⟩ := κ
  intro H locs ls hP hD hS hl
  obtain ⟨⟨hx, hb, hml, hown, hts⟩, ⟨hK, hA, -, hE⟩, ⟨-, -, hr, hs⟩⟩ := id hC
  refine va_newq (C := "SoundPaid$Sheet") hx hb hown (hts _ hcl) hE.2.2.2.2 hK hP hD hS hA hn hN (Nat.le_of_ble_eq_true hby) (Nat.le_trans (Nat.le_of_ble_eq_true h1) hr) (Nat.le_trans (Nat.le_of_ble_eq_true h2) hs) hd (fun q cA H1 hK1 hP1 hD1 hS1 => ?_)
  obtain ⟨-, -, -, -, -, e1⟩ := (hK1.2 3 (cA, .object "SoundPaid$Sheet") rfl).2
  obtain ⟨-, -, -, -, -, e2⟩ := (hK1.2 2 (w.2.2.2.1, .object "SoundPaid$Sheet") rfl).2
  have e3 : cA = w.2.2.2.1 := Option.some.inj (e1.symm.trans e2)
  subst e3
  exact k q H1 locs ls hP1 hD1 hS1 hl
theorem VA.astq (hC : CxA w nL A κ own cc d kr sr) {a u n : Nat} {vs : List Value} {f : Nat → Option Nat} {i : Int32} (q0 qk : Nat) (hd : decode cc pc = .ok (.aastore, 1)) (ha : ws[q0]? = some (a, .inl (w.2.2.2.1, n, .inr (.inr (.inr (.inr f)))))) (hv : ws[qk]? = some (u, .inr (4, vs))) (hin : vp_in i n)
    (k : VA w nL A κ (ws.set q0 (a, .inl (w.2.2.2.1, n, .inr (.inr (.inr (.inr (va_up f i.toNatClampNeg (some u)))))))) lo kc ks (pc + 1) r) : VA w nL A κ ws lo kc ks pc (.ref u :: .int i :: .ref a :: r) := by
  obtain ⟨p, l, e, R, s, m, args, below, meth, c, Q, kc0, ks0⟩ := κ
  intro H locs ls hP hD hS hl
  obtain ⟨⟨hx, hb, hml, hown, hts⟩, ⟨hK, hA, -⟩, -⟩ := id hC
  exact va_astq (r := (nC4, fC4, 3)) hx hb hK hP hD hS q0 2 qk 4 ha rfl hv rfl hin hd (fun H1 locs1 hP1 hD1 hS1 => k H1 locs1 ls hP1 hD1 hS1 hl)
theorem VA.putF (hC : CxA w nL A κ own cc d kr sr) (hne : own ≠ "SoundPaidLaw") {a i ci j N : Nat} {C : String} {T : u_T} {ty0 : Nat → FieldType} {fs : List Value} {tl : va_W} {v : Value} (hd : decode cc pc = .ok (.putfield i, 3)) (hws : ws = (a, .inr (ci, fs)) :: tl) (hc : classes[ci]? = some (C, T, N)) (hu : ∀ x ∈ u_ws C T N, x ∈ tbl) (hty : ∀ k, k < N → parseFieldDescriptor (T k).2.2.1 = some (ty0 k)) (hnm : ∀ a, a < N → ∀ b, b < N → a ≠ b → (T a).2.1 ≠ (T b).2.1) (hj : Nat.ble (j + 1) N = true) (hfin : (T j).2.2.2 = true) (hdecl : (T j).1 = own) (hn : narrow (ty0 j) v = v) (hfit : fits (ty0 j) v = true) (hl0 : Nat.ble (j + 1) fs.length = true) (hw : Cond.fieldLink own i (T j).1 (T j).2.1 (T j).2.2.1 ∈ tbl)
    (k : VA w nL A κ ((a, .inr (ci, fs.set j v)) :: tl) lo kc ks (pc + 3) r) : VA w nL A κ ws lo kc ks pc (v :: .ref a :: r) := by
  obtain ⟨p, l, e, R, s, m, args, below, meth, c, Q, kc0, ks0⟩ := κ
  subst hws
  intro H locs ls hP hD hS hl
  obtain ⟨⟨hx, hb, hml, hown, hts⟩, ⟨hK, hA, hnm2, -⟩, -⟩ := id hC
  have hjN := Nat.le_of_ble_eq_true hj
  exact va_putF (Ts := tbl) hx hb hts hu ty0 hty hnm hown hK hP hD hS 0 rfl hc j hjN (hts _ hw) (fun _ h9 => h9) hfin (hnm2.resolve_left hne) hdecl (hty j hjN) hn hfit (Nat.le_of_ble_eq_true hl0) hd (fun H1 locs1 hP1 hD1 hS1 => k H1 locs1 ls hP1 hD1 hS1 hl)
theorem VA.putN (hC : CxA w nL A κ own cc d kr sr) {a i ci j N : Nat} {C : String} {T : u_T} {ty0 : Nat → FieldType} {fs : List Value} {tl : va_W} {v : Value} (hd : decode cc pc = .ok (.putfield i, 3)) (hws : ws = (a, .inr (ci, fs)) :: tl) (hc : classes[ci]? = some (C, T, N)) (hu : ∀ x ∈ u_ws C T N, x ∈ tbl) (hty : ∀ k, k < N → parseFieldDescriptor (T k).2.2.1 = some (ty0 k)) (hnm : ∀ a, a < N → ∀ b, b < N → a ≠ b → (T a).2.1 ≠ (T b).2.1) (hj : Nat.ble (j + 1) N = true) (hfin : (T j).2.2.2 = false) (hn : narrow (ty0 j) v = v) (hfit : fits (ty0 j) v = true) (hl0 : Nat.ble (j + 1) fs.length = true) (hw : Cond.fieldLink own i (T j).1 (T j).2.1 (T j).2.2.1 ∈ tbl)
    (k : VA w nL A κ ((a, .inr (ci, fs.set j v)) :: tl) lo kc ks (pc + 3) r) : VA w nL A κ ws lo kc ks pc (v :: .ref a :: r) := by
  obtain ⟨p, l, e, R, s, m, args, below, meth, c, Q, kc0, ks0⟩ := κ
  subst hws
  intro H locs ls hP hD hS hl
  obtain ⟨⟨hx, hb, hml, hown, hts⟩, ⟨hK, hA, hnm2, -⟩, -⟩ := id hC
  have hjN := Nat.le_of_ble_eq_true hj
  exact va_put (Ts := tbl) hx hb hts hu ty0 hty hnm hown hK hP hD hS 0 rfl hc j hjN (hts _ hw) (fun _ h9 => h9) hfin (hty j hjN) hn hfit (Nat.le_of_ble_eq_true hl0) hd (fun H1 locs1 hP1 hD1 hS1 => k H1 locs1 ls hP1 hD1 hS1 hl)
theorem VA.getR (hC : CxA w nL A κ own cc d kr sr) {a i ci j N : Nat} {C : String} {T : u_T} {fs : List Value} {v : Value} (q0 : Nat) (hd : decode cc pc = .ok (.getfield i, 3)) (he : ws[q0]? = some (a, .inr (ci, fs))) (hc : classes[ci]? = some (C, T, N)) (hu : ∀ x ∈ u_ws C T N, x ∈ tbl) (hj : Nat.ble (j + 1) N = true) (hv : fs[j]? = some v) (hw : Cond.fieldLink own i (T j).1 (T j).2.1 (T j).2.2.1 ∈ tbl)
    (k : VA w nL A κ ws lo kc ks (pc + 3) (v :: r)) : VA w nL A κ ws lo kc ks pc (.ref a :: r) := by
  obtain ⟨p, l, e, R, s, m, args, below, meth, c, Q, kc0, ks0⟩ := κ
  intro H locs ls hP hD hS hl
  obtain ⟨⟨hx, hb, hml, hown, hts⟩, ⟨hK, hA, hnm2, -⟩, -⟩ := id hC
  exact va_get (Ts := tbl) hx hb hts hu hown hK hP q0 he hc j (Nat.le_of_ble_eq_true hj) (hts _ hw) (fun _ h9 => h9) hv hd (k H locs ls hP hD hS hl)
theorem PcA_blind {h0 sz : Nat} {e0 : va_E} (As : List Value) : FrameBlind (va_Pc (.ref h0 :: As) (fun U => U.heap.size = sz ∧ va_P w.2.2.2.2 classes [(h0, e0)] U.heap ∧ va_K w.2.2.2.2 classes (tysW w) U ∧ ExA w U)) := by
  intro a U g mk q
  obtain ⟨q0, q1, qP, qK, qX⟩ := q
  exact ⟨q0, q1, qP, va_K.moved (u := U) (U := U.calling g mk a) (Vm.Alike.refl U.vm) qK, ExA_warm (s := U) (U := U.calling g mk a) (State.WarmedH.refl U) qX⟩
/-- behind a constructor's call: the cell that it got is the last of the world -/
theorem VA_join {wr F : va_W} {h0 : Nat} {e0 : va_E} {D : va_G} {H0 H H1 : Heap} {locs : List Loc} (hP : va_P D classes (wr ++ [(h0, e0)]) H) (hD : va_D A (wr ++ [(h0, e0)])) (hS : va_S A H0 H locs) (hA : ∀ q, H0.size ≤ q → A q) (hk : ∀ q : Nat, q < H.size → ¬ va_A [(h0, e0)] H.size q → H1[q]? = H[q]?) (hP1 : va_P D classes F H1) (hD1 : va_D (va_A [(h0, e0)] H.size) F) : va_P D classes (wr ++ F) H1 ∧ va_D A (wr ++ F) := by
  have hwr : ∀ (k : Nat) (q : Nat × va_E), wr[k]? = some q → (wr ++ [(h0, e0)])[k]? = some q := by
    intro k q hq
    rw [List.getElem?_append_left (List.getElem?_eq_some_iff.mp hq).1]; exact hq
  have hlast : (wr ++ [(h0, e0)])[wr.length]? = some (h0, e0) := by simp
  have hself : A h0 := hD.2 _ _ hlast
  have apart : ∀ (k : Nat) (q : Nat × va_E), wr[k]? = some q → q.1 < H.size ∧ ¬ va_A [(h0, e0)] H.size q.1 := by
    intro k q hq
    have hl := (hP k q (hwr k q hq)).lt
    refine ⟨hl, fun h => ?_⟩
    rcases h with ⟨k2, e, h⟩ | h
    · have hk2 : k2 = 0 := by
        cases k2 with
        | zero => rfl
        | succ k2 => simp at h
      subst hk2
      simp at h
      have := hD.1 k wr.length q (h0, e0) (hwr k q hq) hlast h.1.symm
      have h9 := (List.getElem?_eq_some_iff.mp hq).1
      omega
    · omega
  refine ⟨va_P.app (fun k q hq => ?_) hP1, va_D.app ⟨fun i j x y hx hy e => hD.1 i j x y (hwr i x hx) (hwr j y hy) e, fun k q hq => hD.2 k q (hwr k q hq)⟩ (hD1.weaken (fun k q _ h => ?_)) (fun i j x y hx hy hxy => ?_)⟩
  · obtain ⟨g1, g2⟩ := apart k q hq
    exact (hP k q (hwr k q hq)).kept (hk q.1 g1 g2)
  · rcases h with ⟨k2, e, h⟩ | h
    · have hk2 : k2 = 0 := by
        cases k2 with
        | zero => rfl
        | succ k2 => simp at h
      subst hk2
      simp at h
      rw [← h.1]; exact hself
    · exact hA _ (Nat.le_trans hS.1 h)
  · exact (apart i x hx).2 (by rw [hxy]; exact hD1.2 j y hy)
theorem VA_ofRun {p : Program} {l : Launch} {e : Env} {R : Room} {s : State} {m : MethodId} {args : Array Value} {below : List Frame} {meth : Method} {c : Code} {Q : State → Prop} {H : Heap} {locs : List Loc} {ls : Array Slot} {stk : List Value} {a : Array Value} {h0 mc ms kc ks : Nat} {e0 : va_E} {F : (Nat → Nat) → va_W} {wr : va_W}
    (hr : va_Run p l e R s m args below meth c H locs kc ks mc ms (F0 m pc ls stk) r ((fun _ st oc t => (∃ qs : Nat → Nat, oc = .returned none ∧ va_P w.2.2.2.2 classes (F qs) t.heap ∧ va_D (va_A [(h0, e0)] H.size) (F qs)) ∧ va_F (va_A [(h0, e0)] H.size) st t : Array Value → State → Outcome → State → Prop) a) (va_A [(h0, e0)] H.size)) (hP : va_P w.2.2.2.2 classes (wr ++ [(h0, e0)]) H) (hD : va_D A (wr ++ [(h0, e0)])) (hS : va_S A s.heap H locs) (hA : ∀ q, s.heap.size ≤ q → A q)
    (kk : ∀ (qs : Nat → Nat) (H1 : Heap) (locs1 : List Loc), va_P w.2.2.2.2 classes (wr ++ F qs) H1 → va_D A (wr ++ F qs) → va_S A s.heap H1 locs1 → W p l e R s m args below meth c H1 locs1 (kc + mc) (ks + ms) Q (F0 m (pc + 3) ls r)) : W p l e R s m args below meth c H locs kc ks Q (F0 m pc ls stk) := by
  intro T hT X
  obtain ⟨v, st₀, t, T', L, h9, X', hL, e1, e2, ⟨⟨qs, hv, hb, hd⟩, hz, hk⟩, stp⟩ := hr T hT X
  cases hv
  rw [h9] at hz hk
  have hfA : ∀ q, va_A [(h0, e0)] H.size q → A q := by
    intro q hq
    rcases hq with ⟨k2, e, h⟩ | h
    · have hk2 : k2 = 0 := by
        cases k2 with
        | zero => rfl
        | succ k2 => simp at h
      subst hk2
      simp at h
      have := hD.2 wr.length (h0, e0) (by simp)
      rw [← h.1]; exact this
    · exact hA _ (Nat.le_trans hS.1 h)
  obtain ⟨j1, j2⟩ := VA_join hP hD hS hA (fun q h1 h2 => hk q h1 h2) hb hd
  obtain ⟨t2, a1, b1⟩ := kk qs T'.heap (locs ++ L) (by rw [e1]; exact j1) j2
    ⟨Nat.le_trans hS.1 (by rw [e1]; exact hz), fun q h1 h2 => by rw [e1, hk q (Nat.lt_of_lt_of_le h1 hS.1) (fun z => h2 (hfA q z))]; exact hS.2.1 q h1 h2, fun q hq => by
      rcases List.mem_append.mp hq with h | h
      · exact hS.2.2 q h
      · exact hfA _ (hL q h)⟩ T' rfl X'
  exact ⟨t2, stp t2 a1, b1⟩
def MokI (y : MethodName) (cc : ByteArray) (nL n : Nat) : Prop := (Cond.code y cc nL none ∈ tbl ∧ Cond.initialized y.cls ∈ tbl) ∧ (Cond.instanceMethod y ∈ tbl ∧ y.name = "<init>") ∧ (y.cls ≠ "java/lang/invoke/MethodHandle" ∧ y.cls ≠ "java/lang/invoke/VarHandle") ∧ (parseMethodDescriptor y.desc).map (fun d => d.parameters.length) = some n
theorem VA.callI (hC : CxA w nL A κ own cc d kr sr) {i n n2 d2 mc ms h0 : Nat} {y : MethodName} {c2 : ByteArray} {As : List Value} {e0 : va_E} {F : (Nat → Nat) → va_W} {wr : va_W} {stk : List Value}
    (hM : CtA w y c2 n2 d2 mc ms As h0 e0 F) (hd : decode cc pc = .ok (.invokespecial i, 3)) (hy : MokI y c2 n2 n) (hw : Cond.methodLink own i y ∈ tbl) (hws : ws = wr ++ [(h0, e0)]) (hn : As.length = n) (hst : stk = As.reverse ++ .ref h0 :: r) (hroom : Nat.ble (d2 + 1) d = true) (hloc : Nat.ble n2 45 = true) (hW : (r.map fun v => v.category).sum ≤ 8) (h1 : Nat.ble (kc + mc) kr = true) (h2 : Nat.ble (ks + ms) sr = true)
    (k : ∀ qs, VA w nL A κ (wr ++ F qs) lo (kc + mc) (ks + ms) (pc + 3) r) : VA w nL A κ ws lo kc ks pc stk := by
  obtain ⟨p, l, e, R, s, m, args, below, meth, c, Q, kc0, ks0⟩ := κ
  subst hws
  intro H locs ls hP hD hS hl
  have hR := Nat.le_of_ble_eq_true hroom
  have hL := Nat.le_of_ble_eq_true hloc
  obtain ⟨⟨hx, hb, hml, hown, hts⟩, ⟨hK, hA, -, hE⟩, ⟨hf, hlo, hr, hs⟩⟩ := id hC
  refine VA_ofRun (a := (Value.ref h0 :: As).toArray) (va_runI (Ts := tbl) (As := As) (rest := r) ⟨hx, hb, hml, hown, hts⟩ (hM l H.size) ⟨⟨rfl, rfl, ?_, ?_, ws_pay hts hy.1.1, List.mem_cons_self, hts _ hy.1.1, hts _ hy.1.2, hy.2.2.1, arity_of hy.2.2.2, hts _ hw⟩, hy.2.1.2, hts _ hy.2.1.1⟩ ⟨PcA_blind As, fun U hU hWm => ⟨rfl, by rw [hU], ?_, va_K.moved hWm.alike hK, ExA_warm hWm hE⟩⟩ rfl hn hl.1 hst (lv_room hW) hd ⟨Nat.le_trans (Nat.le_of_ble_eq_true h1) hr, Nat.le_trans (Nat.le_of_ble_eq_true h2) hs⟩) hP hD hS hA (fun qs H1 locs1 hP1 hD1 hS1 => k qs H1 locs1 ls hP1 hD1 hS1 hl)
  · exact Nat.le_trans hR hf
  · refine Nat.le_trans ?_ hlo
    show 8 + (n2 + 11) + 64 * d2 ≤ 64 * d
    omega
  · rw [hU]
    intro j q hq
    cases j with
    | zero => simp at hq; subst hq; exact hP wr.length (h0, e0) (by simp)
    | succ j => simp at hq
theorem VA.callN (hC : CxA w nL A κ own cc d kr sr) {i n n2 d2 mc ms h0 : Nat} {y : MethodName} {host : String} {c2 : ByteArray} {As : List Value} {e0 : va_E} {F : (Nat → Nat) → va_W} {wr : va_W} {stk : List Value}
    (hM : CtA w y c2 n2 d2 mc ms As h0 e0 F) (hd : decode cc pc = .ok (.invokespecial i, 3)) (hy : MokI y c2 n2 n) (hw : ∀ U, ExA w U → va_Nw (.methodLinkNest own i y host) U) (hws : ws = wr ++ [(h0, e0)]) (hn : As.length = n) (hst : stk = As.reverse ++ .ref h0 :: r) (hroom : Nat.ble (d2 + 1) d = true) (hloc : Nat.ble n2 45 = true) (hW : (r.map fun v => v.category).sum ≤ 8) (h1 : Nat.ble (kc + mc) kr = true) (h2 : Nat.ble (ks + ms) sr = true)
    (k : ∀ qs, VA w nL A κ (wr ++ F qs) lo (kc + mc) (ks + ms) (pc + 3) r) : VA w nL A κ ws lo kc ks pc stk := by
  obtain ⟨p, l, e, R, s, m, args, below, meth, c, Q, kc0, ks0⟩ := κ
  subst hws
  intro H locs ls hP hD hS hl
  have hR := Nat.le_of_ble_eq_true hroom
  have hL := Nat.le_of_ble_eq_true hloc
  obtain ⟨⟨hx, hb, hml, hown, hts⟩, ⟨hK, hA, -, hE⟩, ⟨hf, hlo, hr, hs⟩⟩ := id hC
  refine VA_ofRun (a := (Value.ref h0 :: As).toArray) (va_runIN (Ts := tbl) (As := As) (rest := r) (host := host) ⟨hx, hb, hml, hown, hts⟩ (hM l H.size) ⟨⟨⟨rfl, rfl, ?_, ?_, ws_pay hts hy.1.1, List.mem_cons_self⟩, hts _ hy.1.1, hts _ hy.1.2, hy.2.2.1, arity_of hy.2.2.2, va_Nw.use rfl (hw s hE)⟩, hy.2.1.2, hts _ hy.2.1.1⟩ ⟨PcA_blind As, fun U hU hWm => ⟨rfl, by rw [hU], ?_, va_K.moved hWm.alike hK, ExA_warm hWm hE⟩⟩ rfl hn hl.1 hst (lv_room hW) hd ⟨Nat.le_trans (Nat.le_of_ble_eq_true h1) hr, Nat.le_trans (Nat.le_of_ble_eq_true h2) hs⟩) hP hD hS hA (fun qs H1 locs1 hP1 hD1 hS1 => k qs H1 locs1 ls hP1 hD1 hS1 hl)
  · exact Nat.le_trans hR hf
  · refine Nat.le_trans ?_ hlo
    show 8 + (n2 + 11) + 64 * d2 ≤ 64 * d
    omega
  · rw [hU]
    intro j q hq
    cases j with
    | zero => simp at hq; subst hq; exact hP wr.length (h0, e0) (by simp)
    | succ j => simp at hq
theorem CtA.ofV {y : MethodName} {As : List Value} {C : String} {h0 : Nat} {e0 : va_E} {F : (Nat → Nat) → va_W} {lo : List (Option Value)} {kc ks pcr : Nat} (hy : plainName y.cls = true) (hcl : y.cls = C) (hnm : y.name = "<init>") (hlo : asl 0 lo = lv_args 0 (.ref h0 :: As)) (hlen : Nat.ble (lg_sl (.ref h0 :: As)).length nL = true) (hret : decode cc pcr = .ok (.return_, 1))
    (body : ∀ (κ : Kx) (A : Nat → Prop), CxA w nL A κ C cc d kc ks → (∀ (qs : Nat → Nat) (lo' : List (Option Value)), VA w nL A κ (F qs) lo' kc ks pcr []) → VA w nL A κ [(h0, e0)] lo 0 0 0 []) : CtA w y cc nL d kc ks As h0 e0 F := by
  intro l sz
  refine Met.ofW (cc := cc) (maxL := nL) (ret := none) hy rfl ?_
  intro p e s m args below meth c s₁ B hml hv
  obtain ⟨rfl, hsz, hP, hK, hE⟩ := hv
  subst hsz
  have hts := atoms_spec (ws := wsM y cc nL none) B.pre
  have hown : s.vm.findClass C = some m.cls := by rw [← hcl]; exact findClass_of_methodNamed B.named
  have hin : meth.name = "<init>" := by rw [← hnm]; exact (name_of_methodNamed B.named B.method).1
  have hl := lv_entry (.ref h0 :: As) (n := nL) (Nat.le_of_ble_eq_true hlen)
  rw [lg_entry_eq]
  generalize (lg_sl (.ref h0 :: As) ++ List.replicate (nL - (lg_sl (.ref h0 :: As)).length) Slot.unset).toArray = ls at hl ⊢
  have hl' : lhas ls nL lo := by unfold lhas; rw [hlo]; exact hl
  have hD : va_D (va_A [(h0, e0)] s.heap.size) [(h0, e0)] := by
    refine ⟨fun i j p q hp hq _ => ?_, fun k q hq => va_A.in hq⟩
    have h1 := (List.getElem?_eq_some_iff.mp hp).1
    have h2 := (List.getElem?_eq_some_iff.mp hq).1
    simp at h1 h2
    omega
  refine body (p, l, e, { frames := d, cells := kc, slots := ks, locals := 64 * d }, s, m, (Value.ref h0 :: As).toArray, below, meth, c, _, 0, 0) (va_A [(h0, e0)] s.heap.size) ⟨⟨B.exec, B.bytes, hml, hown, fun x hx => hts x (List.mem_cons_of_mem _ hx)⟩, ⟨hK, fun q h => Or.inr h, Or.inr hin, hE⟩, ⟨Nat.le_refl _, Nat.le_refl _, Nat.le_refl _, Nat.le_refl _⟩⟩ ?_ s.heap [] ls hP hD va_S.rf hl'
  intro qs lo' H locs ls' hP' hD' hS' hl'
  exact W.vret B.exec B.bytes B.returns (fun t ht _ => ⟨⟨qs, rfl, by rw [ht]; exact hP', hD'⟩, hS'.F ht⟩) hS'.2.2 hret B.notSynchronized
end RULEA
