abbrev ix (i : Int32) : Nat := i.toNatClampNeg
section RULES2
variable {μ : Wk} {w : Wd} {nL : Nat} {κ : Kx} {σ : Hp} {lo : List (Option Value)} {pc : Nat} {r : List Value} {own : String} {cc : ByteArray} {d : Nat}
theorem V.getI (hC : Cx μ w nL κ own cc d) {o ci j i N q : Nat} {C : String} {T : u_T} {fs : List (Nat ⊕ Nat)} (hd : decode cc pc = .ok (.getfield i, 3)) (hs : μ.1[o]? = some (.inl (ci, fs))) (hc : classes[ci]? = some (C, T, N)) (hu : ∀ x ∈ u_ws C T N, x ∈ tbl) (hj : Nat.ble (j + 1) N = true) (hf : fs[j]? = some (.inl q)) (hw : Cond.fieldLink own i (T j).1 (T j).2.1 (T j).2.2.1 ∈ tbl) (k : V μ w nL κ σ lo (pc + 3) (.int (σ o q) :: r)) : V μ w nL κ σ lo pc (.ref (w.1 o) :: r) :=
  V.get hC hd hs hc hu hj hf hw k
theorem V.getR (hC : Cx μ w nL κ own cc d) {o ci j i N q : Nat} {C : String} {T : u_T} {fs : List (Nat ⊕ Nat)} (hd : decode cc pc = .ok (.getfield i, 3)) (hs : μ.1[o]? = some (.inl (ci, fs))) (hc : classes[ci]? = some (C, T, N)) (hu : ∀ x ∈ u_ws C T N, x ∈ tbl) (hj : Nat.ble (j + 1) N = true) (hf : fs[j]? = some (.inr q)) (hw : Cond.fieldLink own i (T j).1 (T j).2.1 (T j).2.2.1 ∈ tbl) (k : V μ w nL κ σ lo (pc + 3) (.ref (w.1 q) :: r)) : V μ w nL κ σ lo pc (.ref (w.1 o) :: r) :=
  V.get hC hd hs hc hu hj hf hw k

def CtI (μ : Wk) (w : Wd) (y : MethodName) (cc : ByteArray) (nL : Nat) (ret : Option FieldType) (d : Nat) (As : List Value) (σ : Hp) (P : Int32 → Hp → Prop) : Prop := Ct μ w y cc nL ret d As σ (fun v τ => ∃ x, v = some (.int x) ∧ P x τ)
theorem V.callVI (hC : Cx μ w nL κ own cc d) (hE : ExtOk μ) {i o ci N n n2 d2 : Nat} {y : MethodName} {c2 : ByteArray} {ret : Option FieldType} {C : String} {T : u_T} {fs : List (Nat ⊕ Nat)} {As : List Value} {P : Int32 → Hp → Prop} {stk : List Value}
    (hM : CtI μ w y c2 n2 ret d2 (.ref (w.1 o) :: As) σ P) (hd : decode cc pc = .ok (.invokevirtual i, 3)) (hy : MokV y c2 n2 ret n) (hw : Cond.methodLink own i y ∈ tbl) (hs : μ.1[o]? = some (.inl (ci, fs))) (hc : classes[ci]? = some (C, T, N)) (hcls : y.cls = C) (hn : As.length = n) (hst : stk = As.reverse ++ .ref (w.1 o) :: r) (hroom : Nat.ble (d2 + 1) d = true) (hloc : Nat.ble n2 45 = true) (hW : (r.map fun v => v.category).sum ≤ 8)
    (k : ∀ x τ, P x τ → V μ w nL κ τ lo (pc + 3) (.int x :: r)) : V μ w nL κ σ lo pc stk :=
  V.callV hC hE hM hd hy hw hs hc hcls hn hst hroom hloc hW (fun v τ hp => by obtain ⟨x, rfl, h⟩ := hp; exact k x τ h)
theorem V.callXI (hC : Cx μ w nL κ own cc d) (hE : ExtOk μ) {i q n n2 d2 : Nat} {y : MethodName} {c2 : ByteArray} {ret : Option FieldType} {As : List Value} {P : Int32 → Hp → Prop} {stk : List Value}
    (hM : CtI μ w y c2 n2 ret d2 (.ref q :: As) σ P) (hd : decode cc pc = .ok (.invokevirtual i, 3)) (hy : MokV y c2 n2 ret n) (hw : Cond.methodLink own i y ∈ tbl) (hO : ∀ A U H, μ.2 w A U H → va_O y.cls q A U H) (hn : As.length = n) (hst : stk = As.reverse ++ .ref q :: r) (hroom : Nat.ble (d2 + 1) d = true) (hloc : Nat.ble n2 45 = true) (hW : (r.map fun v => v.category).sum ≤ 8)
    (k : ∀ x τ, P x τ → V μ w nL κ τ lo (pc + 3) (.int x :: r)) : V μ w nL κ σ lo pc stk :=
  V.callX hC hE hM hd hy hw hO hn hst hroom hloc hW (fun v τ hp => by obtain ⟨x, rfl, h⟩ := hp; exact k x τ h)
theorem V.callSI (hC : Cx μ w nL κ own cc d) (hE : ExtOk μ) {i n n2 d2 : Nat} {y : MethodName} {c2 : ByteArray} {ret : Option FieldType} {As : List Value} {P : Int32 → Hp → Prop} {stk : List Value}
    (hM : CtI μ w y c2 n2 ret d2 As σ P) (hd : decode cc pc = .ok (.invokestatic i, 3)) (hy : MokS y c2 n2 ret n) (hw : Cond.methodLink own i y ∈ tbl) (hn : As.length = n) (hst : stk = As.reverse ++ r) (hroom : Nat.ble (d2 + 1) d = true) (hloc : Nat.ble n2 45 = true) (hW : (r.map fun v => v.category).sum ≤ 8)
    (k : ∀ x τ, P x τ → V μ w nL κ τ lo (pc + 3) (.int x :: r)) : V μ w nL κ σ lo pc stk :=
  V.callS hC hE hM hd hy hw hn hst hroom hloc hW (fun v τ hp => by obtain ⟨x, rfl, h⟩ := hp; exact k x τ h)
theorem V.callHI (hC : Cx μ w nL κ own cc d) (hE : ExtOk μ) {i n n2 d2 : Nat} {y : MethodName} {host : String} {c2 : ByteArray} {ret : Option FieldType} {As : List Value} {P : Int32 → Hp → Prop} {stk : List Value}
    (hM : CtI μ w y c2 n2 ret d2 As σ P) (hd : decode cc pc = .ok (.invokestatic i, 3)) (hy : MokS y c2 n2 ret n) (hw : ∀ A U H, μ.2 w A U H → va_Nw (.methodLinkNest own i y host) U) (hn : As.length = n) (hst : stk = As.reverse ++ r) (hroom : Nat.ble (d2 + 1) d = true) (hloc : Nat.ble n2 45 = true) (hW : (r.map fun v => v.category).sum ≤ 8)
    (k : ∀ x τ, P x τ → V μ w nL κ τ lo (pc + 3) (.int x :: r)) : V μ w nL κ σ lo pc stk :=
  V.callH hC hE hM hd hy hw hn hst hroom hloc hW (fun v τ hp => by obtain ⟨x, rfl, h⟩ := hp; exact k x τ h)
def CtL (μ : Wk) (w : Wd) (y : MethodName) (cc : ByteArray) (nL : Nat) (ret : Option FieldType) (d : Nat) (As : List Value) (σ : Hp) (P : Int64 → Hp → Prop) : Prop := Ct μ w y cc nL ret d As σ (fun v τ => ∃ x, v = some (.long x) ∧ P x τ)
theorem V.callVL (hC : Cx μ w nL κ own cc d) (hE : ExtOk μ) {i o ci N n n2 d2 : Nat} {y : MethodName} {c2 : ByteArray} {ret : Option FieldType} {C : String} {T : u_T} {fs : List (Nat ⊕ Nat)} {As : List Value} {P : Int64 → Hp → Prop} {stk : List Value}
    (hM : CtL μ w y c2 n2 ret d2 (.ref (w.1 o) :: As) σ P) (hd : decode cc pc = .ok (.invokevirtual i, 3)) (hy : MokV y c2 n2 ret n) (hw : Cond.methodLink own i y ∈ tbl) (hs : μ.1[o]? = some (.inl (ci, fs))) (hc : classes[ci]? = some (C, T, N)) (hcls : y.cls = C) (hn : As.length = n) (hst : stk = As.reverse ++ .ref (w.1 o) :: r) (hroom : Nat.ble (d2 + 1) d = true) (hloc : Nat.ble n2 45 = true) (hW : (r.map fun v => v.category).sum ≤ 8)
    (k : ∀ x τ, P x τ → V μ w nL κ τ lo (pc + 3) (.long x :: r)) : V μ w nL κ σ lo pc stk :=
  V.callV hC hE hM hd hy hw hs hc hcls hn hst hroom hloc hW (fun v τ hp => by obtain ⟨x, rfl, h⟩ := hp; exact k x τ h)
theorem V.callXL (hC : Cx μ w nL κ own cc d) (hE : ExtOk μ) {i q n n2 d2 : Nat} {y : MethodName} {c2 : ByteArray} {ret : Option FieldType} {As : List Value} {P : Int64 → Hp → Prop} {stk : List Value}
    (hM : CtL μ w y c2 n2 ret d2 (.ref q :: As) σ P) (hd : decode cc pc = .ok (.invokevirtual i, 3)) (hy : MokV y c2 n2 ret n) (hw : Cond.methodLink own i y ∈ tbl) (hO : ∀ A U H, μ.2 w A U H → va_O y.cls q A U H) (hn : As.length = n) (hst : stk = As.reverse ++ .ref q :: r) (hroom : Nat.ble (d2 + 1) d = true) (hloc : Nat.ble n2 45 = true) (hW : (r.map fun v => v.category).sum ≤ 8)
    (k : ∀ x τ, P x τ → V μ w nL κ τ lo (pc + 3) (.long x :: r)) : V μ w nL κ σ lo pc stk :=
  V.callX hC hE hM hd hy hw hO hn hst hroom hloc hW (fun v τ hp => by obtain ⟨x, rfl, h⟩ := hp; exact k x τ h)
theorem V.callSL (hC : Cx μ w nL κ own cc d) (hE : ExtOk μ) {i n n2 d2 : Nat} {y : MethodName} {c2 : ByteArray} {ret : Option FieldType} {As : List Value} {P : Int64 → Hp → Prop} {stk : List Value}
    (hM : CtL μ w y c2 n2 ret d2 As σ P) (hd : decode cc pc = .ok (.invokestatic i, 3)) (hy : MokS y c2 n2 ret n) (hw : Cond.methodLink own i y ∈ tbl) (hn : As.length = n) (hst : stk = As.reverse ++ r) (hroom : Nat.ble (d2 + 1) d = true) (hloc : Nat.ble n2 45 = true) (hW : (r.map fun v => v.category).sum ≤ 8)
    (k : ∀ x τ, P x τ → V μ w nL κ τ lo (pc + 3) (.long x :: r)) : V μ w nL κ σ lo pc stk :=
  V.callS hC hE hM hd hy hw hn hst hroom hloc hW (fun v τ hp => by obtain ⟨x, rfl, h⟩ := hp; exact k x τ h)
theorem V.callHL (hC : Cx μ w nL κ own cc d) (hE : ExtOk μ) {i n n2 d2 : Nat} {y : MethodName} {host : String} {c2 : ByteArray} {ret : Option FieldType} {As : List Value} {P : Int64 → Hp → Prop} {stk : List Value}
    (hM : CtL μ w y c2 n2 ret d2 As σ P) (hd : decode cc pc = .ok (.invokestatic i, 3)) (hy : MokS y c2 n2 ret n) (hw : ∀ A U H, μ.2 w A U H → va_Nw (.methodLinkNest own i y host) U) (hn : As.length = n) (hst : stk = As.reverse ++ r) (hroom : Nat.ble (d2 + 1) d = true) (hloc : Nat.ble n2 45 = true) (hW : (r.map fun v => v.category).sum ≤ 8)
    (k : ∀ x τ, P x τ → V μ w nL κ τ lo (pc + 3) (.long x :: r)) : V μ w nL κ σ lo pc stk :=
  V.callH hC hE hM hd hy hw hn hst hroom hloc hW (fun v τ hp => by obtain ⟨x, rfl, h⟩ := hp; exact k x τ h)
def CtR (μ : Wk) (w : Wd) (y : MethodName) (cc : ByteArray) (nL : Nat) (ret : Option FieldType) (d : Nat) (As : List Value) (σ : Hp) (P : Nat → Hp → Prop) : Prop := Ct μ w y cc nL ret d As σ (fun v τ => ∃ x, v = some (.ref (w.1 x)) ∧ P x τ)
theorem V.callVR (hC : Cx μ w nL κ own cc d) (hE : ExtOk μ) {i o ci N n n2 d2 : Nat} {y : MethodName} {c2 : ByteArray} {ret : Option FieldType} {C : String} {T : u_T} {fs : List (Nat ⊕ Nat)} {As : List Value} {P : Nat → Hp → Prop} {stk : List Value}
    (hM : CtR μ w y c2 n2 ret d2 (.ref (w.1 o) :: As) σ P) (hd : decode cc pc = .ok (.invokevirtual i, 3)) (hy : MokV y c2 n2 ret n) (hw : Cond.methodLink own i y ∈ tbl) (hs : μ.1[o]? = some (.inl (ci, fs))) (hc : classes[ci]? = some (C, T, N)) (hcls : y.cls = C) (hn : As.length = n) (hst : stk = As.reverse ++ .ref (w.1 o) :: r) (hroom : Nat.ble (d2 + 1) d = true) (hloc : Nat.ble n2 45 = true) (hW : (r.map fun v => v.category).sum ≤ 8)
    (k : ∀ x τ, P x τ → V μ w nL κ τ lo (pc + 3) (.ref (w.1 x) :: r)) : V μ w nL κ σ lo pc stk :=
  V.callV hC hE hM hd hy hw hs hc hcls hn hst hroom hloc hW (fun v τ hp => by obtain ⟨x, rfl, h⟩ := hp; exact k x τ h)
theorem V.callXR (hC : Cx μ w nL κ own cc d) (hE : ExtOk μ) {i q n n2 d2 : Nat} {y : MethodName} {c2 : ByteArray} {ret : Option FieldType} {As : List Value} {P : Nat → Hp → Prop} {stk : List Value}
    (hM : CtR μ w y c2 n2 ret d2 (.ref q :: As) σ P) (hd : decode cc pc = .ok (.invokevirtual i, 3)) (hy : MokV y c2 n2 ret n) (hw : Cond.methodLink own i y ∈ tbl) (hO : ∀ A U H, μ.2 w A U H → va_O y.cls q A U H) (hn : As.length = n) (hst : stk = As.reverse ++ .ref q :: r) (hroom : Nat.ble (d2 + 1) d = true) (hloc : Nat.ble n2 45 = true) (hW : (r.map fun v => v.category).sum ≤ 8)
    (k : ∀ x τ, P x τ → V μ w nL κ τ lo (pc + 3) (.ref (w.1 x) :: r)) : V μ w nL κ σ lo pc stk :=
  V.callX hC hE hM hd hy hw hO hn hst hroom hloc hW (fun v τ hp => by obtain ⟨x, rfl, h⟩ := hp; exact k x τ h)
theorem V.callSR (hC : Cx μ w nL κ own cc d) (hE : ExtOk μ) {i n n2 d2 : Nat} {y : MethodName} {c2 : ByteArray} {ret : Option FieldType} {As : List Value} {P : Nat → Hp → Prop} {stk : List Value}
    (hM : CtR μ w y c2 n2 ret d2 As σ P) (hd : decode cc pc = .ok (.invokestatic i, 3)) (hy : MokS y c2 n2 ret n) (hw : Cond.methodLink own i y ∈ tbl) (hn : As.length = n) (hst : stk = As.reverse ++ r) (hroom : Nat.ble (d2 + 1) d = true) (hloc : Nat.ble n2 45 = true) (hW : (r.map fun v => v.category).sum ≤ 8)
    (k : ∀ x τ, P x τ → V μ w nL κ τ lo (pc + 3) (.ref (w.1 x) :: r)) : V μ w nL κ σ lo pc stk :=
  V.callS hC hE hM hd hy hw hn hst hroom hloc hW (fun v τ hp => by obtain ⟨x, rfl, h⟩ := hp; exact k x τ h)
theorem V.callHR (hC : Cx μ w nL κ own cc d) (hE : ExtOk μ) {i n n2 d2 : Nat} {y : MethodName} {host : String} {c2 : ByteArray} {ret : Option FieldType} {As : List Value} {P : Nat → Hp → Prop} {stk : List Value}
    (hM : CtR μ w y c2 n2 ret d2 As σ P) (hd : decode cc pc = .ok (.invokestatic i, 3)) (hy : MokS y c2 n2 ret n) (hw : ∀ A U H, μ.2 w A U H → va_Nw (.methodLinkNest own i y host) U) (hn : As.length = n) (hst : stk = As.reverse ++ r) (hroom : Nat.ble (d2 + 1) d = true) (hloc : Nat.ble n2 45 = true) (hW : (r.map fun v => v.category).sum ≤ 8)
    (k : ∀ x τ, P x τ → V μ w nL κ τ lo (pc + 3) (.ref (w.1 x) :: r)) : V μ w nL κ σ lo pc stk :=
  V.callH hC hE hM hd hy hw hn hst hroom hloc hW (fun v τ hp => by obtain ⟨x, rfl, h⟩ := hp; exact k x τ h)
def CtN (μ : Wk) (w : Wd) (y : MethodName) (cc : ByteArray) (nL : Nat) (ret : Option FieldType) (d : Nat) (As : List Value) (σ : Hp) (P : Hp → Prop) : Prop := Ct μ w y cc nL ret d As σ (fun v τ => v = none ∧ P τ)
theorem V.callVN (hC : Cx μ w nL κ own cc d) (hE : ExtOk μ) {i o ci N n n2 d2 : Nat} {y : MethodName} {c2 : ByteArray} {ret : Option FieldType} {C : String} {T : u_T} {fs : List (Nat ⊕ Nat)} {As : List Value} {P : Hp → Prop} {stk : List Value}
    (hM : CtN μ w y c2 n2 ret d2 (.ref (w.1 o) :: As) σ P) (hd : decode cc pc = .ok (.invokevirtual i, 3)) (hy : MokV y c2 n2 ret n) (hw : Cond.methodLink own i y ∈ tbl) (hs : μ.1[o]? = some (.inl (ci, fs))) (hc : classes[ci]? = some (C, T, N)) (hcls : y.cls = C) (hn : As.length = n) (hst : stk = As.reverse ++ .ref (w.1 o) :: r) (hroom : Nat.ble (d2 + 1) d = true) (hloc : Nat.ble n2 45 = true) (hW : (r.map fun v => v.category).sum ≤ 8)
    (k : ∀ τ, P τ → V μ w nL κ τ lo (pc + 3) r) : V μ w nL κ σ lo pc stk :=
  V.callV hC hE hM hd hy hw hs hc hcls hn hst hroom hloc hW (fun v τ hp => by obtain ⟨rfl, h⟩ := hp; exact k τ h)
theorem V.callXN (hC : Cx μ w nL κ own cc d) (hE : ExtOk μ) {i q n n2 d2 : Nat} {y : MethodName} {c2 : ByteArray} {ret : Option FieldType} {As : List Value} {P : Hp → Prop} {stk : List Value}
    (hM : CtN μ w y c2 n2 ret d2 (.ref q :: As) σ P) (hd : decode cc pc = .ok (.invokevirtual i, 3)) (hy : MokV y c2 n2 ret n) (hw : Cond.methodLink own i y ∈ tbl) (hO : ∀ A U H, μ.2 w A U H → va_O y.cls q A U H) (hn : As.length = n) (hst : stk = As.reverse ++ .ref q :: r) (hroom : Nat.ble (d2 + 1) d = true) (hloc : Nat.ble n2 45 = true) (hW : (r.map fun v => v.category).sum ≤ 8)
    (k : ∀ τ, P τ → V μ w nL κ τ lo (pc + 3) r) : V μ w nL κ σ lo pc stk :=
  V.callX hC hE hM hd hy hw hO hn hst hroom hloc hW (fun v τ hp => by obtain ⟨rfl, h⟩ := hp; exact k τ h)
theorem V.callSN (hC : Cx μ w nL κ own cc d) (hE : ExtOk μ) {i n n2 d2 : Nat} {y : MethodName} {c2 : ByteArray} {ret : Option FieldType} {As : List Value} {P : Hp → Prop} {stk : List Value}
    (hM : CtN μ w y c2 n2 ret d2 As σ P) (hd : decode cc pc = .ok (.invokestatic i, 3)) (hy : MokS y c2 n2 ret n) (hw : Cond.methodLink own i y ∈ tbl) (hn : As.length = n) (hst : stk = As.reverse ++ r) (hroom : Nat.ble (d2 + 1) d = true) (hloc : Nat.ble n2 45 = true) (hW : (r.map fun v => v.category).sum ≤ 8)
    (k : ∀ τ, P τ → V μ w nL κ τ lo (pc + 3) r) : V μ w nL κ σ lo pc stk :=
  V.callS hC hE hM hd hy hw hn hst hroom hloc hW (fun v τ hp => by obtain ⟨rfl, h⟩ := hp; exact k τ h)
theorem V.callHN (hC : Cx μ w nL κ own cc d) (hE : ExtOk μ) {i n n2 d2 : Nat} {y : MethodName} {host : String} {c2 : ByteArray} {ret : Option FieldType} {As : List Value} {P : Hp → Prop} {stk : List Value}
    (hM : CtN μ w y c2 n2 ret d2 As σ P) (hd : decode cc pc = .ok (.invokestatic i, 3)) (hy : MokS y c2 n2 ret n) (hw : ∀ A U H, μ.2 w A U H → va_Nw (.methodLinkNest own i y host) U) (hn : As.length = n) (hst : stk = As.reverse ++ r) (hroom : Nat.ble (d2 + 1) d = true) (hloc : Nat.ble n2 45 = true) (hW : (r.map fun v => v.category).sum ≤ 8)
    (k : ∀ τ, P τ → V μ w nL κ τ lo (pc + 3) r) : V μ w nL κ σ lo pc stk :=
  V.callH hC hE hM hd hy hw hn hst hroom hloc hW (fun v τ hp => by obtain ⟨rfl, h⟩ := hp; exact k τ h)
def RtI (μ : Wk) (w : Wd) (nL : Nat) (κ : Kx) (cc : ByteArray) (ty : FieldType) (P : Int32 → Hp → Prop) : Prop := ∀ (τ : Hp) (lo : List (Option Value)) (pc : Nat) (x : Int32), P x τ → narrow ty (.int x) = .int x → decode cc pc = .ok (.ireturn, 1) → V μ w nL κ τ lo pc [.int x]
def RtL (μ : Wk) (w : Wd) (nL : Nat) (κ : Kx) (cc : ByteArray) (P : Int64 → Hp → Prop) : Prop := ∀ (τ : Hp) (lo : List (Option Value)) (pc : Nat) (x : Int64), P x τ → decode cc pc = .ok (.lreturn, 1) → V μ w nL κ τ lo pc [.long x]
def RtR (μ : Wk) (w : Wd) (nL : Nat) (κ : Kx) (cc : ByteArray) (P : Nat → Hp → Prop) : Prop := ∀ (τ : Hp) (lo : List (Option Value)) (pc x : Nat), P x τ → decode cc pc = .ok (.areturn, 1) → V μ w nL κ τ lo pc [.ref (w.1 x)]
def RtN (μ : Wk) (w : Wd) (nL : Nat) (κ : Kx) (cc : ByteArray) (P : Hp → Prop) : Prop := ∀ (τ : Hp) (lo : List (Option Value)) (pc : Nat), P τ → decode cc pc = .ok (.return_, 1) → V μ w nL κ τ lo pc []
theorem CtI.ofV {y : MethodName} {ty : FieldType} {As : List Value} {P : Int32 → Hp → Prop} {C : String} (hE : ExtOk μ) (hy : plainName y.cls = true) (hcl : y.cls = C) (hlo : asl 0 lo = lv_args 0 As) (hlen : Nat.ble (lg_sl As).length nL = true)
    (body : ∀ κ : Kx, Cx μ w nL κ C cc d → RtI μ w nL κ cc ty P → V μ w nL κ σ lo 0 []) : CtI μ w y cc nL (some ty) d As σ P :=
  Ct.ofV hE hy hcl hlo hlen (fun κ hC hR => body κ hC (fun τ lo pc x hp hn hd => hR τ lo pc (some (.int x)) ⟨x, rfl, hp⟩ (Or.inr (Or.inl ⟨x, ty, rfl, rfl, hn, hd⟩))))
theorem CtL.ofV {y : MethodName} {As : List Value} {P : Int64 → Hp → Prop} {C : String} (hE : ExtOk μ) (hy : plainName y.cls = true) (hcl : y.cls = C) (hlo : asl 0 lo = lv_args 0 As) (hlen : Nat.ble (lg_sl As).length nL = true)
    (body : ∀ κ : Kx, Cx μ w nL κ C cc d → RtL μ w nL κ cc P → V μ w nL κ σ lo 0 []) : CtL μ w y cc nL (some .long) d As σ P :=
  Ct.ofV hE hy hcl hlo hlen (fun κ hC hR => body κ hC (fun τ lo pc x hp hd => hR τ lo pc (some (.long x)) ⟨x, rfl, hp⟩ (Or.inr (Or.inr (Or.inl ⟨x, rfl, rfl, hd⟩)))))
theorem CtR.ofV {y : MethodName} {nm : String} {As : List Value} {P : Nat → Hp → Prop} {C : String} (hE : ExtOk μ) (hy : plainName y.cls = true) (hcl : y.cls = C) (hlo : asl 0 lo = lv_args 0 As) (hlen : Nat.ble (lg_sl As).length nL = true)
    (body : ∀ κ : Kx, Cx μ w nL κ C cc d → RtR μ w nL κ cc P → V μ w nL κ σ lo 0 []) : CtR μ w y cc nL (some (.object nm)) d As σ P :=
  Ct.ofV hE hy hcl hlo hlen (fun κ hC hR => body κ hC (fun τ lo pc x hp hd => hR τ lo pc (some (.ref (w.1 x))) ⟨x, rfl, hp⟩ (Or.inr (Or.inr (Or.inr ⟨w.1 x, nm, rfl, rfl, hd⟩)))))
theorem CtN.ofV {y : MethodName} {As : List Value} {P : Hp → Prop} {C : String} (hE : ExtOk μ) (hy : plainName y.cls = true) (hcl : y.cls = C) (hlo : asl 0 lo = lv_args 0 As) (hlen : Nat.ble (lg_sl As).length nL = true)
    (body : ∀ κ : Kx, Cx μ w nL κ C cc d → RtN μ w nL κ cc P → V μ w nL κ σ lo 0 []) : CtN μ w y cc nL none d As σ P :=
  Ct.ofV hE hy hcl hlo hlen (fun κ hC hR => body κ hC (fun τ lo pc hp hd => hR τ lo pc none ⟨rfl, hp⟩ (Or.inl ⟨rfl, rfl, hd⟩)))
end RULES2
/-! the two worlds -/
def shC : List Shp := [.inl (7, [.inr 1, .inr 2, .inr 3, .inr 4, .inr 5, .inr 6, .inr 7, .inr 8, .inr 9, .inl 9]), .inl (6, [.inr 14, .inl 1, .inr 50, .inl 3]), .inl (6, [.inr 15, .inl 1, .inr 51, .inl 3]), .inl (1, [.inr 4, .inr 5, .inr 16, .inr 17, .inr 18, .inr 19, .inr 20]), .inl (5, [.inr 21, .inr 22, .inr 23, .inr 24, .inr 25, .inr 26, .inl 6, .inl 7]), .inl (2, [.inr 27, .inr 28, .inr 29, .inr 30, .inr 31, .inr 32, .inl 6, .inl 7]), .inl (3, [.inr 33, .inr 34, .inr 35, .inl 3]), .inl (0, [.inr 36, .inr 37, .inl 2]), .inr (12, 4), .inr (0, 12), .inl (4, [.inr 38, .inl 1, .inl 2]), .inl (4, [.inr 39, .inl 1, .inl 2]), .inl (4, [.inr 40, .inl 1, .inl 2]), .inl (4, [.inr 41, .inl 1, .inl 2]), .inr (0, 39), .inr (0, 17), .inr (0, 8), .inr (0, 12), .inr (0, 8), .inr (0, 256), .inr (0, 256), .inr (0, 8), .inr (0, 8), .inr (0, 8), .inr (0, 8), .inr (0, 3), .inr (0, 7), .inr (0, 12), .inr (0, 12), .inr (0, 12), .inr (0, 8), .inr (0, 8), .inr (0, 8), .inr (0, 8), .inr (0, 8), .inr (0, 8), .inr (0, 12), .inr (0, 12), .inr (0, 60), .inr (0, 60), .inr (0, 60), .inr (0, 60)]
def shR : List Shp := [.inl (8, [.inr 1, .inr 2, .inl 2, .inr 3, .inr 4, .inr 5, .inr 6, .inl 7, .inr 7, .inr 8, .inl 10, .inr 9, .inr 10, .inr 11, .inl 14, .inr 12, .inr 13, .inl 17, .inr 14, .inr 15, .inr 16, .inr 17, .inr 18, .inr 19, .inl 24, .inr 20, .inr 21, .inr 22, .inr 23, .inr 24, .inr 25, .inr 26, .inr 27, .inr 28, .inl 34]), .inr (0, 2), .inr (0, 78), .inr (0, 9), .inr (0, 9), .inr (0, 9), .inr (0, 9), .inr (0, 3), .inr (0, 7), .inr (0, 12), .inr (0, 12), .inr (0, 12), .inr (0, 8), .inr (0, 8), .inr (1, 240), .inr (0, 64), .inr (0, 64), .inr (0, 8), .inr (0, 256), .inr (0, 2), .inr (0, 8), .inr (0, 8), .inr (0, 8), .inr (0, 96), .inr (1, 4), .inr (0, 4), .inr (0, 4), .inr (0, 240), .inr (0, 60)]
def strB (o j : Nat) : Int32 := ((if o = 50 then [99, 109, 104, 111] else [99, 109, 104] : List Int32)).getD j 0
def strN (o : Nat) : Nat := if o = 50 then 4 else 3
def dgD (j : Nat) : Int32 := ([0, 5, 29] : List Int32).getD j 0
/-- outside the class's world: the nest mate's link, the two text constants, the row of days -/
def ExC (w : Wd) (A : Nat → Prop) (U : State) (H : Heap) : Prop :=
  va_Nw (.methodLinkNest "SoundPaid$Street" 61 ⟨"SoundPaid", "isKind", "(I)Z"⟩ "SoundPaid") U ∧ va_Z "java/lang/String" "COMPACT_STRINGS" "Z" (.int 1) A U H ∧
  vk_S 2 [4, 3] [[99, 109, 104, 111], [99, 109, 104]] (fun i => w.1 (50 + i)) (fun i => w.1 (52 + i)) A U H ∧
  va_Z "SoundPaid" "DIGEST_DAYS" "[I" (.ref (w.1 54)) A U H ∧ va_T .int (w.1 54) 3 (fun j => .int (dgD j)) A U H
abbrev μC : Wk := (shC, ExC)
abbrev μR : Wk := (shR, fun _ _ _ _ => True)
theorem exR : ExtOk μR := fun _ _ _ _ _ _ _ => trivial
theorem exC : ExtOk μC := by
  intro w A s U hW hq hx
  obtain ⟨h1, h2, h3, h4, h5⟩ := hx
  exact ⟨va_Nw.warmM hW h1, va_Z.moved hW.alike (h2.kept hq), vk_S.moved hW.alike (h3.kept hq), va_Z.moved hW.alike (h4.kept hq), va_T.moved hW.alike (h5.kept hq)⟩
def isT (o : Nat) : Prop := o = 1 ∨ o = 2
def isS (o : Nat) : Prop := o = 10 ∨ o = 11 ∨ o = 12 ∨ o = 13
def isN (o : Nat) : Prop := o = 50 ∨ o = 51
def tlen (o : Nat) : Nat := if o = 1 then 39 else 17
theorem shT {o : Nat} (h : isT o) : μC.1[o]? = some (.inl (6, [.inr (o + 13), .inl 1, .inr (o + 49), .inl 3])) := by rcases h with rfl | rfl <;> rfl
theorem shTA {o : Nat} (h : isT o) : μC.1[o + 13]? = some (.inr (0, tlen o)) := by rcases h with rfl | rfl <;> rfl
theorem shS {o : Nat} (h : isS o) : μC.1[o]? = some (.inl (4, [.inr (o + 28), .inl 1, .inl 2])) := by rcases h with rfl | rfl | rfl | rfl <;> rfl
theorem shSA {o : Nat} (h : isS o) : μC.1[o + 28]? = some (.inr (0, 60)) := by rcases h with rfl | rfl | rfl | rfl <;> rfl
theorem exNest (w : Wd) : ∀ A U H, μC.2 w A U H → va_Nw (.methodLinkNest "SoundPaid$Street" 61 ⟨"SoundPaid", "isKind", "(I)Z"⟩ "SoundPaid") U := fun _ _ _ h => h.1
theorem exComp (w : Wd) : ∀ A U H, μC.2 w A U H → va_Z "java/lang/String" "COMPACT_STRINGS" "Z" (.int 1) A U H := fun _ _ _ h => h.2.1
theorem exDays (w : Wd) : ∀ A U H, μC.2 w A U H → va_Z "SoundPaid" "DIGEST_DAYS" "[I" (.ref (w.1 54)) A U H := fun _ _ _ h => h.2.2.2.1
theorem exDayT (w : Wd) : ∀ A U H, μC.2 w A U H → va_T .int (w.1 54) 3 (fun j => .int (dgD j)) A U H := fun _ _ _ h => h.2.2.2.2
theorem exStr (w : Wd) {o : Nat} (h : isN o) : ∀ A U H, μC.2 w A U H → va_O "java/lang/String" (w.1 o) A U H ∧ va_OF "java/lang/String" "coder" "B" (.int 0) (w.1 o) A U H ∧ va_OF "java/lang/String" "value" "[B" (.ref (w.1 (o + 2))) (w.1 o) A U H ∧ va_T .byte (w.1 (o + 2)) (strN o) (fun j => .int (strB o j)) A U H := by
  intro A U H hx
  rcases h with rfl | rfl
  · exact hx.2.2.1.1 0 (by decide)
  · exact hx.2.2.1.1 1 (by decide)
def isV (o : Nat) : Prop := o = 52 ∨ o = 53
theorem exStrV (w : Wd) {o : Nat} (h : isV o) : ∀ A U H, μC.2 w A U H → va_T .byte (w.1 o) (strN (o - 2)) (fun j => .int (strB (o - 2) j)) A U H := by
  intro A U H hx
  rcases h with rfl | rfl
  · exact (exStr w (o := 50) (Or.inl rfl) A U H hx).2.2.2
  · exact (exStr w (o := 51) (Or.inr rfl) A U H hx).2.2.2
theorem isN_T {o : Nat} (h : isT o) : isN (o + 49) := by rcases h with rfl | rfl <;> first | exact Or.inl rfl | exact Or.inr rfl
theorem sw_cases (x : Int32) (n : Nat) : (x.toInt < 0 ∨ (n : Int) < x.toInt) ∨ ∃ k : Nat, k ≤ n ∧ x = nI k := by
  by_cases h : x.toInt < 0
  · exact Or.inl (Or.inl h)
  · by_cases h2 : (n : Int) < x.toInt
    · exact Or.inl (Or.inr h2)
    · right
      refine ⟨x.toInt.toNat, by omega, ?_⟩
      apply Int32.toInt_inj.mp
      have hb := Int32.toInt_lt x
      rw [nI_toInt (by omega)]
      omega

section MM
variable {μ : Wk} {w : Wd} {nL : Nat} {κ : Kx} {σ : Hp} {lo : List (Option Value)} {pc : Nat} {r : List Value} {own : String} {cc : ByteArray} {d : Nat}
theorem V.mmax (hC : Cx μ w nL κ own cc d) {i : Nat} {x y : Int32} (hd : decode cc pc = .ok (.invokestatic i, 3)) (hw : Cond.methodLink own i Lib.Math.max.name ∈ tbl) (hst : Cond.static Lib.Math.max.name ∈ tbl) (hini : Cond.initialized "java/lang/Math" ∈ tbl) (hco : Cond.code Lib.Math.max.name Lib.Math.max.code 2 (some .int) ∈ tbl) (hroom : Nat.ble 1 d = true) (hW : Nat.ble ((r.map fun v => v.category).sum + 13) 64 = true) (k : V μ w nL κ σ lo (pc + 3) (.int (if x < y then y else x) :: r)) : V μ w nL κ σ lo pc (.int y :: .int x :: r) := by
  obtain ⟨p, l, e, R, s, m, args, below, meth, c, Q, kc, ks⟩ := κ
  have hR := Nat.le_of_ble_eq_true hroom
  have hL := Nat.le_of_ble_eq_true hW
  intro H locs ls hP hS hl
  obtain ⟨hx, hb, hml, hown, hts, hK, hI, hX, hf, hlo, hkc, hks⟩ := id hC
  exact va_mmax hx hb (by rw [hml]; exact hl.1.symm) hown (hts _ hw) (hts _ hst) (hts _ hini) (hts _ hco) (Nat.le_trans hR hf) (Nat.le_trans hL (Nat.le_trans (by omega) hlo)) hkc hks hd (k H locs ls hP hS hl)
theorem V.mmin (hC : Cx μ w nL κ own cc d) {i : Nat} {x y : Int32} (hd : decode cc pc = .ok (.invokestatic i, 3)) (hw : Cond.methodLink own i Lib.Math.min.name ∈ tbl) (hst : Cond.static Lib.Math.min.name ∈ tbl) (hini : Cond.initialized "java/lang/Math" ∈ tbl) (hco : Cond.code Lib.Math.min.name Lib.Math.min.code 2 (some .int) ∈ tbl) (hroom : Nat.ble 1 d = true) (hW : Nat.ble ((r.map fun v => v.category).sum + 13) 64 = true) (k : V μ w nL κ σ lo (pc + 3) (.int (if y < x then y else x) :: r)) : V μ w nL κ σ lo pc (.int y :: .int x :: r) := by
  obtain ⟨p, l, e, R, s, m, args, below, meth, c, Q, kc, ks⟩ := κ
  have hR := Nat.le_of_ble_eq_true hroom
  have hL := Nat.le_of_ble_eq_true hW
  intro H locs ls hP hS hl
  obtain ⟨hx, hb, hml, hown, hts, hK, hI, hX, hf, hlo, hkc, hks⟩ := id hC
  exact va_mmin hx hb (by rw [hml]; exact hl.1.symm) hown (hts _ hw) (hts _ hst) (hts _ hini) (hts _ hco) (Nat.le_trans hR hf) (Nat.le_trans hL (Nat.le_trans (by omega) hlo)) hkc hks hd (k H locs ls hP hS hl)
end MM
theorem qmax_s : Cond.static Lib.Math.max.name ∈ tbl := tbl_in 384 (by decide +kernel) rfl
theorem qmax_c : Cond.code Lib.Math.max.name Lib.Math.max.code 2 (some .int) ∈ tbl := tbl_in 385 (by decide +kernel) rfl
theorem qmin_s : Cond.static Lib.Math.min.name ∈ tbl := tbl_in 387 (by decide +kernel) rfl
theorem qmin_c : Cond.code Lib.Math.min.name Lib.Math.min.code 2 (some .int) ∈ tbl := tbl_in 388 (by decide +kernel) rfl
theorem qmath_i : Cond.initialized "java/lang/Math" ∈ tbl := tbl_in 73 (by decide +kernel) rfl

