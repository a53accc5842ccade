/-! THE CLAIM OUT OF ONE WALK OF THE LAW'S BODY. Your part is whole_start (and what it stands on); all else here is the same for every law, but numbers. -/
def R_law : String := "SoundPaidLaw"
def lw_P (b : Addr) (xs : List Int32) (args : Array Value) (s : State) : Prop := args = #[.ref b] ∧ s.IntsAt b xs ∧ xs.length ≤ 3072 ∧ (Jvm.Cond.and given_1 narrow_1).before args s = true
def lw_Q (_ : Array Value) (s : State) (o : Outcome) (t : State) : Prop := o = .returned (some (.int 1)) ∧ Framed s o t [] 600000 7302250
def lw_Z (below : List Frame) (a : Array Value) (s : State) : State → Prop := fun t => ∃ o, t.status = .running ∧ Ended t below o ∧ lw_Q a s o t
/-- the law's own end, with 1 on the stack, nothing written that was there before, its room as the claim has it -/
theorem lw_ret {p : Program} {l : Launch} {e : Env} {s : State} {m : MethodId} {below : List Frame} {meth : Method} {c : Code} {b : Nat} (hx : p.tables.exec = Jvm.exec) (hb : c.code = code) (hr : meth.sig.returnType = ret) (hlocks : meth.locks = false) {pc : Nat} {H : Heap} {ls : Array Slot} (hdg : decode code pc = .ok (.ireturn, 1)) : W p l e room_1 s m #[Value.ref b] below meth c H [] 600000 7302250 (lw_Z below #[Value.ref b] s) (F0 m pc ls [.int 1]) := by
  intro T hT X
  obtain ⟨fs, hret, hrun, hended, hW, hframe⟩ := X.leave (v := some (.int 1)) (hlocks := hlocks) (fun h => by rw [hr] at h; cases h)
  have hmeth' : T.vm.method? m = some meth := X.method'
  refine ⟨T.setFrames fs, ?_, .returned (some (.int 1)), hrun, hended, rfl, ⟨_, rfl⟩, hW, hframe⟩
  jvm_step X.here [X.here.top, hx, hb, hdg, hmeth', hr, ret, narrow_b1]
  (try refine ⟨rfl, ?_⟩); (try refine ⟨rfl, ?_⟩)
  first | (intro acts; rw [hret _ acts rfl rfl rfl]) | rw [hret _ _ rfl rfl rfl]
  exact Steps.refl _
/-- what holds at the law's entry: the machine, the code, the tables' words (any of lw_tbl by 'hts w (by decide +kernel)'), the script of L ints xs at the cell b, what the Statement gives of the start (any of its parts by flat_of_before) -/
def lw_At (p : Program) (s : State) (m : MethodId) (meth : Method) (c : Code) (b L : Nat) (xs : Nat → Int32) : Prop :=
  p.tables.exec = Jvm.exec ∧ c.code = code ∧ meth.sig.returnType = ret ∧ c.maxLocals = 4 ∧ s.vm.findClass R_law = some m.cls ∧ (∀ w ∈ lw_tbl, w.before #[Value.ref b] s = true) ∧ va_X b L xs s s.heap ∧ b < s.heap.size ∧ meth.locks = false ∧ (Jvm.Cond.and given_1 narrow_1).before #[Value.ref b] s = true
theorem va_P_q {D : va_G} {cl : List vw_C} {ws : va_W} {H : Heap} {k a n : Nat} {cA : ClassId} {f : Nat → Option Nat} (g : Nat → Option Nat) (h : va_P D cl ws H) (hk : ws[k]? = some (a, .inl (cA, n, .inr (.inr (.inr (.inr f)))))) (hfg : ∀ j, j < n → f j = g j) : va_P D cl (ws.set k (a, .inl (cA, n, .inr (.inr (.inr (.inr g)))))) H := by
  intro i q hq
  rw [List.getElem?_set] at hq
  by_cases hi : k = i
  · subst hi
    have hl := (List.getElem?_eq_some_iff.mp hk).1
    rw [if_pos rfl, if_pos hl] at hq
    cases hq
    have h1 := h k _ hk
    show H[a]? = some (vp_cell cA (n, .inr (.inr (.inr (.inr g)))))
    rw [show H[a]? = some (vp_cell cA (n, .inr (.inr (.inr (.inr f))))) from h1]
    congr 1
    rw [vp_cell_q, vp_cell_q]
    unfold arrV
    congr 1
    apply Array.ext
    · simp
    · intro j h1 h2
      simp at h1 h2 ⊢
      rw [hfg j h1]
  · rw [if_neg hi] at hq
    exact h i q hq
theorem va_D_set {A : Nat → Prop} {ws : va_W} {k a : Nat} {e e' : va_E} (hD : va_D A ws) (hk : ws[k]? = some (a, e)) : va_D A (ws.set k (a, e')) := hD.set hk
theorem ql_L_7 : Cond.classLink "SoundPaidLaw" 7 nC7 ∈ tbl := tbl_in 80 (by decide +kernel) rfl
theorem ql_L_10 : Cond.classLink "SoundPaidLaw" 10 nC8 ∈ tbl := tbl_in 862 (by decide +kernel) rfl
theorem qm_L_9 : Cond.methodLink "SoundPaidLaw" 9 y_P_init ∈ tbl := tbl_in 82 (by decide +kernel) rfl
theorem qm_L_12 : Cond.methodLink "SoundPaidLaw" 12 y_R_init ∈ tbl := tbl_in 864 (by decide +kernel) rfl
set_option maxHeartbeats 8000000 in
set_option maxRecDepth 100000 in
/-- what stands outside, at the law's start -/
theorem start_ext {s : State} {b : Addr} (hts : ∀ w ∈ lw_tbl, w.before #[Value.ref b] s = true) (hgv : (Jvm.Cond.and given_1 narrow_1).before #[Value.ref b] s = true) : ∃ w : Wd, va_K w.2.2.2.2 classes (tysW w) s ∧ ExA w s ∧ ExC w (fun q => s.heap.size ≤ q) s s.heap := by
  obtain ⟨c0, i0, hn0⟩ := u_known (C := nC0) (T := fC0) (N := 3) (n := 3) hts (fun x hx => tbl_lw x (uC0 x hx)) (hts _ (List.mem_of_getElem? (i := 250) (by decide +kernel)))
  obtain ⟨c1, i1, hn1⟩ := u_known (C := nC1) (T := fC1) (N := 7) (n := 7) hts (fun x hx => tbl_lw x (uC1 x hx)) (hts _ (List.mem_of_getElem? (i := 113) (by decide +kernel)))
  obtain ⟨c2, i2, hn2⟩ := u_known (C := nC2) (T := fC2) (N := 8) (n := 8) hts (fun x hx => tbl_lw x (uC2 x hx)) (hts _ (List.mem_of_getElem? (i := 161) (by decide +kernel)))
  obtain ⟨c3, i3, hn3⟩ := u_known (C := nC3) (T := fC3) (N := 4) (n := 4) hts (fun x hx => tbl_lw x (uC3 x hx)) (hts _ (List.mem_of_getElem? (i := 230) (by decide +kernel)))
  obtain ⟨c4, i4, hn4⟩ := u_known (C := nC4) (T := fC4) (N := 3) (n := 3) hts (fun x hx => tbl_lw x (uC4 x hx)) (hts _ (List.mem_of_getElem? (i := 267) (by decide +kernel)))
  obtain ⟨c5, i5, hn5⟩ := u_known (C := nC5) (T := fC5) (N := 8) (n := 8) hts (fun x hx => tbl_lw x (uC5 x hx)) (hts _ (List.mem_of_getElem? (i := 119) (by decide +kernel)))
  obtain ⟨c6, i6, hn6⟩ := u_known (C := nC6) (T := fC6) (N := 4) (n := 4) hts (fun x hx => tbl_lw x (uC6 x hx)) (hts _ (List.mem_of_getElem? (i := 89) (by decide +kernel)))
  obtain ⟨c7, i7, hn7⟩ := u_known (C := nC7) (T := fC7) (N := 10) (n := 10) hts (fun x hx => tbl_lw x (uC7 x hx)) (hts _ (List.mem_of_getElem? (i := 81) (by decide +kernel)))
  obtain ⟨c8, i8, hn8⟩ := u_known (C := nC8) (T := fC8) (N := 35) (n := 35) hts (fun x hx => tbl_lw x (uC8 x hx)) (hts _ (List.mem_of_getElem? (i := 863) (by decide +kernel)))
  obtain ⟨dC, dI, hKc⟩ : ∃ (dC : Nat → ClassId) (dI : Nat → Nat → Nat), ∀ (k : Nat) (q : vw_C), classes[k]? = some q → u_Kn s q.1 q.2.1 q.2.2 (dC k) (dI k) := by
    refine ⟨fun k => if k = 0 then c0 else if k = 1 then c1 else if k = 2 then c2 else if k = 3 then c3 else if k = 4 then c4 else if k = 5 then c5 else if k = 6 then c6 else if k = 7 then c7 else c8, fun k => if k = 0 then i0 else if k = 1 then i1 else if k = 2 then i2 else if k = 3 then i3 else if k = 4 then i4 else if k = 5 then i5 else if k = 6 then i6 else if k = 7 then i7 else i8, ?_⟩
    intro k q hq
    match k, hq with
    | 0, hq => cases hq; exact hn0
    | 1, hq => cases hq; exact hn1
    | 2, hq => cases hq; exact hn2
    | 3, hq => cases hq; exact hn3
    | 4, hq => cases hq; exact hn4
    | 5, hq => cases hq; exact hn5
    | 6, hq => cases hq; exact hn6
    | 7, hq => cases hq; exact hn7
    | 8, hq => cases hq; exact hn8
    | k + 9, hq => simp [classes] at hq
  obtain ⟨cI, kI, compI, fI1, fI2, fI3⟩ := Cond.arrayClass_spec (hts _ (List.mem_of_getElem? (i := 110) (by decide +kernel)) : (Cond.arrayClass .int).before #[Value.ref b] s = true)
  obtain ⟨cZ, kZ, compZ, fZ1, fZ2, fZ3⟩ := Cond.arrayClass_spec (hts _ (List.mem_of_getElem? (i := 974) (by decide +kernel)) : (Cond.arrayClass .boolean).before #[Value.ref b] s = true)
  have hover : va_AO "SoundPaid$Sheet" s := va_AO.of (hts _ (List.mem_of_getElem? (i := 266) (by decide +kernel)))
  obtain ⟨compQ, cQ, kQ, fQ1, fQ2, fQ3, fQ4, fQ5⟩ := Cond.arrayOver_spec (va_AO.use (A := #[Value.ref b]) hover)
  have hs := flat_of_before _ hgv
  have hA : ∀ a : Nat, a < s.heap.size → ¬ (fun q => s.heap.size ≤ q) a := fun a h => Nat.not_le.mpr h
  obtain ⟨adK, adV, hstr, htm⟩ := vk_Sof (args := #[Value.ref b]) (s := s) (N := 2) (tm := fun i => if i = 0 then Term.string "SoundPaid" 11 else Term.string "SoundPaid" 20) (len := [4, 3]) (byt := [[99, 109, 104, 111], [99, 109, 104]]) (A := fun q => s.heap.size ≤ q)
    (fun i hi => by rcases (show i = 0 ∨ i = 1 by omega) with rfl | rfl <;> decide)
    (fun i hi => by rcases (show i = 0 ∨ i = 1 by omega) with rfl | rfl <;> exact hs _ (by decide +kernel))
    (fun i hi => by rcases (show i = 0 ∨ i = 1 by omega) with rfl | rfl <;> exact hs _ (by decide +kernel))
    (fun i hi => by rcases (show i = 0 ∨ i = 1 by omega) with rfl | rfl <;> exact hs _ (by decide +kernel))
    (fun i hi => by rcases (show i = 0 ∨ i = 1 by omega) with rfl | rfl <;> exact hs _ (by decide +kernel))
    (fun i hi j hj => by
      rcases (show i = 0 ∨ i = 1 by omega) with rfl | rfl
      · rcases (show j = 0 ∨ j = 1 ∨ j = 2 ∨ j = 3 by simp at hj; omega) with rfl | rfl | rfl | rfl <;> exact hs _ (by decide +kernel)
      · rcases (show j = 0 ∨ j = 1 ∨ j = 2 by simp at hj; omega) with rfl | rfl | rfl <;> exact hs _ (by decide +kernel))
    (fun i j hi hj hij => by
      rcases (show i = 0 ∨ i = 1 by omega) with rfl | rfl <;> rcases (show j = 0 ∨ j = 1 by omega) with rfl | rfl
      · exact absurd rfl hij
      · exact Or.inl (hs _ (by decide +kernel))
      · exact Or.inr (hs _ (by decide +kernel))
      · exact absurd rfl hij) hA
  obtain ⟨t, ht, hT⟩ := va_Tof (args := #[Value.ref b]) (s := s) (tm := Term.static "SoundPaid" "DIGEST_DAYS" "[I") (ty := .int) (N := 3) (f := fun j => .int (dgD j)) (A := fun q => s.heap.size ≤ q) (by decide) (hs _ (by decide +kernel)) (va_eqt (hs _ (by decide +kernel)))
    (fun j hj => by rcases (show j = 0 ∨ j = 1 ∨ j = 2 by omega) with rfl | rfl | rfl <;> exact va_eqt (hs _ (by decide +kernel))) hA
  refine ⟨(fun k => if k = 50 then adK 0 else if k = 51 then adK 1 else if k = 52 then adV 0 else if k = 53 then adV 1 else t, cI, cZ, cQ, (dC, dI)), ?_, ?_, ?_⟩
  · refine ⟨hKc, fun k q hk => ?_⟩
    match k, hk with
    | 0, hk => cases hk; exact ⟨fun N z => ⟨(fun k h => by cases h), kI, fI2, compI, fI3⟩, fI1⟩
    | 1, hk => cases hk; exact ⟨fun N z => ⟨(fun k h => by cases h), kZ, fZ2, compZ, fZ3⟩, fZ1⟩
    | 2, hk => cases hk; exact ⟨fun N z => ⟨(fun k h => by cases h), kQ, fQ3, compQ, fQ4⟩, kQ, compQ, fQ3, fQ4, fQ1, fQ5⟩
    | k + 3, hk => simp [tysW] at hk
  · exact ⟨⟨va_Nw.of rfl (hts _ (List.mem_of_getElem? (i := 114) (by decide +kernel))), va_Nw.of rfl (hts _ (List.mem_of_getElem? (i := 120) (by decide +kernel))), va_Nw.of rfl (hts _ (List.mem_of_getElem? (i := 162) (by decide +kernel)))⟩, ⟨va_Nw.of rfl (hts _ (List.mem_of_getElem? (i := 231) (by decide +kernel))), va_Nw.of rfl (hts _ (List.mem_of_getElem? (i := 251) (by decide +kernel))), va_Nw.of rfl (hts _ (List.mem_of_getElem? (i := 268) (by decide +kernel)))⟩, vk_R.of (A := #[Value.ref b]) (hts _ (List.mem_of_getElem? (i := 90) (by decide +kernel))) (htm 0 (by decide)), vk_R.of (A := #[Value.ref b]) (hts _ (List.mem_of_getElem? (i := 111) (by decide +kernel))) (htm 1 (by decide)), hover⟩
  · refine ⟨va_Nw.of rfl (hts _ (List.mem_of_getElem? (i := 457) (by decide +kernel))), va_Zof (hts _ (List.mem_of_getElem? (i := 368) (by decide +kernel))) (hts _ (List.mem_of_getElem? (i := 71) (by decide +kernel))) (va_eqt (hs _ (by decide +kernel))) hA, ?_, va_Zof (hts _ (List.mem_of_getElem? (i := 855) (by decide +kernel))) (hts _ (List.mem_of_getElem? (i := 62) (by decide +kernel))) ht hA, hT⟩
    refine ⟨fun i hi => ?_, fun i j hi hj e => ?_⟩
    · rcases (show i = 0 ∨ i = 1 by omega) with rfl | rfl
      · exact hstr.1 0 (by decide)
      · exact hstr.1 1 (by decide)
    · rcases (show i = 0 ∨ i = 1 by omega) with rfl | rfl <;> rcases (show j = 0 ∨ j = 1 by omega) with rfl | rfl
      · rfl
      · exact hstr.2 0 1 (by decide) (by decide) e
      · exact hstr.2 1 0 (by decide) (by decide) e
      · rfl
def adrC (qx : Nat) (qc : Nat → Nat) : Nat → Nat := fun k => ([qx, (qc 0), (qc 2), (qc 4), (qc 5), (qc 12), (qc 24), (qc 28), (qc 31), (qc 40), (qc 32), (qc 34), (qc 36), (qc 38), (qc 1), (qc 3), (qc 19), (qc 20), (qc 21), (qc 22), (qc 23), (qc 6), (qc 7), (qc 8), (qc 9), (qc 10), (qc 11), (qc 13), (qc 14), (qc 15), (qc 16), (qc 17), (qc 18), (qc 25), (qc 26), (qc 27), (qc 29), (qc 30), (qc 33), (qc 35), (qc 37), (qc 39)] : List Nat).getD k 0
def adrR (qy : Nat) (qr : Nat → Nat) : Nat → Nat := fun k => ([qy, (qr 0), (qr 1), (qr 2), (qr 3), (qr 4), (qr 5), (qr 6), (qr 7), (qr 8), (qr 9), (qr 10), (qr 11), (qr 12), (qr 13), (qr 14), (qr 15), (qr 16), (qr 17), (qr 18), (qr 19), (qr 20), (qr 21), (qr 22), (qr 23), (qr 24), (qr 25), (qr 26), (qr 27)] : List Nat).getD k 0
def wdC (w : Wd) (qx : Nat) (qc : Nat → Nat) : Wd := (fun k => if k < 42 then adrC qx qc k else w.1 k, w.2)
def wdR (w : Wd) (qy : Nat) (qr : Nat → Nat) : Wd := (adrR qy qr, w.2)
def plC (k : Nat) : Nat := ([0, 1, 3, 5, 6, 13, 25, 29, 32, 41, 33, 35, 37, 39, 2, 4, 20, 21, 22, 23, 24, 7, 8, 9, 10, 11, 12, 14, 15, 16, 17, 18, 19, 26, 27, 28, 30, 31, 34, 36, 38, 40] : List Nat).getD k 0
def wsAll (w : Wd) (qx qy : Nat) (qc qr : Nat → Nat) : va_W := [(qx, .inr (7, [.ref (qc 0), .ref (qc 2), .ref (qc 4), .ref (qc 5), .ref (qc 12), .ref (qc 24), .ref (qc 28), .ref (qc 31), .ref (qc 40), .int (0)])), ((qc 0), .inr (6, [.ref (qc 1), .int (5), .ref (w.1 50), .int 0])), ((qc 1), .inl (w.2.1, 39, .inl (fun _ => 0))), ((qc 2), .inr (6, [.ref (qc 3), .int (3), .ref (w.1 51), .int 0])), ((qc 3), .inl (w.2.1, 17, .inl (fun _ => 0))), ((qc 4), .inr (1, [.ref (qc 5), .ref (qc 12), .ref (qc 19), .ref (qc 20), .ref (qc 21), .ref (qc 22), .ref (qc 23)])), ((qc 5), .inr (5, [.ref (qc 6), .ref (qc 7), .ref (qc 8), .ref (qc 9), .ref (qc 10), .ref (qc 11), .int 0, .int 0])), ((qc 6), .inl (w.2.1, 8, .inl (fun _ => 0))), ((qc 7), .inl (w.2.1, 8, .inl (fun _ => 0))), ((qc 8), .inl (w.2.1, 8, .inl (fun _ => 0))), ((qc 9), .inl (w.2.1, 8, .inl (fun _ => 0))), ((qc 10), .inl (w.2.1, 3, .inl (fun _ => 0))), ((qc 11), .inl (w.2.1, 7, .inl (fun _ => 0))), ((qc 12), .inr (2, [.ref (qc 13), .ref (qc 14), .ref (qc 15), .ref (qc 16), .ref (qc 17), .ref (qc 18), .int 0, .int 0])), ((qc 13), .inl (w.2.1, 12, .inl (fun _ => 0))), ((qc 14), .inl (w.2.1, 12, .inl (fun _ => 0))), ((qc 15), .inl (w.2.1, 12, .inl (fun _ => 0))), ((qc 16), .inl (w.2.1, 8, .inl (fun _ => 0))), ((qc 17), .inl (w.2.1, 8, .inl (fun _ => 0))), ((qc 18), .inl (w.2.1, 8, .inl (fun _ => 0))), ((qc 19), .inl (w.2.1, 8, .inl (fun _ => 0))), ((qc 20), .inl (w.2.1, 12, .inl (fun _ => 0))), ((qc 21), .inl (w.2.1, 8, .inl (fun _ => 0))), ((qc 22), .inl (w.2.1, 256, .inl (fun _ => 0))), ((qc 23), .inl (w.2.1, 256, .inl (fun _ => 0))), ((qc 24), .inr (3, [.ref (qc 25), .ref (qc 26), .ref (qc 27), .int 0])), ((qc 25), .inl (w.2.1, 8, .inl (fun _ => 0))), ((qc 26), .inl (w.2.1, 8, .inl (fun _ => 0))), ((qc 27), .inl (w.2.1, 8, .inl (fun _ => 0))), ((qc 28), .inr (0, [.ref (qc 29), .ref (qc 30), .int 0])), ((qc 29), .inl (w.2.1, 12, .inl (fun _ => 0))), ((qc 30), .inl (w.2.1, 12, .inl (fun _ => 0))), ((qc 31), .inl (w.2.2.2.1, 4, .inr (.inr (.inr (.inr (fun i => some ((wdC w qx qc).1 (10 + i)))))))), ((qc 32), .inr (4, [.ref (qc 33), .int (-1), .int 0])), ((qc 33), .inl (w.2.1, 60, .inl (fun _ => 0))), ((qc 34), .inr (4, [.ref (qc 35), .int (-1), .int 0])), ((qc 35), .inl (w.2.1, 60, .inl (fun _ => 0))), ((qc 36), .inr (4, [.ref (qc 37), .int (-1), .int 0])), ((qc 37), .inl (w.2.1, 60, .inl (fun _ => 0))), ((qc 38), .inr (4, [.ref (qc 39), .int (-1), .int 0])), ((qc 39), .inl (w.2.1, 60, .inl (fun _ => 0))), ((qc 40), .inl (w.2.1, 12, .inl (fun _ => 0))), (qy, .inr (8, [.ref (qr 0), .ref (qr 1), .int 0, .ref (qr 2), .ref (qr 3), .ref (qr 4), .ref (qr 5), .int 0, .ref (qr 6), .ref (qr 7), .int 0, .ref (qr 8), .ref (qr 9), .ref (qr 10), .int 0, .ref (qr 11), .ref (qr 12), .int 0, .ref (qr 13), .ref (qr 14), .ref (qr 15), .ref (qr 16), .ref (qr 17), .ref (qr 18), .int 0, .ref (qr 19), .ref (qr 20), .ref (qr 21), .ref (qr 22), .ref (qr 23), .ref (qr 24), .ref (qr 25), .ref (qr 26), .ref (qr 27), .int 0])), ((qr 0), .inl (w.2.1, 2, .inl (fun _ => 0))), ((qr 1), .inl (w.2.1, 78, .inl (fun _ => 0))), ((qr 2), .inl (w.2.1, 9, .inl (fun _ => 0))), ((qr 3), .inl (w.2.1, 9, .inl (fun _ => 0))), ((qr 4), .inl (w.2.1, 9, .inl (fun _ => 0))), ((qr 5), .inl (w.2.1, 9, .inl (fun _ => 0))), ((qr 6), .inl (w.2.1, 3, .inl (fun _ => 0))), ((qr 7), .inl (w.2.1, 7, .inl (fun _ => 0))), ((qr 8), .inl (w.2.1, 12, .inl (fun _ => 0))), ((qr 9), .inl (w.2.1, 12, .inl (fun _ => 0))), ((qr 10), .inl (w.2.1, 12, .inl (fun _ => 0))), ((qr 11), .inl (w.2.1, 8, .inl (fun _ => 0))), ((qr 12), .inl (w.2.1, 8, .inl (fun _ => 0))), ((qr 13), .inl (w.2.2.1, 240, .inl (fun _ => 0))), ((qr 14), .inl (w.2.1, 64, .inl (fun _ => 0))), ((qr 15), .inl (w.2.1, 64, .inl (fun _ => 0))), ((qr 16), .inl (w.2.1, 8, .inl (fun _ => 0))), ((qr 17), .inl (w.2.1, 256, .inl (fun _ => 0))), ((qr 18), .inl (w.2.1, 2, .inl (fun _ => 0))), ((qr 19), .inl (w.2.1, 8, .inl (fun _ => 0))), ((qr 20), .inl (w.2.1, 8, .inl (fun _ => 0))), ((qr 21), .inl (w.2.1, 8, .inl (fun _ => 0))), ((qr 22), .inl (w.2.1, 96, .inl (fun _ => 0))), ((qr 23), .inl (w.2.2.1, 4, .inl (fun _ => 0))), ((qr 24), .inl (w.2.1, 4, .inl (fun _ => 0))), ((qr 25), .inl (w.2.1, 4, .inl (fun _ => 0))), ((qr 26), .inl (w.2.1, 240, .inl (fun _ => 0))), ((qr 27), .inl (w.2.1, 60, .inl (fun _ => 0)))]
theorem plC_inj : ∀ i, i < 42 → ∀ j, j < 42 → plC i = plC j → i = j := by decide +kernel
theorem plC_lt : ∀ i, i < 42 → plC i < 42 := by decide +kernel
set_option maxRecDepth 100000 in
set_option maxHeartbeats 8000000 in
theorem wsAll_C (w : Wd) (qx qy : Nat) (qc qr : Nat → Nat) : ∀ (i : Nat) (x : Shp), shC[i]? = some x → (wsAll w qx qy qc qr)[plC i]? = some ((wdC w qx qc).1 i, cel (wdC w qx qc) (σ0 i) x) := by
  intro i x hx
  match i, hx with
  | 0, hx => have e9 : (.inl (7, [.inr 1, .inr 2, .inr 3, .inr 4, .inr 5, .inr 6, .inr 7, .inr 8, .inr 9, .inl 9]) : Shp) = x := Option.some.inj hx; subst e9; rfl
  | 1, hx => have e9 : (.inl (6, [.inr 14, .inl 1, .inr 50, .inl 3]) : Shp) = x := Option.some.inj hx; subst e9; rfl
  | 2, hx => have e9 : (.inl (6, [.inr 15, .inl 1, .inr 51, .inl 3]) : Shp) = x := Option.some.inj hx; subst e9; rfl
  | 3, hx => have e9 : (.inl (1, [.inr 4, .inr 5, .inr 16, .inr 17, .inr 18, .inr 19, .inr 20]) : Shp) = x := Option.some.inj hx; subst e9; rfl
  | 4, hx => have e9 : (.inl (5, [.inr 21, .inr 22, .inr 23, .inr 24, .inr 25, .inr 26, .inl 6, .inl 7]) : Shp) = x := Option.some.inj hx; subst e9; rfl
  | 5, hx => have e9 : (.inl (2, [.inr 27, .inr 28, .inr 29, .inr 30, .inr 31, .inr 32, .inl 6, .inl 7]) : Shp) = x := Option.some.inj hx; subst e9; rfl
  | 6, hx => have e9 : (.inl (3, [.inr 33, .inr 34, .inr 35, .inl 3]) : Shp) = x := Option.some.inj hx; subst e9; rfl
  | 7, hx => have e9 : (.inl (0, [.inr 36, .inr 37, .inl 2]) : Shp) = x := Option.some.inj hx; subst e9; rfl
  | 8, hx => have e9 : (.inr (12, 4) : Shp) = x := Option.some.inj hx; subst e9; rfl
  | 9, hx => have e9 : (.inr (0, 12) : Shp) = x := Option.some.inj hx; subst e9; rfl
  | 10, hx => have e9 : (.inl (4, [.inr 38, .inl 1, .inl 2]) : Shp) = x := Option.some.inj hx; subst e9; rfl
  | 11, hx => have e9 : (.inl (4, [.inr 39, .inl 1, .inl 2]) : Shp) = x := Option.some.inj hx; subst e9; rfl
  | 12, hx => have e9 : (.inl (4, [.inr 40, .inl 1, .inl 2]) : Shp) = x := Option.some.inj hx; subst e9; rfl
  | 13, hx => have e9 : (.inl (4, [.inr 41, .inl 1, .inl 2]) : Shp) = x := Option.some.inj hx; subst e9; rfl
  | 14, hx => have e9 : (.inr (0, 39) : Shp) = x := Option.some.inj hx; subst e9; rfl
  | 15, hx => have e9 : (.inr (0, 17) : Shp) = x := Option.some.inj hx; subst e9; rfl
  | 16, hx => have e9 : (.inr (0, 8) : Shp) = x := Option.some.inj hx; subst e9; rfl
  | 17, hx => have e9 : (.inr (0, 12) : Shp) = x := Option.some.inj hx; subst e9; rfl
  | 18, hx => have e9 : (.inr (0, 8) : Shp) = x := Option.some.inj hx; subst e9; rfl
  | 19, hx => have e9 : (.inr (0, 256) : Shp) = x := Option.some.inj hx; subst e9; rfl
  | 20, hx => have e9 : (.inr (0, 256) : Shp) = x := Option.some.inj hx; subst e9; rfl
  | 21, hx => have e9 : (.inr (0, 8) : Shp) = x := Option.some.inj hx; subst e9; rfl
  | 22, hx => have e9 : (.inr (0, 8) : Shp) = x := Option.some.inj hx; subst e9; rfl
  | 23, hx => have e9 : (.inr (0, 8) : Shp) = x := Option.some.inj hx; subst e9; rfl
  | 24, hx => have e9 : (.inr (0, 8) : Shp) = x := Option.some.inj hx; subst e9; rfl
  | 25, hx => have e9 : (.inr (0, 3) : Shp) = x := Option.some.inj hx; subst e9; rfl
  | 26, hx => have e9 : (.inr (0, 7) : Shp) = x := Option.some.inj hx; subst e9; rfl
  | 27, hx => have e9 : (.inr (0, 12) : Shp) = x := Option.some.inj hx; subst e9; rfl
  | 28, hx => have e9 : (.inr (0, 12) : Shp) = x := Option.some.inj hx; subst e9; rfl
  | 29, hx => have e9 : (.inr (0, 12) : Shp) = x := Option.some.inj hx; subst e9; rfl
  | 30, hx => have e9 : (.inr (0, 8) : Shp) = x := Option.some.inj hx; subst e9; rfl
  | 31, hx => have e9 : (.inr (0, 8) : Shp) = x := Option.some.inj hx; subst e9; rfl
  | 32, hx => have e9 : (.inr (0, 8) : Shp) = x := Option.some.inj hx; subst e9; rfl
  | 33, hx => have e9 : (.inr (0, 8) : Shp) = x := Option.some.inj hx; subst e9; rfl
  | 34, hx => have e9 : (.inr (0, 8) : Shp) = x := Option.some.inj hx; subst e9; rfl
  | 35, hx => have e9 : (.inr (0, 8) : Shp) = x := Option.some.inj hx; subst e9; rfl
  | 36, hx => have e9 : (.inr (0, 12) : Shp) = x := Option.some.inj hx; subst e9; rfl
  | 37, hx => have e9 : (.inr (0, 12) : Shp) = x := Option.some.inj hx; subst e9; rfl
  | 38, hx => have e9 : (.inr (0, 60) : Shp) = x := Option.some.inj hx; subst e9; rfl
  | 39, hx => have e9 : (.inr (0, 60) : Shp) = x := Option.some.inj hx; subst e9; rfl
  | 40, hx => have e9 : (.inr (0, 60) : Shp) = x := Option.some.inj hx; subst e9; rfl
  | 41, hx => have e9 : (.inr (0, 60) : Shp) = x := Option.some.inj hx; subst e9; rfl
  | n + 42, hx => have h9 := (List.getElem?_eq_some_iff.mp hx).1; have h8 : shC.length = 42 := rfl; omega
set_option maxRecDepth 100000 in
set_option maxHeartbeats 8000000 in
theorem wsAll_R (w : Wd) (qx qy : Nat) (qc qr : Nat → Nat) : ∀ (i : Nat) (x : Shp), shR[i]? = some x → (wsAll w qx qy qc qr)[42 + i]? = some ((wdR w qy qr).1 i, cel (wdR w qy qr) (τ0 i) x) := by
  intro i x hx
  match i, hx with
  | 0, hx => have e9 : (.inl (8, [.inr 1, .inr 2, .inl 2, .inr 3, .inr 4, .inr 5, .inr 6, .inl 7, .inr 7, .inr 8, .inl 10, .inr 9, .inr 10, .inr 11, .inl 14, .inr 12, .inr 13, .inl 17, .inr 14, .inr 15, .inr 16, .inr 17, .inr 18, .inr 19, .inl 24, .inr 20, .inr 21, .inr 22, .inr 23, .inr 24, .inr 25, .inr 26, .inr 27, .inr 28, .inl 34]) : Shp) = x := Option.some.inj hx; subst e9; rfl
  | 1, hx => have e9 : (.inr (0, 2) : Shp) = x := Option.some.inj hx; subst e9; rfl
  | 2, hx => have e9 : (.inr (0, 78) : Shp) = x := Option.some.inj hx; subst e9; rfl
  | 3, hx => have e9 : (.inr (0, 9) : Shp) = x := Option.some.inj hx; subst e9; rfl
  | 4, hx => have e9 : (.inr (0, 9) : Shp) = x := Option.some.inj hx; subst e9; rfl
  | 5, hx => have e9 : (.inr (0, 9) : Shp) = x := Option.some.inj hx; subst e9; rfl
  | 6, hx => have e9 : (.inr (0, 9) : Shp) = x := Option.some.inj hx; subst e9; rfl
  | 7, hx => have e9 : (.inr (0, 3) : Shp) = x := Option.some.inj hx; subst e9; rfl
  | 8, hx => have e9 : (.inr (0, 7) : Shp) = x := Option.some.inj hx; subst e9; rfl
  | 9, hx => have e9 : (.inr (0, 12) : Shp) = x := Option.some.inj hx; subst e9; rfl
  | 10, hx => have e9 : (.inr (0, 12) : Shp) = x := Option.some.inj hx; subst e9; rfl
  | 11, hx => have e9 : (.inr (0, 12) : Shp) = x := Option.some.inj hx; subst e9; rfl
  | 12, hx => have e9 : (.inr (0, 8) : Shp) = x := Option.some.inj hx; subst e9; rfl
  | 13, hx => have e9 : (.inr (0, 8) : Shp) = x := Option.some.inj hx; subst e9; rfl
  | 14, hx => have e9 : (.inr (1, 240) : Shp) = x := Option.some.inj hx; subst e9; rfl
  | 15, hx => have e9 : (.inr (0, 64) : Shp) = x := Option.some.inj hx; subst e9; rfl
  | 16, hx => have e9 : (.inr (0, 64) : Shp) = x := Option.some.inj hx; subst e9; rfl
  | 17, hx => have e9 : (.inr (0, 8) : Shp) = x := Option.some.inj hx; subst e9; rfl
  | 18, hx => have e9 : (.inr (0, 256) : Shp) = x := Option.some.inj hx; subst e9; rfl
  | 19, hx => have e9 : (.inr (0, 2) : Shp) = x := Option.some.inj hx; subst e9; rfl
  | 20, hx => have e9 : (.inr (0, 8) : Shp) = x := Option.some.inj hx; subst e9; rfl
  | 21, hx => have e9 : (.inr (0, 8) : Shp) = x := Option.some.inj hx; subst e9; rfl
  | 22, hx => have e9 : (.inr (0, 8) : Shp) = x := Option.some.inj hx; subst e9; rfl
  | 23, hx => have e9 : (.inr (0, 96) : Shp) = x := Option.some.inj hx; subst e9; rfl
  | 24, hx => have e9 : (.inr (1, 4) : Shp) = x := Option.some.inj hx; subst e9; rfl
  | 25, hx => have e9 : (.inr (0, 4) : Shp) = x := Option.some.inj hx; subst e9; rfl
  | 26, hx => have e9 : (.inr (0, 4) : Shp) = x := Option.some.inj hx; subst e9; rfl
  | 27, hx => have e9 : (.inr (0, 240) : Shp) = x := Option.some.inj hx; subst e9; rfl
  | 28, hx => have e9 : (.inr (0, 60) : Shp) = x := Option.some.inj hx; subst e9; rfl
  | n + 29, hx => have h9 := (List.getElem?_eq_some_iff.mp hx).1; have h8 : shR.length = 29 := rfl; omega
theorem cels_spec {sh : List Shp} {u : Wd} {ρ : Hp} {k : Nat} {q : Nat × va_E} (h : (cels sh u ρ)[k]? = some q) : ∃ x, sh[k]? = some x ∧ q = (u.1 k, cel u (ρ k) x) := by
  simp only [cels, List.getElem?_mapIdx, Option.map_eq_some_iff] at h
  obtain ⟨x, h1, h2⟩ := h
  exact ⟨x, h1, h2.symm⟩
set_option maxHeartbeats 8000000 in
set_option maxRecDepth 100000 in
/-- behind both constructors -/
theorem start_go {p : Program} {e : Env} {s : State} {m : MethodId} {below : List Frame} {meth : Method} {c : Code} (l : Launch) {b L : Nat} {xs : Nat → Int32} (hL : L ≤ 3072) (C0 : lw_At p s m meth c b L xs) (w : Wd) (hX : ExC w (fun q => s.heap.size ≤ q) s s.heap) (hK : va_K w.2.2.2.2 classes (tysW w) s) (qx qy : Nat) (qc qr : Nat → Nat) : ∀ (H : Heap) (locs : List Loc) (ls : Array Slot), va_P w.2.2.2.2 classes ([(qx, .inr (7, [.ref (qc 0), .ref (qc 2), .ref (qc 4), .ref (qc 5), .ref (qc 12), .ref (qc 24), .ref (qc 28), .ref (qc 31), .ref (qc 40), .int (0)])), ((qc 0), .inr (6, [.ref (qc 1), .int (5), .ref (w.1 50), .int 0])), ((qc 1), .inl (w.2.1, 39, .inl (fun _ => 0))), ((qc 2), .inr (6, [.ref (qc 3), .int (3), .ref (w.1 51), .int 0])), ((qc 3), .inl (w.2.1, 17, .inl (fun _ => 0))), ((qc 4), .inr (1, [.ref (qc 5), .ref (qc 12), .ref (qc 19), .ref (qc 20), .ref (qc 21), .ref (qc 22), .ref (qc 23)])), ((qc 5), .inr (5, [.ref (qc 6), .ref (qc 7), .ref (qc 8), .ref (qc 9), .ref (qc 10), .ref (qc 11), .int 0, .int 0])), ((qc 6), .inl (w.2.1, 8, .inl (fun _ => 0))), ((qc 7), .inl (w.2.1, 8, .inl (fun _ => 0))), ((qc 8), .inl (w.2.1, 8, .inl (fun _ => 0))), ((qc 9), .inl (w.2.1, 8, .inl (fun _ => 0))), ((qc 10), .inl (w.2.1, 3, .inl (fun _ => 0))), ((qc 11), .inl (w.2.1, 7, .inl (fun _ => 0))), ((qc 12), .inr (2, [.ref (qc 13), .ref (qc 14), .ref (qc 15), .ref (qc 16), .ref (qc 17), .ref (qc 18), .int 0, .int 0])), ((qc 13), .inl (w.2.1, 12, .inl (fun _ => 0))), ((qc 14), .inl (w.2.1, 12, .inl (fun _ => 0))), ((qc 15), .inl (w.2.1, 12, .inl (fun _ => 0))), ((qc 16), .inl (w.2.1, 8, .inl (fun _ => 0))), ((qc 17), .inl (w.2.1, 8, .inl (fun _ => 0))), ((qc 18), .inl (w.2.1, 8, .inl (fun _ => 0))), ((qc 19), .inl (w.2.1, 8, .inl (fun _ => 0))), ((qc 20), .inl (w.2.1, 12, .inl (fun _ => 0))), ((qc 21), .inl (w.2.1, 8, .inl (fun _ => 0))), ((qc 22), .inl (w.2.1, 256, .inl (fun _ => 0))), ((qc 23), .inl (w.2.1, 256, .inl (fun _ => 0))), ((qc 24), .inr (3, [.ref (qc 25), .ref (qc 26), .ref (qc 27), .int 0])), ((qc 25), .inl (w.2.1, 8, .inl (fun _ => 0))), ((qc 26), .inl (w.2.1, 8, .inl (fun _ => 0))), ((qc 27), .inl (w.2.1, 8, .inl (fun _ => 0))), ((qc 28), .inr (0, [.ref (qc 29), .ref (qc 30), .int 0])), ((qc 29), .inl (w.2.1, 12, .inl (fun _ => 0))), ((qc 30), .inl (w.2.1, 12, .inl (fun _ => 0))), ((qc 31), .inl (w.2.2.2.1, 4, .inr (.inr (.inr (.inr (va_up (va_up (va_up (va_up (fun _ => none) 0 (some (qc 32))) 1 (some (qc 34))) 2 (some (qc 36))) 3 (some (qc 38)))))))), ((qc 32), .inr (4, [.ref (qc 33), .int (-1), .int 0])), ((qc 33), .inl (w.2.1, 60, .inl (fun _ => 0))), ((qc 34), .inr (4, [.ref (qc 35), .int (-1), .int 0])), ((qc 35), .inl (w.2.1, 60, .inl (fun _ => 0))), ((qc 36), .inr (4, [.ref (qc 37), .int (-1), .int 0])), ((qc 37), .inl (w.2.1, 60, .inl (fun _ => 0))), ((qc 38), .inr (4, [.ref (qc 39), .int (-1), .int 0])), ((qc 39), .inl (w.2.1, 60, .inl (fun _ => 0))), ((qc 40), .inl (w.2.1, 12, .inl (fun _ => 0)))] ++ [(qy, .inr (8, [.ref (qr 0), .ref (qr 1), .int 0, .ref (qr 2), .ref (qr 3), .ref (qr 4), .ref (qr 5), .int 0, .ref (qr 6), .ref (qr 7), .int 0, .ref (qr 8), .ref (qr 9), .ref (qr 10), .int 0, .ref (qr 11), .ref (qr 12), .int 0, .ref (qr 13), .ref (qr 14), .ref (qr 15), .ref (qr 16), .ref (qr 17), .ref (qr 18), .int 0, .ref (qr 19), .ref (qr 20), .ref (qr 21), .ref (qr 22), .ref (qr 23), .ref (qr 24), .ref (qr 25), .ref (qr 26), .ref (qr 27), .int 0])), ((qr 0), .inl (w.2.1, 2, .inl (fun _ => 0))), ((qr 1), .inl (w.2.1, 78, .inl (fun _ => 0))), ((qr 2), .inl (w.2.1, 9, .inl (fun _ => 0))), ((qr 3), .inl (w.2.1, 9, .inl (fun _ => 0))), ((qr 4), .inl (w.2.1, 9, .inl (fun _ => 0))), ((qr 5), .inl (w.2.1, 9, .inl (fun _ => 0))), ((qr 6), .inl (w.2.1, 3, .inl (fun _ => 0))), ((qr 7), .inl (w.2.1, 7, .inl (fun _ => 0))), ((qr 8), .inl (w.2.1, 12, .inl (fun _ => 0))), ((qr 9), .inl (w.2.1, 12, .inl (fun _ => 0))), ((qr 10), .inl (w.2.1, 12, .inl (fun _ => 0))), ((qr 11), .inl (w.2.1, 8, .inl (fun _ => 0))), ((qr 12), .inl (w.2.1, 8, .inl (fun _ => 0))), ((qr 13), .inl (w.2.2.1, 240, .inl (fun _ => 0))), ((qr 14), .inl (w.2.1, 64, .inl (fun _ => 0))), ((qr 15), .inl (w.2.1, 64, .inl (fun _ => 0))), ((qr 16), .inl (w.2.1, 8, .inl (fun _ => 0))), ((qr 17), .inl (w.2.1, 256, .inl (fun _ => 0))), ((qr 18), .inl (w.2.1, 2, .inl (fun _ => 0))), ((qr 19), .inl (w.2.1, 8, .inl (fun _ => 0))), ((qr 20), .inl (w.2.1, 8, .inl (fun _ => 0))), ((qr 21), .inl (w.2.1, 8, .inl (fun _ => 0))), ((qr 22), .inl (w.2.1, 96, .inl (fun _ => 0))), ((qr 23), .inl (w.2.2.1, 4, .inl (fun _ => 0))), ((qr 24), .inl (w.2.1, 4, .inl (fun _ => 0))), ((qr 25), .inl (w.2.1, 4, .inl (fun _ => 0))), ((qr 26), .inl (w.2.1, 240, .inl (fun _ => 0))), ((qr 27), .inl (w.2.1, 60, .inl (fun _ => 0)))]) H → va_D (fun q => s.heap.size ≤ q) ([(qx, .inr (7, [.ref (qc 0), .ref (qc 2), .ref (qc 4), .ref (qc 5), .ref (qc 12), .ref (qc 24), .ref (qc 28), .ref (qc 31), .ref (qc 40), .int (0)])), ((qc 0), .inr (6, [.ref (qc 1), .int (5), .ref (w.1 50), .int 0])), ((qc 1), .inl (w.2.1, 39, .inl (fun _ => 0))), ((qc 2), .inr (6, [.ref (qc 3), .int (3), .ref (w.1 51), .int 0])), ((qc 3), .inl (w.2.1, 17, .inl (fun _ => 0))), ((qc 4), .inr (1, [.ref (qc 5), .ref (qc 12), .ref (qc 19), .ref (qc 20), .ref (qc 21), .ref (qc 22), .ref (qc 23)])), ((qc 5), .inr (5, [.ref (qc 6), .ref (qc 7), .ref (qc 8), .ref (qc 9), .ref (qc 10), .ref (qc 11), .int 0, .int 0])), ((qc 6), .inl (w.2.1, 8, .inl (fun _ => 0))), ((qc 7), .inl (w.2.1, 8, .inl (fun _ => 0))), ((qc 8), .inl (w.2.1, 8, .inl (fun _ => 0))), ((qc 9), .inl (w.2.1, 8, .inl (fun _ => 0))), ((qc 10), .inl (w.2.1, 3, .inl (fun _ => 0))), ((qc 11), .inl (w.2.1, 7, .inl (fun _ => 0))), ((qc 12), .inr (2, [.ref (qc 13), .ref (qc 14), .ref (qc 15), .ref (qc 16), .ref (qc 17), .ref (qc 18), .int 0, .int 0])), ((qc 13), .inl (w.2.1, 12, .inl (fun _ => 0))), ((qc 14), .inl (w.2.1, 12, .inl (fun _ => 0))), ((qc 15), .inl (w.2.1, 12, .inl (fun _ => 0))), ((qc 16), .inl (w.2.1, 8, .inl (fun _ => 0))), ((qc 17), .inl (w.2.1, 8, .inl (fun _ => 0))), ((qc 18), .inl (w.2.1, 8, .inl (fun _ => 0))), ((qc 19), .inl (w.2.1, 8, .inl (fun _ => 0))), ((qc 20), .inl (w.2.1, 12, .inl (fun _ => 0))), ((qc 21), .inl (w.2.1, 8, .inl (fun _ => 0))), ((qc 22), .inl (w.2.1, 256, .inl (fun _ => 0))), ((qc 23), .inl (w.2.1, 256, .inl (fun _ => 0))), ((qc 24), .inr (3, [.ref (qc 25), .ref (qc 26), .ref (qc 27), .int 0])), ((qc 25), .inl (w.2.1, 8, .inl (fun _ => 0))), ((qc 26), .inl (w.2.1, 8, .inl (fun _ => 0))), ((qc 27), .inl (w.2.1, 8, .inl (fun _ => 0))), ((qc 28), .inr (0, [.ref (qc 29), .ref (qc 30), .int 0])), ((qc 29), .inl (w.2.1, 12, .inl (fun _ => 0))), ((qc 30), .inl (w.2.1, 12, .inl (fun _ => 0))), ((qc 31), .inl (w.2.2.2.1, 4, .inr (.inr (.inr (.inr (va_up (va_up (va_up (va_up (fun _ => none) 0 (some (qc 32))) 1 (some (qc 34))) 2 (some (qc 36))) 3 (some (qc 38)))))))), ((qc 32), .inr (4, [.ref (qc 33), .int (-1), .int 0])), ((qc 33), .inl (w.2.1, 60, .inl (fun _ => 0))), ((qc 34), .inr (4, [.ref (qc 35), .int (-1), .int 0])), ((qc 35), .inl (w.2.1, 60, .inl (fun _ => 0))), ((qc 36), .inr (4, [.ref (qc 37), .int (-1), .int 0])), ((qc 37), .inl (w.2.1, 60, .inl (fun _ => 0))), ((qc 38), .inr (4, [.ref (qc 39), .int (-1), .int 0])), ((qc 39), .inl (w.2.1, 60, .inl (fun _ => 0))), ((qc 40), .inl (w.2.1, 12, .inl (fun _ => 0)))] ++ [(qy, .inr (8, [.ref (qr 0), .ref (qr 1), .int 0, .ref (qr 2), .ref (qr 3), .ref (qr 4), .ref (qr 5), .int 0, .ref (qr 6), .ref (qr 7), .int 0, .ref (qr 8), .ref (qr 9), .ref (qr 10), .int 0, .ref (qr 11), .ref (qr 12), .int 0, .ref (qr 13), .ref (qr 14), .ref (qr 15), .ref (qr 16), .ref (qr 17), .ref (qr 18), .int 0, .ref (qr 19), .ref (qr 20), .ref (qr 21), .ref (qr 22), .ref (qr 23), .ref (qr 24), .ref (qr 25), .ref (qr 26), .ref (qr 27), .int 0])), ((qr 0), .inl (w.2.1, 2, .inl (fun _ => 0))), ((qr 1), .inl (w.2.1, 78, .inl (fun _ => 0))), ((qr 2), .inl (w.2.1, 9, .inl (fun _ => 0))), ((qr 3), .inl (w.2.1, 9, .inl (fun _ => 0))), ((qr 4), .inl (w.2.1, 9, .inl (fun _ => 0))), ((qr 5), .inl (w.2.1, 9, .inl (fun _ => 0))), ((qr 6), .inl (w.2.1, 3, .inl (fun _ => 0))), ((qr 7), .inl (w.2.1, 7, .inl (fun _ => 0))), ((qr 8), .inl (w.2.1, 12, .inl (fun _ => 0))), ((qr 9), .inl (w.2.1, 12, .inl (fun _ => 0))), ((qr 10), .inl (w.2.1, 12, .inl (fun _ => 0))), ((qr 11), .inl (w.2.1, 8, .inl (fun _ => 0))), ((qr 12), .inl (w.2.1, 8, .inl (fun _ => 0))), ((qr 13), .inl (w.2.2.1, 240, .inl (fun _ => 0))), ((qr 14), .inl (w.2.1, 64, .inl (fun _ => 0))), ((qr 15), .inl (w.2.1, 64, .inl (fun _ => 0))), ((qr 16), .inl (w.2.1, 8, .inl (fun _ => 0))), ((qr 17), .inl (w.2.1, 256, .inl (fun _ => 0))), ((qr 18), .inl (w.2.1, 2, .inl (fun _ => 0))), ((qr 19), .inl (w.2.1, 8, .inl (fun _ => 0))), ((qr 20), .inl (w.2.1, 8, .inl (fun _ => 0))), ((qr 21), .inl (w.2.1, 8, .inl (fun _ => 0))), ((qr 22), .inl (w.2.1, 96, .inl (fun _ => 0))), ((qr 23), .inl (w.2.2.1, 4, .inl (fun _ => 0))), ((qr 24), .inl (w.2.1, 4, .inl (fun _ => 0))), ((qr 25), .inl (w.2.1, 4, .inl (fun _ => 0))), ((qr 26), .inl (w.2.1, 240, .inl (fun _ => 0))), ((qr 27), .inl (w.2.1, 60, .inl (fun _ => 0)))]) → va_S (fun q => s.heap.size ≤ q) s.heap H locs → lhas ls 4 [some (.ref b), some (.ref qx), some (.ref qy), some (.int 0)] → W p l e room_1 s m #[Value.ref b] below meth c H locs 71 2341 (lw_Z below #[Value.ref b] s) (F0 m 18 ls []) := by
  intro H locs ls hP hD hS hl
  obtain ⟨hx, hb, hr, hml, hown, hts, hXs, hbl, hlocks, hgv⟩ := id C0
  refine va_forget (fun q hq => hS.2.2 q hq) ?_
  have hP : va_P w.2.2.2.2 classes (wsAll w qx qy qc qr) H := va_P_q (k := 32) (fun i => some ((wdC w qx qc).1 (10 + i))) hP rfl (fun j hj => by rcases (show j = 0 ∨ j = 1 ∨ j = 2 ∨ j = 3 by omega) with rfl | rfl | rfl | rfl <;> rfl)
  have hD : va_D (fun q => s.heap.size ≤ q) (wsAll w qx qy qc qr) := va_D_set (k := 32) (e' := .inl (w.2.2.2.1, 4, .inr (.inr (.inr (.inr (fun i => some ((wdC w qx qc).1 (10 + i)))))))) hD rfl
  have eC0 : (wdC w qx qc).1 0 = qx := rfl
  have eR0 : (wdR w qy qr).1 0 = qy := rfl
  have nC : shC.length = 42 := rfl
  have nR : shR.length = 29 := rfl
  have hPC : va_P w.2.2.2.2 classes (cels shC (wdC w qx qc) σ0) H := by
    intro k q hq
    obtain ⟨x, h1, h2⟩ := cels_spec hq
    rw [h2]
    exact hP _ _ (wsAll_C w qx qy qc qr k x h1)
  have hPR : va_P w.2.2.2.2 classes (cels shR (wdR w qy qr) τ0) H := by
    intro k q hq
    obtain ⟨x, h1, h2⟩ := cels_spec hq
    rw [h2]
    exact hP _ _ (wsAll_R w qx qy qc qr k x h1)
  have gC : ∀ i, i < shC.length → ∃ ee, (wsAll w qx qy qc qr)[plC i]? = some ((wdC w qx qc).1 i, ee) := fun i hi => ⟨_, wsAll_C w qx qy qc qr i _ (List.getElem?_eq_getElem hi)⟩
  have gR : ∀ i, i < shR.length → ∃ ee, (wsAll w qx qy qc qr)[42 + i]? = some ((wdR w qy qr).1 i, ee) := fun i hi => ⟨_, wsAll_R w qx qy qc qr i _ (List.getElem?_eq_getElem hi)⟩
  have h50 : ∀ k, 42 ≤ k → (wdC w qx qc).1 k = w.1 k := by
    intro k hk
    show (if k < 42 then _ else _) = _
    rw [if_neg (by omega)]
  have hXC : ExC (wdC w qx qc) (fun q => s.heap.size ≤ q) s s.heap := by
    obtain ⟨x1, x2, x3, x4, x5⟩ := hX
    refine ⟨x1, x2, ?_, ?_, ?_⟩
    · have e1 : (fun i => (wdC w qx qc).1 (50 + i)) = fun i => w.1 (50 + i) := funext fun i => h50 _ (by omega)
      have e2 : (fun i => (wdC w qx qc).1 (52 + i)) = fun i => w.1 (52 + i) := funext fun i => h50 _ (by omega)
      rw [e1, e2]; exact x3
    · rw [h50 54 (by omega)]; exact x4
    · rw [h50 54 (by omega)]; exact x5
  have hC : CxL (wdC w qx qc) (wdR w qy qr) (p, l, e, room_1, s, m, #[Value.ref b], below, meth, c, lw_Z below #[Value.ref b] s, 71, 2341) b L xs := by
    refine ⟨⟨hx, hb, hml, hown, fun x h => hts x (tbl_lw x h)⟩, ⟨hK, hK, ?_, ?_⟩, ⟨?_, ?_, ?_⟩, hXC, ⟨hXs, hbl⟩, ⟨Nat.le_of_ble_eq_true rfl, Nat.le_of_ble_eq_true rfl, Nat.le_of_ble_eq_true rfl, Nat.le_of_ble_eq_true rfl⟩, hL, ?_⟩
    · intro i j (hi : i < shC.length) (hj : j < shC.length) e9
      obtain ⟨e1, h1⟩ := gC i hi
      obtain ⟨e2, h2⟩ := gC j hj
      exact plC_inj i (by omega) j (by omega) (hD.1 _ _ _ _ h1 h2 e9)
    · intro i j (hi : i < shR.length) (hj : j < shR.length) e9
      obtain ⟨e1, h1⟩ := gR i hi
      obtain ⟨e2, h2⟩ := gR j hj
      have := hD.1 _ _ _ _ h1 h2 e9
      omega
    · intro i j hi hj e9
      obtain ⟨e1, h1⟩ := gC i hi
      obtain ⟨e2, h2⟩ := gR j hj
      have h3 := hD.1 _ _ _ _ h1 h2 e9
      have h4 := plC_lt i (by omega)
      omega
    · intro i hi
      obtain ⟨e1, h1⟩ := gC i hi
      exact hD.2 _ _ h1
    · intro i hi
      obtain ⟨e1, h1⟩ := gR i hi
      exact hD.2 _ _ h1
    · intro H9 locs9 ls9 pc9 hS9 hd9
      refine va_forget (fun q hq => ?_) ?_
      · rcases hS9.2.2 q hq with ⟨j, hj, e1⟩ | ⟨j, hj, e1⟩
        · rw [e1]
          obtain ⟨e1, h1⟩ := gC j hj
          exact hD.2 _ _ h1
        · rw [e1]
          obtain ⟨e1, h1⟩ := gR j hj
          exact hD.2 _ _ h1
      · refine W.widen (k := 600000) (n := 7302250) (Nat.le_of_ble_eq_true rfl) (Nat.le_of_ble_eq_true rfl) ?_
        exact lw_ret hx hb hr hlocks hd9
  have hS0 : va_S (AL (wdC w qx qc) (wdR w qy qr)) s.heap H [] := ⟨hS.1, fun q h1 h2 => hS.2.1 q h1 (Nat.not_le.mpr h1), fun q hq => by cases hq⟩
  have hlo : lhas ls 4 [some (.ref b), some (.ref ((wdC w qx qc).1 0)), some (.ref ((wdR w qy qr).1 0)), some (.int (nI 0))] := hl
  exact law_head hC rel_all (L + 6) 0 σ0 τ0 (by omega) (by omega) rel_0 H [] ls hPC hPR hS0 hlo
set_option maxHeartbeats 8000000 in
set_option maxRecDepth 100000 in
theorem whole_start {p : Program} {e : Env} {s : State} {m : MethodId} {below : List Frame} {meth : Method} {c : Code} (l : Launch) (hflags : l.flags = flags0) {b L : Nat} {xs : Nat → Int32} (hL : L ≤ 3072) (C0 : lw_At p s m meth c b L xs) : W p l e room_1 s m #[Value.ref b] below meth c s.heap [] 0 0 (lw_Z below #[Value.ref b] s) (entryFrame m ([Value.ref b] : List Value).toArray 4) := by
  obtain ⟨hx, hb, hr, hml, hown, hts, hXs, hbl, hlocks, hgv⟩ := id C0
  obtain ⟨w, hK, hE, hX⟩ := start_ext hts hgv
  have hl := lv_entry ([.ref b]) (n := 4) (Nat.le_of_ble_eq_true rfl)
  rw [lg_entry_eq]
  generalize (lg_sl ([.ref b]) ++ List.replicate (4 - (lg_sl ([.ref b])).length) Slot.unset).toArray = ls at hl ⊢
  have hl : lhas ls 4 [some (.ref b), none, none, none] := hl
  have hC : CxA w 4 (fun q => s.heap.size ≤ q) (p, l, e, room_1, s, m, #[Value.ref b], below, meth, c, lw_Z below #[Value.ref b] s, 0, 0) "SoundPaidLaw" code 20 600000 7302250 :=
    ⟨⟨hx, hb, hml, hown, fun x h => hts x (tbl_lw x h)⟩, ⟨hK, fun _ h => h, Or.inl rfl, hE⟩, ⟨Nat.le_of_ble_eq_true rfl, Nat.le_of_ble_eq_true rfl, Nat.le_of_ble_eq_true rfl, Nat.le_of_ble_eq_true rfl⟩⟩
  have hgo : VA w 4 (fun q => s.heap.size ≤ q) (p, l, e, room_1, s, m, #[Value.ref b], below, meth, c, lw_Z below #[Value.ref b] s, 0, 0) [] [some (.ref b), none, none, none] 0 0 0 [] := by
    refine VA.new (ci := 7) (fs := [.null, .null, .null, .null, .null, .null, .null, .null, .null, .int 0]) hC d_law_0 rfl uC7 pC7 ql_L_7 qn_7 qi_7 (fun j hj => by rcases (show j = 0 ∨ j = 1 ∨ j = 2 ∨ j = 3 ∨ j = 4 ∨ j = 5 ∨ j = 6 ∨ j = 7 ∨ j = 8 ∨ j = 9 by omega) with rfl | rfl | rfl | rfl | rfl | rfl | rfl | rfl | rfl | rfl <;> rfl) rfl rfl (fun qx => ?_)
    refine VA.eqw [(qx, .inr (7, [.null, .null, .null, .null, .null, .null, .null, .null, .null, .int 0]))] rfl ?_
    refine VA.dup hC d_law_3 rfl ?_
    refine VA.callI (wr := []) hC (w_P_init w qx) d_law_4 mo_P_init qm_L_9 rfl rfl rfl rfl rfl (Nat.le_of_ble_eq_true rfl) rfl rfl (fun qc => ?_)
    refine VA.astore_n (lo' := [some (.ref b), some (.ref qx), none, none]) hC d_law_7 rfl rfl rfl ?_
    refine VA.new (ci := 8) (fs := [.null, .null, .int 0, .null, .null, .null, .null, .int 0, .null, .null, .int 0, .null, .null, .null, .int 0, .null, .null, .int 0, .null, .null, .null, .null, .null, .null, .int 0, .null, .null, .null, .null, .null, .null, .null, .null, .null, .int 0]) hC d_law_8 rfl uC8 pC8 ql_L_10 qn_8 qi_8 (fun j hj => by rcases (show j = 0 ∨ j = 1 ∨ j = 2 ∨ j = 3 ∨ j = 4 ∨ j = 5 ∨ j = 6 ∨ j = 7 ∨ j = 8 ∨ j = 9 ∨ j = 10 ∨ j = 11 ∨ j = 12 ∨ j = 13 ∨ j = 14 ∨ j = 15 ∨ j = 16 ∨ j = 17 ∨ j = 18 ∨ j = 19 ∨ j = 20 ∨ j = 21 ∨ j = 22 ∨ j = 23 ∨ j = 24 ∨ j = 25 ∨ j = 26 ∨ j = 27 ∨ j = 28 ∨ j = 29 ∨ j = 30 ∨ j = 31 ∨ j = 32 ∨ j = 33 ∨ j = 34 by omega) with rfl | rfl | rfl | rfl | rfl | rfl | rfl | rfl | rfl | rfl | rfl | rfl | rfl | rfl | rfl | rfl | rfl | rfl | rfl | rfl | rfl | rfl | rfl | rfl | rfl | rfl | rfl | rfl | rfl | rfl | rfl | rfl | rfl | rfl | rfl <;> rfl) rfl rfl (fun qy => ?_)
    refine VA.dup hC d_law_11 rfl ?_
    refine VA.callI (h0 := qy) (wr := [(qx, .inr (7, [.ref (qc 0), .ref (qc 2), .ref (qc 4), .ref (qc 5), .ref (qc 12), .ref (qc 24), .ref (qc 28), .ref (qc 31), .ref (qc 40), .int (0)])), ((qc 0), .inr (6, [.ref (qc 1), .int (5), .ref (w.1 50), .int 0])), ((qc 1), .inl (w.2.1, 39, .inl (fun _ => 0))), ((qc 2), .inr (6, [.ref (qc 3), .int (3), .ref (w.1 51), .int 0])), ((qc 3), .inl (w.2.1, 17, .inl (fun _ => 0))), ((qc 4), .inr (1, [.ref (qc 5), .ref (qc 12), .ref (qc 19), .ref (qc 20), .ref (qc 21), .ref (qc 22), .ref (qc 23)])), ((qc 5), .inr (5, [.ref (qc 6), .ref (qc 7), .ref (qc 8), .ref (qc 9), .ref (qc 10), .ref (qc 11), .int 0, .int 0])), ((qc 6), .inl (w.2.1, 8, .inl (fun _ => 0))), ((qc 7), .inl (w.2.1, 8, .inl (fun _ => 0))), ((qc 8), .inl (w.2.1, 8, .inl (fun _ => 0))), ((qc 9), .inl (w.2.1, 8, .inl (fun _ => 0))), ((qc 10), .inl (w.2.1, 3, .inl (fun _ => 0))), ((qc 11), .inl (w.2.1, 7, .inl (fun _ => 0))), ((qc 12), .inr (2, [.ref (qc 13), .ref (qc 14), .ref (qc 15), .ref (qc 16), .ref (qc 17), .ref (qc 18), .int 0, .int 0])), ((qc 13), .inl (w.2.1, 12, .inl (fun _ => 0))), ((qc 14), .inl (w.2.1, 12, .inl (fun _ => 0))), ((qc 15), .inl (w.2.1, 12, .inl (fun _ => 0))), ((qc 16), .inl (w.2.1, 8, .inl (fun _ => 0))), ((qc 17), .inl (w.2.1, 8, .inl (fun _ => 0))), ((qc 18), .inl (w.2.1, 8, .inl (fun _ => 0))), ((qc 19), .inl (w.2.1, 8, .inl (fun _ => 0))), ((qc 20), .inl (w.2.1, 12, .inl (fun _ => 0))), ((qc 21), .inl (w.2.1, 8, .inl (fun _ => 0))), ((qc 22), .inl (w.2.1, 256, .inl (fun _ => 0))), ((qc 23), .inl (w.2.1, 256, .inl (fun _ => 0))), ((qc 24), .inr (3, [.ref (qc 25), .ref (qc 26), .ref (qc 27), .int 0])), ((qc 25), .inl (w.2.1, 8, .inl (fun _ => 0))), ((qc 26), .inl (w.2.1, 8, .inl (fun _ => 0))), ((qc 27), .inl (w.2.1, 8, .inl (fun _ => 0))), ((qc 28), .inr (0, [.ref (qc 29), .ref (qc 30), .int 0])), ((qc 29), .inl (w.2.1, 12, .inl (fun _ => 0))), ((qc 30), .inl (w.2.1, 12, .inl (fun _ => 0))), ((qc 31), .inl (w.2.2.2.1, 4, .inr (.inr (.inr (.inr (va_up (va_up (va_up (va_up (fun _ => none) 0 (some (qc 32))) 1 (some (qc 34))) 2 (some (qc 36))) 3 (some (qc 38)))))))), ((qc 32), .inr (4, [.ref (qc 33), .int (-1), .int 0])), ((qc 33), .inl (w.2.1, 60, .inl (fun _ => 0))), ((qc 34), .inr (4, [.ref (qc 35), .int (-1), .int 0])), ((qc 35), .inl (w.2.1, 60, .inl (fun _ => 0))), ((qc 36), .inr (4, [.ref (qc 37), .int (-1), .int 0])), ((qc 37), .inl (w.2.1, 60, .inl (fun _ => 0))), ((qc 38), .inr (4, [.ref (qc 39), .int (-1), .int 0])), ((qc 39), .inl (w.2.1, 60, .inl (fun _ => 0))), ((qc 40), .inl (w.2.1, 12, .inl (fun _ => 0)))]) hC (w_R_init w qy) d_law_12 mo_R_init qm_L_12 rfl rfl rfl rfl rfl (Nat.le_of_ble_eq_true rfl) rfl rfl (fun qr => ?_)
    refine VA.astore_n (lo' := [some (.ref b), some (.ref qx), some (.ref qy), none]) hC d_law_15 rfl rfl rfl ?_
    refine VA.iconst (v := 0) hC d_law_16 (by decide) ?_
    refine VA.istore_n (lo' := [some (.ref b), some (.ref qx), some (.ref qy), some (.int 0)]) hC d_law_17 rfl rfl rfl ?_
    exact start_go l hL C0 w hX hK qx qy qc qr
  exact hgo s.heap [] ls (fun k q h => by simp at h) ⟨fun i j p q h => by simp at h, fun k q h => by simp at h⟩ va_S.rf hl
-- ===== YOUR PART ENDS =====
set_option maxHeartbeats 4000000 in
theorem lw_walk (l : Launch) (hflags : l.flags = flags0) (b : Addr) (xs : List Int32) : MetFree l x (headSpec (Jvm.Cond.code x code maxLocals ret :: tables_1) room_1) (lw_P b xs) (fun _ _ _ _ _ => True) lw_Q := by
  refine MetFree.of_bodyS (code := code) (maxLocals := maxLocals) (ret := ret) (by decide) ?_ ?_
  · intro args s m h hn
    obtain ⟨meth, c, h1, h2, h3, h4, h5, h6, -, -⟩ := Cond.code_spec hn (atoms_spec (ws := Jvm.Cond.code x code maxLocals ret :: tables_1) h _ List.mem_cons_self)
    exact ⟨meth, c, h1, h2, h3, h4, h5, h6⟩
  · intro p e s m args below meth c s₁ B hml0 hP _
    obtain ⟨rfl, hx, hbd, hgv⟩ := hP
    obtain ⟨scr, harrAt, hlist, hof, hsmall⟩ := hx
    obtain ⟨hcb, hkn, -, -⟩ := State.arrayAt?_spec harrAt
    have hown : s.vm.findClass R_law = some m.cls := findClass_of_methodNamed B.named
    have hts0 : ∀ c ∈ (Jvm.Cond.code x code maxLocals ret :: tables_1), c.before #[Value.ref b] s = true := atoms_spec (ws := Jvm.Cond.code x code maxLocals ret :: tables_1) B.pre
    have hts : ∀ w ∈ lw_tbl, w.before #[Value.ref b] s = true := k2_hts_sels lw_privs (fun w hw => hts0 w (List.mem_cons_of_mem _ hw)) lw_privs_ok
    have hml : c.maxLocals = 4 := B.maxLocals_eq (hts0 _ List.mem_cons_self)
    have X₀ : Stand p l e room_1 s m #[Value.ref b] below meth c s₁ [] 0 0 := Stand.of_body B
    have hh0 : s₁.heap = s.heap := by rw [B.state]; rfl
    have hsz : scr.slots.size = xs.length := by rw [← Array.length_toList, hlist, List.length_map]
    have hval : ∀ j : Nat, j < xs.length → scr.slots[j]? = some (.int (xs.getD j 0)) := fun j hj => by
      rw [← Array.getElem?_toList, hlist]
      simp [hj]
    have hbl : b < s.heap.size := (Array.getElem?_eq_some_iff.mp hcb).1
    have hX : va_X b xs.length (fun j => xs.getD j 0) s s.heap := ⟨scr, hcb, hof, hkn, hsz, hval⟩
    have K : W p l e room_1 s m #[Value.ref b] below meth c s₁.heap [] 0 0 (lw_Z below #[Value.ref b] s) (entryFrame m ([Value.ref b] : List Value).toArray 4) := by
      rw [hh0]
      exact whole_start l hflags hbd ⟨B.exec, B.bytes, B.returns, hml, hown, hts, hX, hbl, B.notSynchronized, hgv⟩
    obtain ⟨t, a1, o, b1, b2, b3⟩ := K s₁ rfl X₀
    exact ⟨t, o, a1, b1, b2, b3⟩
theorem lw_pre_spec {args : Array Value} {s : State} (h : (Jvm.Cond.and given_1 narrow_1).before args s = true) (hr : rest_1_c.before args s = true) : ∃ (b : Addr) (xs : List Int32), lw_P b xs args s := by
  have hs := flat_of_before _ h
  have hq := flat_of_before _ hr
  have hc : (Cond.count 1).before args s = true := hs _ (by decide +kernel)
  have harr : (Cond.arrayOf (.arg 0) .int).before args s = true := hs _ (by decide +kernel)
  have hle : (Cond.le (.length (.arg 0)) (.int 3072)).before args s = true := hs _ (by decide +kernel)
  have hlen : (Cond.isInt (.length (.arg 0))).before args s = true := hq _ (by decide +kernel)
  have hall : (Cond.all (.arg 0) (.isInt (.elem (.arg 0) (.index 0)))).before args s = true := hq _ (by decide +kernel)
  obtain ⟨b, xs, hb, hx⟩ := State.ints_of_pre rfl harr hlen hall
  have hsm : xs.length < 2 ^ 31 := hx.choose_spec.2.2.2
  have hev : (Term.length (.arg 0)).eval args s none [] s = some (.int xs.length.toInt32) := hx.length_eval hb
  have hv := Cond.le_ints hev (show (Term.int 3072).eval args s none [] s = some (.int 3072) from rfl)
  have hd : xs.length.toInt32 ≤ 3072 := by
    simpa [Cond.before, Cond.holds, hv] using hle
  have hN : xs.length ≤ 3072 := (Int32.ofNat_le_ofNat hsm (by decide)).mp (show Int32.ofNat xs.length ≤ Int32.ofNat 3072 from hd)
  exact ⟨b, xs, Cond.one_arg hc (show args[0]? = some (.ref b) from hb), hx, hN, h⟩
theorem lw_comes (l : Launch) (hflags : l.flags = flags0) : Comes l x (Jvm.Cond.code x code maxLocals ret :: tables_1) room_1 (fun tb e args s => Calls_1 tb e args s ∧ rest_1 tb e args s ∧ Pre_1 tb e args s)
    (fun _ _ args s o t => lw_Q args s o t) := by
  intro p e ha hc hk s m args below hf hfit hheap happ hpre
  obtain ⟨b, xs, hP⟩ := lw_pre_spec hpre.2.2 hpre.2.1
  obtain ⟨k, o, h1, h2, h3, hQ⟩ := lw_walk l hflags b xs p e ha hc hk s m args below hf ((Spec.applies_iff_loose hf).mp happ).1 hP trivial
  exact ⟨k, o, h1, h2, h3, hQ⟩
theorem lw_frame {s t : State} {o : Outcome} {args : Array Value} (h : Framed s o t [] 600000 7302250) :
    Framed s o t (fieldLocs frame_1_writes args s ++ arrayLocs frame_1_arrays args s ++ staticLocs frame_1_statics s) 600000 7302250 := h
theorem lw_limb (L : Cond) (hL : ∀ (args : Array Value) (s t : State), L.after args s (.returned (some (.int 1))) t = true) :
    ArmFor flags0 classFile x code maxLocals ret World_1 tables_1 room_1 Calls_1 rest_1 Pre_1
      (fun tb e a s o t => postC L tb e a s o t ∧ Framed s o t (fieldLocs frame_1_writes a s ++ arrayLocs frame_1_arrays a s ++ staticLocs frame_1_statics s) 600000 7302250) := by
  intro l hflags _ _ p e ha hc hk s m args below hf hfit hheap happ hpre
  obtain ⟨k, o, h1, h2, h3, rfl, hF⟩ := lw_comes l hflags p e ha hc hk s m args below hf hfit hheap happ hpre
  exact ⟨k, _, h1, h2, h3, hL args s _, lw_frame hF⟩
theorem i_vc : Claimed_1_1 ∧ Claimed_1_2 := ⟨lw_limb limb_1_1 (fun args s t => by simp [limb_1_1, Cond.after, Cond.holds, Cond.value]), lw_limb limb_1_2 (fun args s t => Cond.after_iff.mpr (by
  first | (rw [show limb_1_2 = Cond.eq .result (.int 1) from rfl, Cond.eq_ints (x := 1) (y := 1) rfl rfl]; simp; done) | (simp [limb_1_2, Cond.value, Term.eval]; done)))⟩
