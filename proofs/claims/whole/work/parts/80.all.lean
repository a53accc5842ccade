/-! every call; the start -/
theorem rel_0 : Rel σ0 τ0 := by
  have hn : nH α0 = 0 := by decide
  have hr : nR α0 = 0 := by decide
  have z : ∀ q, (∀ o, o = 1 ∨ o = 2 ∨ o = 10 ∨ o = 11 ∨ o = 12 ∨ o = 13 → q ≠ o) → σ0 q = fun _ => 0 := by
    intro q h
    unfold σ0
    rw [if_neg (h 1 (by omega)), if_neg (h 2 (by omega)), if_neg (h 10 (by omega)), if_neg (h 11 (by omega)), if_neg (h 12 (by omega)), if_neg (h 13 (by omega))]
  refine ⟨α0, ?_, ?_, ?_⟩
  · refine ⟨⟨⟨by decide, fun i hi => absurd hi (Nat.not_lt_zero _)⟩, ⟨by decide, fun i hi => absurd hi (Nat.not_lt_zero _)⟩⟩, fun i _ => (by decide : 0 < 10), ⟨by decide, fun i hi => absurd hi (Nat.not_lt_zero _)⟩, ⟨by decide, fun i hi => absurd hi (Nat.not_lt_zero _)⟩, ⟨by decide, fun i hi => absurd hi (Nat.not_lt_zero _)⟩, fun s _ => ⟨(by decide : 0 < 3), (by decide : 0 ≤ 60)⟩⟩
  · refine ⟨⟨⟨rfl, rfl, rfl, rfl⟩, fun i hi => absurd hi (Nat.not_lt_zero _), fun i hi => absurd hi (Nat.not_lt_zero _)⟩, ⟨⟨?_, fun i hi => ?_⟩, ⟨?_, fun k hk => ?_⟩, fun i _ => ?_, ⟨rfl, fun i hi => absurd hi (Nat.not_lt_zero _)⟩, fun i hi => absurd hi (Nat.not_lt_zero _)⟩, ⟨rfl, fun i hi => absurd hi (Nat.not_lt_zero _), fun h hh => ⟨0, ?_, by decide, fun d _ => ?_⟩⟩, ⟨rfl, fun i hi => absurd hi (Nat.not_lt_zero _)⟩, fun s hs => ⟨?_, fun z => (by cases z), fun i _ => ?_⟩, rfl⟩
    · rw [hn]; rfl
    · rw [hn] at hi; exact absurd hi (Nat.not_lt_zero _)
    · rw [hr]; rfl
    · have : rT α0 k = 0 := by unfold rT; rw [hr]; rfl
      rw [this]; rfl
    · rfl
    · rfl
    · rw [Nat.zero_testBit]; rfl
    · rcases (show s = 0 ∨ s = 1 ∨ s = 2 ∨ s = 3 by omega) with rfl | rfl | rfl | rfl <;> rfl
    · rw [z (38 + s) (fun o ho => by omega)]; rfl
  · refine ⟨⟨rfl, rfl, fun i hi => absurd hi (Nat.not_lt_zero _), fun i hi => absurd hi (Nat.not_lt_zero _)⟩, fun i _ => rfl, ⟨rfl, fun i hi => absurd hi (Nat.not_lt_zero _)⟩, ⟨rfl, fun i hi => absurd hi (Nat.not_lt_zero _)⟩, ⟨rfl, fun i hi => absurd hi (Nat.not_lt_zero _)⟩, fun s _ => ⟨rfl, fun z => (by cases z), fun i _ => rfl⟩, rfl⟩
theorem rel_all : AllH Rel := ⟨h_type, h_wipe, h_undo, h_fault, h_house, h_rate, h_wall, h_suit, h_shut, h_back, h_read, h_through, h_owes, h_balance, h_coin, h_broke, h_richest, h_payments, h_rings, h_build, h_fair, h_drop, h_seen, h_forget, h_never, h_leaked, h_ask, h_court, h_month, h_sheet, h_lose, h_put, h_get, h_copy, h_write, h_count, h_digest⟩
