def Rel (σ τ : Hp) : Prop := σ 0 0 = τ 0 0
theorem rel_0 : Rel σ0 τ0 := rfl
theorem rel_all : AllH Rel := sorry
