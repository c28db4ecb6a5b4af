def zInvX : Nat → zM → Prop := fun _ _ => True
theorem zObAll : zObA zInvX := sorry
theorem zBound : ∀ n σ, zInvX n σ → zSc σ ≤ 10 ∧ zMd σ ≤ 7 := sorry
theorem zMono : ∀ n σ, zInvX n σ → zInvX (n + 8) σ := sorry
theorem zInit : zIni zInvX := sorry
