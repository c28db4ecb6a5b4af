def zInvX : zM → Prop := fun _ => True
theorem zObAll : zObA zInvX := sorry
theorem zBound : ∀ σ, zInvX σ → zSc σ ≤ 10 ∧ zMd σ ≤ 7 := sorry
theorem zInit : zIni zInvX := sorry
