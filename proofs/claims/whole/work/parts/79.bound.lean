/-! bounds of what is made -/
theorem zBound : ∀ (n : Nat) (σ : zM), zInv n σ → zSc σ ≤ 10 ∧ zMd σ ≤ 7 := by
  intro n σ hI
  obtain ⟨hDay, hFlt, hTap, hNam, hSun, hSch, hPai, hQue, hPan, hWds, hBri, hMen, hRnd⟩ := hI
  obtain ⟨k, k1, k2, -⟩ := hSch
  obtain ⟨nb, M, b1, b2, -⟩ := hBri
  refine ⟨?_, ?_⟩
  · unfold zSc
    rw [k2, nI_clamp (by omega)]
    exact k1
  · unfold zMd
    rw [b2, nI_clamp (by omega)]
    split <;> omega
