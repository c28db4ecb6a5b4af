/-! most: class outside, reference -/
theorem X11_mo2 {σ0 : zM} {n m : Nat} {x1 : Int32} (h : zMA n σ0) (hJ : zJ σ0 11 0 13 = lN m) : ∃ σ', zwh (fun (q : (Int32 × Int32 × Int32 × Int32 × zM)) => f_X11_most_L29 x1 q.1 q.2.1 q.2.2.1 q.2.2.2.1 q.2.2.2.2) zFu (-1, -1, -1, 0, σ0) = some ((zbO (zVV σ0) n n).1, (zbO (zVV σ0) n n).2.1, (zbO (zVV σ0) n n).2.2, σ') ∧ (∃ v, σ' = zsJ σ0 11 0 13 v) ∧ zJ σ' 11 0 13 = lN (zmO n m n) := by
  have hn10 := h.1
  have hz : ∃ t, zwh (fun (q : (Int32 × Int32 × Int32 × Int32 × zM)) => f_X11_most_L29 x1 q.1 q.2.1 q.2.2.1 q.2.2.2.1 q.2.2.2.2) zFu (-1, -1, -1, 0, σ0) = some t ∧ ∃ σ', t = ((zbO (zVV σ0) n n).1, (zbO (zVV σ0) n n).2.1, (zbO (zVV σ0) n n).2.2, σ') ∧ (∃ v, σ' = zsJ σ0 11 0 13 v) ∧ zJ σ' 11 0 13 = lN (zmO n m n) := by
    refine zwh_ex (fun (a : Nat) (q : Int32 × Int32 × Int32 × Int32 × zM) => ∃ σ', q = ((zbO (zVV σ0) n a).1, (zbO (zVV σ0) n a).2.1, (zbO (zVV σ0) n a).2.2, nI a, σ') ∧ (∃ v, σ' = zsJ σ0 11 0 13 v) ∧ zJ σ' 11 0 13 = lN (zmO n m a)) _ n ⟨σ0, rfl, ⟨zJ σ0 11 0 13, ?_⟩, hJ⟩ (fun a q ha hq => ?_) (fun q hq => ?_) (by omega)
    · have e : ∀ (f : Nat → Nat → Nat → Int64), zu3 f 11 0 13 (f 11 0 13) = f := fun f => by
        funext c' i' k'
        by_cases e : c' = 11 ∧ i' = 0 ∧ k' = 13
        · obtain ⟨rfl, rfl, rfl⟩ := e
          simp [zu3]
        · simp [zu3, e]
      show σ0 = (σ0.1, zu3 _ 11 0 13 _, σ0.2.2)
      rw [show zJ σ0 = σ0.2.1 from rfl, e]
    · obtain ⟨σ', rfl, ⟨v, rfl⟩, hJ'⟩ := hq
      obtain ⟨σ2, w, h2, h3⟩ := X11_mo1 (x1 := x1) (B := zbO (zVV σ0) n a) h ha ⟨v, rfl⟩ hJ'
      refine Or.inl ⟨_, ?_, σ2, rfl, h2, h3⟩
      show f_X11_most_L29 x1 _ _ _ (nI a) (zsJ σ0 11 0 13 v) = _
      unfold f_X11_most_L29 f_X11_most_B85_29
      rw [show zI (zsJ σ0 11 0 13 v) 11 0 12 = nI n from h.2.1, if_neg (by rw [nI_leI (by omega) (by omega)]; omega), nI_1]
      exact (congrArg (fun z => Option.bind z _) w).trans rfl
    · obtain ⟨σ', rfl, hv, hJ'⟩ := hq
      refine ⟨_, ?_, σ', rfl, hv, hJ'⟩
      obtain ⟨v, rfl⟩ := hv
      show f_X11_most_L29 x1 _ _ _ (nI n) (zsJ σ0 11 0 13 v) = _
      unfold f_X11_most_L29
      rw [show zI (zsJ σ0 11 0 13 v) 11 0 12 = nI n from h.2.1, if_pos (nI_le (Nat.le_refl _) (by omega))]
  obtain ⟨t, h1, σ', rfl, h2, h3⟩ := hz
  exact ⟨σ', h1, h2, h3⟩
