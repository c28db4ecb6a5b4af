/-! a brief is begun: a draft, nothing told -/
theorem X4_clr {σ : zM} {x1 : Int32} {x2 : Nat} : ∃ σ', zwh (fun (q : (Int32 × zM)) => f_X4_read_L24 x1 x2 q.1 q.2) zFu (0, σ) = some σ' ∧ zEx [(4, 6)] σ σ' ∧ ∀ y, y < 13 → zA σ' 4 0 6 y = 0 := by
  refine zwh_ex (fun (i : Nat) (q : Int32 × zM) => q.1 = nI i ∧ zEx [(4, 6)] σ q.2 ∧ ∀ w, w < i → zA q.2 4 0 6 w = 0) _ 13 ⟨rfl, zEx.rf, fun w hw => absurd hw (Nat.not_lt_zero w)⟩ (fun i q hi hq => ?_) (fun q hq => ?_) (by omega)
  · obtain ⟨q1, q2⟩ := q
    obtain ⟨g1, g2, g3⟩ := hq
    simp only at g1 g2 g3
    subst g1
    refine Or.inl ⟨(nI (i + 1), zsA q2 4 0 6 i 0), ?_, rfl, g2.tr (zEx_sA (by decide)), fun w hw => ?_⟩
    · show f_X4_read_L24 x1 x2 (nI i) q2 = _
      unfold f_X4_read_L24
      rw [zq13, if_neg (by rw [nI_leI (by omega) (by omega)]; omega), zix_n hi (by omega), Option.bind_some, zlt_e, nI_1, show vp_nar .boolean 0 = 0 by decide]
    · rw [zA_sA, if_pos ⟨rfl, rfl, rfl⟩]
      by_cases e : w = i
      · rw [e, zu_eq]
      · rw [zu_ne _ _ e]
        exact g3 w (by omega)
  · obtain ⟨q1, q2⟩ := q
    obtain ⟨g1, g2, g3⟩ := hq
    simp only at g1 g2 g3
    subst g1
    refine ⟨q2, ?_, g2, g3⟩
    show f_X4_read_L24 x1 x2 (nI 13) q2 = _
    unfold f_X4_read_L24
    rw [zq13, if_pos (nI_le (Nat.le_refl _) (by omega))]
theorem znu_e0 {β : Type} {a : β} {f : Nat → β} : znu none a f = a := rfl
theorem znu_e1 {β : Type} {a : β} {f : Nat → β} {j : Nat} : znu (some j) a f = f j := rfl
/-- the draft -/
theorem X1_draft {σ : zM} {nb : Nat} (h : zR σ 1 0 3 = none ∨ zR σ 1 0 3 = some nb) : ∃ σ', f_X1_draft σ nb = some (nb, σ') ∧ zR σ' 1 0 3 = some nb ∧ zOth σ σ' nb := by
  rcases h with h | h
  · obtain ⟨σa, ha⟩ : ∃ x, x = zclA (zclA (zclA (zclA (zclA (zsI (zsI (zsI (zclA (zclA (zclr σ 0 nb) 0 nb 5) 0 nb 6) 0 nb 7 0) 0 nb 8 0) 0 nb 9 0) 0 nb 0) 0 nb 1) 0 nb 2) 0 nb 3) 0 nb 4 := ⟨_, rfl⟩
    obtain ⟨σb, w1, w2, w3, w4, w5, w6, w7⟩ := X0_wipe (σ := σa) (o := nb)
    have hi : f_X0_initB (zclr σ 0 nb) nb = some σb := by
      unfold f_X0_initB
      simp only [zlt_e]
      rw [← ha, w1, Option.bind_some]
    have oa : zOth σ σa nb := by
      rw [ha]
      exact zOth_cl.tr (zOth_cA.tr (zOth_cA.tr (zOth_I.tr (zOth_I.tr (zOth_I.tr (zOth_cA.tr (zOth_cA.tr (zOth_cA.tr (zOth_cA.tr zOth_cA)))))))))
    obtain ⟨σc, hc⟩ : ∃ x, x = zsR σb 1 0 3 (some nb) := ⟨_, rfl⟩
    have R3 : zR σc 1 0 3 = some nb := by rw [hc]; rfl
    refine ⟨σc, ?_, R3, (oa.tr w7).tr (fun o' k _ => by rw [hc]; exact ⟨rfl, rfl⟩)⟩
    unfold f_X1_draft
    rw [h]
    rw [znu_e0, zlt_e, hi, Option.bind_some, zlt_e, ← hc, R3, znu_e1]
  · refine ⟨σ, ?_, h, zOth.rf⟩
    unfold f_X1_draft
    rw [h, znu_e1, znu_e1]
