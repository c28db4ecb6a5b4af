/-! most: the reference, the call -/
def zMR (n : Nat) (σ : zM) : Prop := n ≤ 10 ∧ zI σ 12 0 1 = nI n ∧ ∀ s, s < n → zRC σ s (zCl σ s)
theorem zMR_x {n : Nat} {σ σ' : zM} (h : zMR n σ) (hX : zEx [(12, 14), (12, 15)] σ σ') : zMR n σ' ∧ zVV σ' = zVV σ := by
  have e3 : zA σ' 12 0 3 = zA σ 12 0 3 := hX.2.2.2.1 12 0 3 (by decide)
  have ec : zCl σ' = zCl σ := by
    funext s k
    unfold zCl
    rw [e3]
  refine ⟨⟨h.1, (hX.1 12 0 1 (by decide)).trans h.2.1, fun s hs k hk => ?_⟩, ?_⟩
  · rw [ec, e3]
    exact h.2.2 s hs k hk
  · unfold zVV
    rw [ec]
theorem X12_mo1 {σ0 σ : zM} {n a m : Nat} {x1 : Int32} {B : zB3} (h : zMR n σ0) (ha : a < n) (hσ : zEx [(12, 14), (12, 15)] σ0 σ) (hJ : iPR σ m) : ∃ σ', zwh (fun (q : (Int32 × Int32 × Int32 × Int32 × zM)) => f_X12_most_L44 x1 (nI a) q.1 q.2.1 q.2.2.1 q.2.2.2.1 q.2.2.2.2) zFu (B.1, B.2.1, B.2.2, nI (a + 1), σ) = some ((zbI (zVV σ0) a B (n - 1 - a)).1, (zbI (zVV σ0) a B (n - 1 - a)).2.1, (zbI (zVV σ0) a B (n - 1 - a)).2.2, σ') ∧ zEx [(12, 14), (12, 15)] σ0 σ' ∧ iPR σ' (zmI a m (n - 1 - a)) := by
  have hn10 := h.1
  have hz : ∃ t, zwh (fun (q : (Int32 × Int32 × Int32 × Int32 × zM)) => f_X12_most_L44 x1 (nI a) q.1 q.2.1 q.2.2.1 q.2.2.2.1 q.2.2.2.2) zFu (B.1, B.2.1, B.2.2, nI (a + 1), σ) = some t ∧ ∃ σ', t = ((zbI (zVV σ0) a B (n - 1 - a)).1, (zbI (zVV σ0) a B (n - 1 - a)).2.1, (zbI (zVV σ0) a B (n - 1 - a)).2.2, σ') ∧ zEx [(12, 14), (12, 15)] σ0 σ' ∧ iPR σ' (zmI a m (n - 1 - a)) := by
    refine zwh_ex (fun (i : Nat) (q : Int32 × Int32 × Int32 × Int32 × zM) => ∃ σ', q = ((zbI (zVV σ0) a B i).1, (zbI (zVV σ0) a B i).2.1, (zbI (zVV σ0) a B i).2.2, nI (a + 1 + i), σ') ∧ zEx [(12, 14), (12, 15)] σ0 σ' ∧ iPR σ' (zmI a m i)) _ (n - 1 - a) ⟨σ, rfl, hσ, hJ⟩ (fun i q hi hq => ?_) (fun q hq => ?_) (by omega)
    · obtain ⟨σ', rfl, hX, hJ'⟩ := hq
      obtain ⟨hM, hVe⟩ := zMR_x h hX
      obtain ⟨σ2, w, g2, g3⟩ := X12_look (σ := σ') (o := a) (s := a + 1 + i) (m := zmI a m i) (by omega) (by omega) (by omega) (hM.2.2 a ha) (hM.2.2 (a + 1 + i) (by omega)) hJ'
      rw [Nat.min_eq_left (by omega), Nat.max_eq_right (by omega)] at g2
      have w : f_X12_alikeOf σ' (nI a) (nI (a + 1 + i)) = some (nI (zVV σ' a (a + 1 + i)), σ2) := w
      rw [hVe] at w
      refine Or.inl ⟨_, ?_, σ2, rfl, hX.tr g3, g2⟩
      show f_X12_most_L44 x1 (nI a) _ _ _ (nI (a + 1 + i)) σ' = _
      unfold f_X12_most_L44 f_X12_most_B82_44
      rw [hM.2.1, if_neg (by rw [nI_leI (by omega) (by omega)]; omega), w, Option.bind_some, nI_1]
      have eb : zbI (zVV σ0) a B (i + 1) = if (zbI (zVV σ0) a B i).1 < nI (zVV σ0 a (a + 1 + i)) then (nI (zVV σ0 a (a + 1 + i)), nI a, nI (a + 1 + i)) else zbI (zVV σ0) a B i := rfl
      rw [eb]
      show (if (zbI (zVV σ0) a B i).1 < nI (zVV σ0 a (a + 1 + i)) then _ else _) = _
      by_cases hc : (zbI (zVV σ0) a B i).1 < nI (zVV σ0 a (a + 1 + i))
      · rw [if_pos hc, if_pos hc]
        rfl
      · rw [if_neg hc, if_neg hc]
        rfl
    · obtain ⟨σ', rfl, hX, hJ'⟩ := hq
      refine ⟨_, ?_, σ', rfl, hX, hJ'⟩
      show f_X12_most_L44 x1 (nI a) _ _ _ (nI (a + 1 + (n - 1 - a))) σ' = _
      unfold f_X12_most_L44
      rw [(zMR_x h hX).1.2.1, if_pos (nI_le (by omega) (by omega))]
  obtain ⟨t, h1, σ', rfl, h2, h3⟩ := hz
  exact ⟨σ', h1, h2, h3⟩
theorem X12_mo2 {σ0 : zM} {n m : Nat} {x1 : Int32} (h : zMR n σ0) (hJ : iPR σ0 m) : ∃ σ', zwh (fun (q : (Int32 × Int32 × Int32 × Int32 × zM)) => f_X12_most_L29 x1 q.1 q.2.1 q.2.2.1 q.2.2.2.1 q.2.2.2.2) zFu (-1, -1, -1, 0, σ0) = some ((zbO (zVV σ0) n n).1, (zbO (zVV σ0) n n).2.1, (zbO (zVV σ0) n n).2.2, σ') ∧ zEx [(12, 14), (12, 15)] σ0 σ' ∧ iPR σ' (zmO n m n) := by
  have hn10 := h.1
  have hz : ∃ t, zwh (fun (q : (Int32 × Int32 × Int32 × Int32 × zM)) => f_X12_most_L29 x1 q.1 q.2.1 q.2.2.1 q.2.2.2.1 q.2.2.2.2) zFu (-1, -1, -1, 0, σ0) = some t ∧ ∃ σ', t = ((zbO (zVV σ0) n n).1, (zbO (zVV σ0) n n).2.1, (zbO (zVV σ0) n n).2.2, σ') ∧ zEx [(12, 14), (12, 15)] σ0 σ' ∧ iPR σ' (zmO n m n) := by
    refine zwh_ex (fun (a : Nat) (q : Int32 × Int32 × Int32 × Int32 × zM) => ∃ σ', q = ((zbO (zVV σ0) n a).1, (zbO (zVV σ0) n a).2.1, (zbO (zVV σ0) n a).2.2, nI a, σ') ∧ zEx [(12, 14), (12, 15)] σ0 σ' ∧ iPR σ' (zmO n m a)) _ n ⟨σ0, rfl, zEx.rf, hJ⟩ (fun a q ha hq => ?_) (fun q hq => ?_) (by omega)
    · obtain ⟨σ', rfl, hX, hJ'⟩ := hq
      obtain ⟨σ2, w, h2, h3⟩ := X12_mo1 (x1 := x1) (B := zbO (zVV σ0) n a) h ha hX hJ'
      refine Or.inl ⟨_, ?_, σ2, rfl, h2, h3⟩
      show f_X12_most_L29 x1 _ _ _ (nI a) σ' = _
      unfold f_X12_most_L29 f_X12_most_B88_29
      rw [(zMR_x h hX).1.2.1, if_neg (by rw [nI_leI (by omega) (by omega)]; omega), nI_1]
      exact (congrArg (fun z => Option.bind z _) w).trans rfl
    · obtain ⟨σ', rfl, hX, hJ'⟩ := hq
      refine ⟨_, ?_, σ', rfl, hX, hJ'⟩
      show f_X12_most_L29 x1 _ _ _ (nI n) σ' = _
      unfold f_X12_most_L29
      rw [(zMR_x h hX).1.2.1, if_pos (nI_le (Nat.le_refl _) (by omega))]
  obtain ⟨t, h1, σ', rfl, h2, h3⟩ := hz
  exact ⟨σ', h1, h2, h3⟩
