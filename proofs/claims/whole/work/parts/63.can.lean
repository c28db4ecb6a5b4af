/-! can a brief be met -/
theorem zln_s {o k : Nat} (ho : o < 7) (hk : k < 4) : zln 0 o k = 40 := by
  rw [zln0 ho]
  exact (by decide : ∀ k, k < 4 → (zlnT.getD 0 []).getD k 0 = 40) k hk
theorem zSt1_K {σ : zM} {M j i : Nat} (h : zSt1 σ M j i) : (zA σ 12 0 27 (40 * j + i) = 11 ↔ zA σ 0 j 0 i = 0) ∧ (zA σ 0 j 0 i = 0 → zA σ 0 j 1 i = zA σ 12 0 28 (40 * j + i) ∧ zA σ 0 j 2 i = zA σ 12 0 29 (40 * j + i)) ∧ (zA σ 12 0 27 (40 * j + i) = 15 ↔ zA σ 0 j 0 i = 7) ∧ (zA σ 0 j 0 i = 7 → zA σ 0 j 1 i = zA σ 12 0 28 (40 * j + i) ∧ zNm (zA σ 12 0 28 (40 * j + i)) 999999) := by
  unfold zSt1 at h
  rcases h with ⟨h1, h2, -, h3, -, h4, -⟩ | ⟨h1, -, h3, -⟩ | ⟨h1, h2, h3, h4⟩ | ⟨h1, h2, -⟩ | ⟨h1, h2, h3, h4, h5, h6, h7⟩
  · rw [h1, h2]
    exact ⟨⟨fun _ => rfl, fun _ => rfl⟩, fun _ => ⟨h3, h4⟩, ⟨fun h => absurd h (by decide), fun h => absurd h (by decide)⟩, fun h => absurd h (by decide)⟩
  · rcases h1 with ⟨h1, h2⟩ | ⟨h1, h2⟩ <;> (rw [h1, h2]; exact ⟨⟨fun h => absurd h (by decide), fun h => absurd h (by decide)⟩, fun h => absurd h (by decide), ⟨fun h => absurd h (by decide), fun h => absurd h (by decide)⟩, fun h => absurd h (by decide)⟩)
  · rw [h1, h2]
    exact ⟨⟨fun h => absurd h (by decide), fun h => absurd h (by decide)⟩, fun h => absurd h (by decide), ⟨fun _ => rfl, fun _ => rfl⟩, fun _ => ⟨h4, h3⟩⟩
  · rw [h1, h2]
    exact ⟨⟨fun h => absurd h (by decide), fun h => absurd h (by decide)⟩, fun h => absurd h (by decide), ⟨fun h => absurd h (by decide), fun h => absurd h (by decide)⟩, fun h => absurd h (by decide)⟩
  · have k1 : ¬ zA σ 12 0 27 (40 * j + i) = 11 ∧ ¬ zA σ 12 0 27 (40 * j + i) = 15 := by
      rcases h1 with h1 | ⟨⟨v, hv, h1⟩, -⟩
      · rw [h1]; exact ⟨by decide, by decide⟩
      · rw [h1, zq11, zq15, nI_eq (by omega) (by omega), nI_eq (by omega) (by omega)]; omega
    exact ⟨⟨fun h => absurd h k1.1, fun h => absurd h h3⟩, fun h => absurd h h3, ⟨fun h => absurd h k1.2, fun h => absurd h h6⟩, fun h => absurd h h6⟩
def zLsS (K F1 F2 : Nat → Int32) (x : Int32) : Nat → Int32
  | 0 => 0
  | n + 1 => if K n = 0 ∧ F1 n = x then zmax (zLsS K F1 F2 x n) (F2 n) else zLsS K F1 F2 x n
theorem X0_leastOf {σ : zM} {o n : Nat} (hn : n ≤ 40) (h : zI σ 0 o 7 = nI n) (hz : n = 0 ∨ o < 7) (x : Int32) : f_X0_leastOf σ o x = some (zLsS (zA σ 0 o 0) (zA σ 0 o 1) (zA σ 0 o 2) x n) := by
  unfold f_X0_leastOf
  rw [show ((0 : Int32), (0 : Int32)) = (fun i => (zLsS (zA σ 0 o 0) (zA σ 0 o 1) (zA σ 0 o 2) x i, nI i)) 0 from rfl, zwh_up (fun i => (zLsS (zA σ 0 o 0) (zA σ 0 o 1) (zA σ 0 o 2) x i, nI i)) n (t := zLsS (zA σ 0 o 0) (zA σ 0 o 1) (zA σ 0 o 2) x n)]
  · rfl
  · intro i hi
    have ho : o < 7 := hz.resolve_left (by omega)
    show f_X0_leastOf_L4 σ o x _ _ = _
    unfold f_X0_leastOf_L4 f_X0_leastOf_B51_4
    rw [h, zln_s ho (by decide), zln_s ho (by decide), zln_s ho (by decide), if_neg (by rw [nI_leI (by omega) (by omega)]; omega), if_neg (by rw [nI_leI (by omega) (by omega)]; omega), zix_n (by omega) (by omega)]
    simp only [Option.bind_some]
    rw [nI_1, zLsS]
    by_cases a1 : zA σ 0 o 0 i = 0
    · simp only [a1, true_and, if_true]
      split <;> rfl
    · simp only [a1, false_and, if_false]
  · show f_X0_leastOf_L4 σ o x _ _ = _
    unfold f_X0_leastOf_L4
    rw [h, if_pos (nI_le (Nat.le_refl _) (by omega))]
  · omega
/-- cells and their cost, room by room -/
def zCa (Lf R : Nat → Int32) : Nat → Int64 × Int64
  | 0 => (0, 0)
  | i + 1 => ((zCa Lf R i).1 + (Lf (i + 1)).toInt64, (zCa Lf R i).2 + (Lf (i + 1)).toInt64 * (R (i + 1)).toInt64)
def zCan (K F1 F2 R : Nat → Int32) (n : Nat) : Int32 :=
  let S := zCa (fun r => zLsS K F1 F2 (nI r) n) R 12
  if S.1 ≤ 160 then (if ∃ i, i < n ∧ K i = 7 ∧ ¬ S.2 ≤ (F1 i).toInt64 then 2 else 0) else 1
theorem X0_can {σ : zM} {o n : Nat} (hn : n ≤ 40) (h : zI σ 0 o 7 = nI n) (hz : n = 0 ∨ o < 7) : f_X0_canBeMet σ o = some (zCan (zA σ 0 o 0) (zA σ 0 o 1) (zA σ 0 o 2) (zA σ 0 o 6) n) := by
  obtain ⟨G, hG⟩ : ∃ G : Nat → Int64 × Int64, G = zCa (fun r => zLsS (zA σ 0 o 0) (zA σ 0 o 1) (zA σ 0 o 2) (nI r) n) (zA σ 0 o 6) := ⟨_, rfl⟩
  unfold f_X0_canBeMet
  have hw := zwh_up (f := fun (q : (Int64 × Int64 × Int32)) => f_X0_canBeMet_L7 σ o q.1 q.2.1 q.2.2) (fun i => ((G i).1, (G i).2, nI (i + 1))) 12 (t := ((G 12).1, (G 12).2)) ?_ ?_ (by omega)
  · rw [show ((0 : Int64), (0 : Int64), (1 : Int32)) = (fun i => ((G i).1, (G i).2, nI (i + 1))) 0 from by rw [hG]; rfl, hw]
    simp only [Option.bind_some]
    unfold f_X0_canBeMet_B47 zCan
    rw [← hG]
    simp only
    by_cases hc : (G 12).1 ≤ 160
    · rw [if_pos hc, if_pos hc]
      have hx := zwh_ex (f := fun (q : Int32) => f_X0_canBeMet_L60 σ o (G 12).2 q) (s := 0) (fun i s => s = nI i ∧ ∀ k, k < i → ¬ (zA σ 0 o 0 k = 7 ∧ ¬ (G 12).2 ≤ (zA σ 0 o 1 k).toInt64)) (fun t => (t = .inl () ∧ ∃ i, i < n ∧ zA σ 0 o 0 i = 7 ∧ ¬ (G 12).2 ≤ (zA σ 0 o 1 i).toInt64) ∨ (t = .inr () ∧ ¬ ∃ i, i < n ∧ zA σ 0 o 0 i = 7 ∧ ¬ (G 12).2 ≤ (zA σ 0 o 1 i).toInt64)) n ⟨rfl, fun k hk => absurd hk (Nat.not_lt_zero k)⟩ ?_ ?_ (by omega)
      · obtain ⟨t, ht, h2⟩ := hx
        rw [ht]
        rcases h2 with ⟨rfl, h2⟩ | ⟨rfl, h2⟩
        · rw [if_pos h2]; rfl
        · rw [if_neg h2]; rfl
      · rintro i s hi ⟨rfl, hs⟩
        have ho : o < 7 := hz.resolve_left (by omega)
        show (∃ s', f_X0_canBeMet_L60 σ o (G 12).2 (nI i) = _ ∧ _) ∨ ∃ t, f_X0_canBeMet_L60 σ o (G 12).2 (nI i) = _ ∧ _
        unfold f_X0_canBeMet_L60 f_X0_canBeMet_B106_60
        rw [h, zln_s ho (by decide), zln_s ho (by decide), if_neg (by rw [nI_leI (by omega) (by omega)]; omega), if_neg (by rw [nI_leI (by omega) (by omega)]; omega), zix_n (by omega) (by omega)]
        simp only [Option.bind_some]
        by_cases a1 : zA σ 0 o 0 i = 7
        · rw [if_pos a1]
          by_cases a2 : (G 12).2 ≤ (zA σ 0 o 1 i).toInt64
          · rw [if_pos a2]
            refine Or.inl ⟨_, rfl, nI_1 i, fun k hk hh => ?_⟩
            by_cases hki : k = i
            · subst hki; exact hh.2 a2
            · exact hs k (by omega) hh
          · rw [if_neg a2]
            exact Or.inr ⟨_, rfl, Or.inl ⟨rfl, i, hi, a1, a2⟩⟩
        · rw [if_neg a1]
          refine Or.inl ⟨_, rfl, nI_1 i, fun k hk hh => ?_⟩
          by_cases hki : k = i
          · subst hki; exact a1 hh.1
          · exact hs k (by omega) hh
      · rintro s ⟨rfl, hs⟩
        refine ⟨.inr (), ?_, Or.inr ⟨rfl, fun ⟨i, hi, h2⟩ => hs i hi h2⟩⟩
        show f_X0_canBeMet_L60 σ o (G 12).2 (nI n) = _
        unfold f_X0_canBeMet_L60
        rw [h, if_pos (nI_le (Nat.le_refl _) (by omega))]
    · rw [if_neg hc, if_neg hc]
  · intro i hi
    show f_X0_canBeMet_L7 σ o _ _ _ = _
    unfold f_X0_canBeMet_L7
    rw [if_neg (by rw [zq12, nI_ltI (by omega) (by omega)]; omega), X0_leastOf hn h hz, X0_rate o (by omega) (by omega)]
    simp only [Option.bind_some]
    rw [nI_1, hG]
    rfl
  · show f_X0_canBeMet_L7 σ o _ _ _ = _
    unfold f_X0_canBeMet_L7
    rw [if_pos (show (12 : Int32) < nI (12 + 1) by decide)]
theorem zCa_cong {L1 L2 R1 R2 : Nat → Int32} : ∀ {n : Nat}, (∀ r, 1 ≤ r → r ≤ n → L1 r = L2 r ∧ R1 r = R2 r) → zCa L1 R1 n = zCa L2 R2 n
  | 0, _ => rfl
  | n + 1, h => by
    show (_, _) = (_, _)
    rw [zCa_cong (n := n) (fun r h1 h2 => h r h1 (by omega)), (h (n + 1) (by omega) (Nat.le_refl _)).1, (h (n + 1) (by omega) (Nat.le_refl _)).2]
/-- the reference's least of the "cost" statements -/
def zMo (S F1 : Nat → Int32) : Nat → Int32
  | 0 => -1
  | i + 1 => if S i = 15 then (if zMo S F1 i = -1 then F1 i else zmin (zMo S F1 i) (F1 i)) else zMo S F1 i
theorem zMo_p {S F1 : Nat → Int32} : ∀ {n : Nat}, (∀ i, i < n → S i = 15 → zNm (F1 i) 999999) → (zMo S F1 n = -1 ∧ ∀ i, i < n → S i ≠ 15) ∨ ∃ v, v ≤ 999999 ∧ zMo S F1 n = nI v ∧ (∃ i, i < n ∧ S i = 15 ∧ F1 i = nI v) ∧ ∀ i u, i < n → S i = 15 → u ≤ 999999 → F1 i = nI u → v ≤ u
  | 0, _ => Or.inl ⟨rfl, fun i hi => absurd hi (Nat.not_lt_zero i)⟩
  | n + 1, h => by
    rw [show zMo S F1 (n + 1) = (if S n = 15 then (if zMo S F1 n = -1 then F1 n else zmin (zMo S F1 n) (F1 n)) else zMo S F1 n) from rfl]
    rcases zMo_p (S := S) (F1 := F1) (n := n) (fun i hi => h i (by omega)) with ⟨h1, h2⟩ | ⟨v, h0, h1, ⟨i, hi, h2, h3⟩, h4⟩
    · by_cases hc : S n = 15
      · rw [if_pos hc, if_pos h1]
        obtain ⟨u, hu, e⟩ := h n (by omega) hc
        refine Or.inr ⟨u, hu, e, ⟨n, by omega, hc, e⟩, fun i w hi hs hw e2 => ?_⟩
        by_cases hin : i = n
        · subst hin
          rw [e, nI_eq (by omega) (by omega)] at e2
          omega
        · exact absurd hs (h2 i (by omega))
      · rw [if_neg hc]
        refine Or.inl ⟨h1, fun i hi => ?_⟩
        by_cases hin : i = n
        · subst hin; exact hc
        · exact h2 i (by omega)
    · by_cases hc : S n = 15
      · rw [if_pos hc, if_neg (by rw [h1]; exact znI_m1 (by omega))]
        obtain ⟨u, hu, e⟩ := h n (by omega) hc
        rw [h1, e, zminE (by omega) (by omega)]
        refine Or.inr ⟨min v u, by omega, rfl, ?_, fun k w hk hs hw e2 => ?_⟩
        · by_cases hvu : v ≤ u
          · exact ⟨i, by omega, h2, by rw [h3, Nat.min_eq_left hvu]⟩
          · exact ⟨n, by omega, hc, by rw [e, Nat.min_eq_right (by omega)]⟩
        · by_cases hkn : k = n
          · subst hkn
            rw [e, nI_eq (by omega) (by omega)] at e2
            omega
          · have := h4 k w (by omega) hs hw e2
            omega
      · rw [if_neg hc]
        refine Or.inr ⟨v, h0, h1, ⟨i, by omega, h2, h3⟩, fun k w hk hs hw e2 => ?_⟩
        by_cases hkn : k = n
        · subst hkn; exact absurd hs hc
        · exact h4 k w (by omega) hs hw e2
theorem X12_can_27 {σ : zM} {j n : Nat} {M : Nat} (hj : j < 6) (hn : n ≤ 40) (he : zA σ 12 0 25 j = nI n) (hst : ∀ i, i < n → zSt1 σ M j i) (a b : Int64) (c x : Int32) : zwh (fun (q : (Int32 × Int32)) => f_X12_can_L27 σ (nI j) a b c x q.1 q.2) zFu (0, (40 * nI j)) = some (zLsS (zA σ 0 j 0) (zA σ 0 j 1) (zA σ 0 j 2) x n) := by
  rw [zq40, zmulI, show (0 : Int32) = zLsS (zA σ 0 j 0) (zA σ 0 j 1) (zA σ 0 j 2) x 0 from rfl]
  refine zloopS (v := zLsS (zA σ 0 j 0) (zA σ 0 j 1) (zA σ 0 j 2) x) (j := j) (n := n) hn (by omega) (fun i hi => ?_) ?_
  · show f_X12_can_L27 σ (nI j) a b c x _ _ = _
    unfold f_X12_can_L27 f_X12_can_B86_27
    rw [if_neg (znI_m1 (by omega)), zix_n (by omega) (by omega)]
    simp only [Option.bind_some]
    rw [he, zq40, zmulI, nI_add, if_neg (by rw [nI_leI (by omega) (by omega)]; omega), zix_n (by omega) (by omega)]
    simp only [Option.bind_some]
    rw [nI_1, zLsS]
    obtain ⟨k1, k2, -⟩ := zSt1_K (hst i hi)
    by_cases a1 : zA σ 0 j 0 i = 0
    · obtain ⟨g1, g2⟩ := k2 a1
      rw [if_pos (k1.mpr a1), ← g1, ← g2]
      simp only [a1, true_and]
      split <;> rfl
    · rw [if_neg (fun h => a1 (k1.mp h)), if_neg (fun h => a1 h.1)]
  · show f_X12_can_L27 σ (nI j) a b c x _ _ = _
    unfold f_X12_can_L27
    rw [if_neg (znI_m1 (by omega)), zix_n (by omega) (by omega)]
    simp only [Option.bind_some]
    rw [he, zq40, zmulI, nI_add, if_pos (nI_le (Nat.le_refl _) (by omega))]
theorem X12_can_b {σ : zM} {j n : Nat} {M : Nat} (hj : j < 6) (hn : n ≤ 40) (he : zA σ 12 0 25 j = nI n) (hst : ∀ i, i < n → zSt1 σ M j i) (hr : ∀ r, 1 ≤ r → r ≤ 12 → f_X12_rate σ (nI j) (nI r) = some (zA σ 0 j 6 r)) : f_X12_can σ (nI j) = some (zCan (zA σ 0 j 0) (zA σ 0 j 1) (zA σ 0 j 2) (zA σ 0 j 6) n) := by
  obtain ⟨G, hG⟩ : ∃ G : Nat → Int64 × Int64, G = zCa (fun r => zLsS (zA σ 0 j 0) (zA σ 0 j 1) (zA σ 0 j 2) (nI r) n) (zA σ 0 j 6) := ⟨_, rfl⟩
  unfold f_X12_can
  have hw := zwh_up (f := fun (q : (Int64 × Int64 × Int32)) => f_X12_can_L11 σ (nI j) (-1) q.1 q.2.1 q.2.2) (fun i => ((G i).1, (G i).2, nI (i + 1))) 12 (t := ((G 12).1, (G 12).2)) ?_ ?_ (by omega)
  · rw [show ((0 : Int64), (0 : Int64), (1 : Int32)) = (fun i => ((G i).1, (G i).2, nI (i + 1))) 0 from by rw [hG]; rfl, hw]
    simp only [Option.bind_some]
    unfold f_X12_can_B121
    have hm := zloopS (f := fun (q : (Int32 × Int32)) => f_X12_can_L127 σ (nI j) (G 12).1 (G 12).2 q.1 q.2) (v := zMo (zfrom (zA σ 12 0 27) (40 * j)) (zfrom (zA σ 12 0 28) (40 * j))) (j := j) (n := n) hn (by omega) ?_ ?_
    · rw [zq40, zmulI, show (-1 : Int32) = zMo (zfrom (zA σ 12 0 27) (40 * j)) (zfrom (zA σ 12 0 28) (40 * j)) 0 from rfl, hm]
      simp only [Option.bind_some]
      unfold f_X12_can_B196 zCan
      rw [← hG]
      simp only
      by_cases hc : (G 12).1 ≤ 160
      · rw [if_pos hc, if_pos hc]
        rcases zMo_p (S := zfrom (zA σ 12 0 27) (40 * j)) (F1 := zfrom (zA σ 12 0 28) (40 * j)) (n := n) (fun i hi hs => ((zSt1_K (hst i hi)).2.2.2 ((zSt1_K (hst i hi)).2.2.1.mp hs)).2) with ⟨h1, h2⟩ | ⟨v, h0, h1, ⟨i, hi, h2, h3⟩, h4⟩
        · rw [h1, if_pos rfl, if_neg]
          rintro ⟨i, hi, h5, -⟩
          exact h2 i hi ((zSt1_K (hst i hi)).2.2.1.mpr h5)
        · rw [h1, if_neg (znI_m1 (by omega))]
          by_cases hs : (G 12).2 ≤ (nI v).toInt64
          · rw [if_pos hs, if_neg]
            rintro ⟨k, hk, h5, h6⟩
            obtain ⟨k1, u, hu, k2⟩ := (zSt1_K (hst k hk)).2.2.2 h5
            have hvu := h4 k u hk ((zSt1_K (hst k hk)).2.2.1.mpr h5) hu k2
            apply h6
            rw [k1, k2]
            rw [fa_le64] at hs ⊢
            rw [Int32.toInt_toInt64, nI_toInt (by omega)] at hs ⊢
            omega
          · rw [if_neg hs, if_pos]
            have h5 := (zSt1_K (hst i hi)).2.2.1.mp h2
            refine ⟨i, hi, h5, ?_⟩
            rw [((zSt1_K (hst i hi)).2.2.2 h5).1, show zA σ 12 0 28 (40 * j + i) = nI v from h3]
            exact hs
      · rw [if_neg hc, if_neg hc]
    · intro i hi
      show f_X12_can_L127 σ (nI j) _ _ _ _ = _
      unfold f_X12_can_L127 f_X12_can_B188_127 f_X12_can_B190_127
      rw [if_neg (znI_m1 (by omega)), zix_n (by omega) (by omega)]
      simp only [Option.bind_some]
      rw [he, zq40, zmulI, nI_add, if_neg (by rw [nI_leI (by omega) (by omega)]; omega), zix_n (by omega) (by omega)]
      simp only [Option.bind_some]
      rw [nI_1, zMo]
      show _ = some (Sum.inl ((if zA σ 12 0 27 (40 * j + i) = 15 then _ else _), _))
      by_cases a1 : zA σ 12 0 27 (40 * j + i) = 15
      · rw [if_pos a1, if_pos a1]
        split <;> rfl
      · rw [if_neg a1, if_neg a1]
    · show f_X12_can_L127 σ (nI j) _ _ _ _ = _
      unfold f_X12_can_L127
      rw [if_neg (znI_m1 (by omega)), zix_n (by omega) (by omega)]
      simp only [Option.bind_some]
      rw [he, zq40, zmulI, nI_add, if_pos (nI_le (Nat.le_refl _) (by omega))]
  · intro i hi
    show f_X12_can_L11 σ (nI j) (-1) _ _ _ = _
    unfold f_X12_can_L11 f_X12_can_B92_11
    rw [if_neg (by rw [zq12, nI_ltI (by omega) (by omega)]; omega), X12_can_27 hj hn he hst]
    simp only [Option.bind_some]
    rw [hr _ (by omega) (by omega)]
    simp only [Option.bind_some]
    rw [nI_1, hG]
    rfl
  · show f_X12_can_L11 σ (nI j) (-1) _ _ _ = _
    unfold f_X12_can_L11
    rw [if_pos (show (12 : Int32) < nI (12 + 1) by decide)]
