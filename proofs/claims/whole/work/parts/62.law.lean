/-! which brief binds -/
theorem zaddm1 (x : Int32) : x + (-1) = x - 1 := (Int32.sub_eq_add_neg x 1).symm

def zOx (o : Nat) : Int32 := if o = 7 then -1 else nI o
theorem zonN_lt (D : Nat → Int32) (t : Int32) : ∀ n, zonN D t n < n ∨ zonN D t n = 7
  | 0 => Or.inr rfl
  | n + 1 => by
    show (if D n ≤ t then n else zonN D t n) < n + 1 ∨ (if D n ≤ t then n else zonN D t n) = 7
    split
    · exact Or.inl (by omega)
    · exact (zonN_lt D t n).imp (fun h => by omega) id
theorem zonN_s (D : Nat → Int32) (t : Int32) (n : Nat) : zonN D t (n + 1) = if D n ≤ t then n else zonN D t n := rfl
theorem zOn_e {σ : zM} {nb : Nat} (h : zI σ 12 0 16 = nI nb) (hn : nb ≤ 6) (t : Int32) : zOn σ t = zonN (zA σ 12 0 26) t nb := by
  unfold zOn
  rw [h, nI_clamp (by omega)]
theorem zlt_not {a b : Int32} : a < b ↔ ¬ b ≤ a := by rw [fa_lt, fa_le]; omega
theorem X12_bindsOn {σ : zM} (h : iBri σ) (t : Int32) : f_X12_bindsOn σ t = some (zOx (zOn σ t)) := by
  obtain ⟨nb, M, h1, -, h3, -⟩ := h
  rw [zOn_e h3 h1]
  unfold f_X12_bindsOn
  rw [show ((-1 : Int32), (0 : Int32)) = (fun i => (zOx (zonN (zA σ 12 0 26) t i), nI i)) 0 from rfl, zwh_up (fun i => (zOx (zonN (zA σ 12 0 26) t i), nI i)) nb (t := zOx (zonN (zA σ 12 0 26) t nb))]
  · rfl
  · intro i hi
    show f_X12_bindsOn_L4 σ t _ _ = _
    unfold f_X12_bindsOn_L4 f_X12_bindsOn_B24_4
    rw [h3, if_neg (by rw [nI_leI (by omega) (by omega)]; omega), zix_n (by omega) (by omega)]
    simp only [Option.bind_some]
    rw [zonN_s]
    by_cases hc : zA σ 12 0 26 i ≤ t
    · rw [if_neg (by rw [zlt_not]; exact fun h => h hc), if_pos hc, nI_1]
      have e : zOx i = nI i := if_neg (by omega)
      rw [e]
    · rw [if_pos (zlt_not.mpr hc), if_neg hc, nI_1]
  · show f_X12_bindsOn_L4 σ t _ _ = _
    unfold f_X12_bindsOn_L4
    rw [h3, if_pos (nI_le (Nat.le_refl _) (by omega))]
  · omega
theorem X1_numberOn_w {σ : zM} {nb M : Nat} (t : Int32) (h1 : nb ≤ 6) (hb : ∀ j, j < nb → zO σ 1 0 0 j = some j ∧ iBr1 σ M j) : ∀ m n, m ≤ nb → m < n → zwh (fun q => f_X1_numberOn_L15 σ t q) n (nI m - 1) = some (if zonN (zA σ 12 0 26) t m = 7 then .inr () else .inl (nI (zonN (zA σ 12 0 26) t m))) := by
  intro m
  induction m with
  | zero =>
    intro n hm hn
    obtain ⟨n, rfl⟩ : ∃ k, n = k + 1 := ⟨n - 1, by omega⟩
    rw [if_pos (show zonN (zA σ 12 0 26) t 0 = 7 from rfl)]
    refine zwh_inr ?_
    show f_X1_numberOn_L15 σ t _ = _
    unfold f_X1_numberOn_L15
    rw [if_pos (by decide)]
  | succ m ih =>
    intro n hm hn
    obtain ⟨n, rfl⟩ : ∃ k, n = k + 1 := ⟨n - 1, by omega⟩
    rw [nI_pred]
    obtain ⟨ho, k, -, -, -, hd, -⟩ := hb m (by omega)
    rw [zonN_s]
    by_cases hc : zA σ 12 0 26 m ≤ t
    · rw [if_pos hc, if_neg (by omega)]
      refine zwh_inr ?_
      show f_X1_numberOn_L15 σ t _ = _
      unfold f_X1_numberOn_L15
      rw [if_neg (zlt0 (by omega)), zix_n (by omega) (by omega)]
      simp only [Option.bind_some]
      rw [ho]
      show (if t < zI σ 0 m 9 then _ else _) = _
      rw [hd, if_neg (by rw [zlt_not]; exact fun h => h hc)]
    · rw [if_neg hc, ← ih n (by omega) (by omega)]
      refine zwh_inl ?_
      show f_X1_numberOn_L15 σ t _ = _
      unfold f_X1_numberOn_L15 f_X1_numberOn_B40_15
      rw [if_neg (zlt0 (by omega)), zix_n (by omega) (by omega)]
      simp only [Option.bind_some]
      rw [ho]
      show (if t < zI σ 0 m 9 then _ else _) = _
      rw [hd, if_pos (zlt_not.mpr hc), zaddm1]
theorem X1_numberOn {σ : zM} (h : iBri σ) (t : Int32) : f_X1_numberOn σ t = some (zOx (zOn σ t)) := by
  obtain ⟨nb, M, h1, h2, h3, -, -, -, hb, -⟩ := h
  rw [zOn_e h3 h1]
  unfold f_X1_numberOn
  rw [h2, zq6, zminE (by omega) (by omega), Nat.min_eq_left h1, X1_numberOn_w t h1 hb nb zFu (Nat.le_refl _) (by show nb < 100000; omega)]
  unfold zOx
  by_cases h7 : zonN (zA σ 12 0 26) t nb = 7
  · rw [if_pos h7, if_pos h7]; rfl
  · rw [if_neg h7, if_neg h7]; rfl
theorem X1_on {σ : zM} (h : iBri σ) (t : Int32) : f_X1_on σ t = some (zOn σ t) := by
  have h0 := X1_numberOn h t
  obtain ⟨nb, M, h1, h2, h3, -, -, -, hb, -⟩ := h
  unfold f_X1_on f_X1_on_B28 f_X1_on_B29
  rw [h0]
  rw [zOn_e h3 h1]
  simp only [Option.bind_some]
  rcases zonN_lt (zA σ 12 0 26) t nb with hl | hl
  · have e : zOx (zonN (zA σ 12 0 26) t nb) = nI (zonN (zA σ 12 0 26) t nb) := if_neg (by omega)
    rw [e, if_neg (zlt0 (by omega)), if_neg (by rw [zq6, nI_leI (by omega) (by omega)]; omega), zix_n (by omega) (by omega)]
    simp only [Option.bind_some]
    rw [(hb _ hl).1]
    rfl
  · rw [hl]
    rw [if_pos (by decide)]
    rfl
theorem zOn_7 {σ : zM} (h : iBri σ) (t : Int32) : (∃ nb M, nb ≤ 6 ∧ zI σ 12 0 16 = nI nb ∧ zOn σ t < nb ∧ iBr1 σ M (zOn σ t)) ∨ zOn σ t = 7 := by
  obtain ⟨nb, M, h1, h2, h3, -, -, -, hb, -⟩ := h
  rcases zonN_lt (zA σ 12 0 26) t nb with hl | hl
  · rw [← zOn_e h3 h1] at hl
    exact Or.inl ⟨nb, M, h1, h3, hl, (hb _ hl).2⟩
  · rw [← zOn_e h3 h1] at hl
    exact Or.inr hl
/-- the briefs that bind: their number in both, terms and rates -/
theorem X0_term {σ : zM} (o : Nat) {w : Nat} (hw : w < 11) : f_X0_term σ o (nI w) = some (zA σ 0 o 5 w) := by
  unfold f_X0_term
  rw [if_neg (zlt0 (by omega)), if_neg (by rw [zq11, nI_leI (by omega) (by omega)]; omega), zix_n hw (by omega)]
  rfl
theorem X0_rate {σ : zM} (o : Nat) {r : Nat} (h1 : 1 ≤ r) (h2 : r ≤ 12) : f_X0_rate σ o (nI r) = some (zA σ 0 o 6 r) := by
  unfold f_X0_rate
  rw [if_neg (by rw [zq1, nI_ltI (by omega) (by omega)]; omega), if_neg (by rw [zq13, nI_leI (by omega) (by omega)]; omega), zix_n (by omega) (by omega)]
  rfl
theorem zbare {w : Nat} (hw : w < 11) : f_X12_bare (nI w) = nI (zels w) := (by decide +kernel : ∀ w, w < 11 → f_X12_bare (nI w) = nI (zels w)) w hw
/-- a loop of the reference over the statements of a brief -/
theorem zloopS {T : Type} {f : T × Int32 → Option ((T × Int32) ⊕ T)} {v : Nat → T} {j n : Nat} (hn : n ≤ 40) (hj : j < 7) (h1 : ∀ i, i < n → f (v i, nI (40 * j + i)) = some (.inl (v (i + 1), nI (40 * j + i + 1)))) (h2 : f (v n, nI (40 * j + n)) = some (.inr (v n))) : zwh f zFu (v 0, nI (40 * j)) = some (v n) :=
  zwh_up (fun i => (v i, nI (40 * j + i))) n h1 h2 (by omega)
theorem X12_tells_b {σ : zM} {j n w : Nat} (hj : j < 6) (hn : n ≤ 40) (he : zA σ 12 0 25 j = nI n) (hw : w < 11) : f_X12_tells σ (nI j) (nI w) = some (zTlS (zfrom (zA σ 12 0 27) (40 * j)) (zfrom (zA σ 12 0 28) (40 * j)) (zfrom (zA σ 12 0 29) (40 * j)) (zfrom (zA σ 12 0 30) (40 * j)) w n) := by
  unfold f_X12_tells
  rw [zbare hw, zq40, zmulI, show nI (zels w) = zTlS (zfrom (zA σ 12 0 27) (40 * j)) (zfrom (zA σ 12 0 28) (40 * j)) (zfrom (zA σ 12 0 29) (40 * j)) (zfrom (zA σ 12 0 30) (40 * j)) w 0 from rfl]
  rw [zloopS (v := zTlS (zfrom (zA σ 12 0 27) (40 * j)) (zfrom (zA σ 12 0 28) (40 * j)) (zfrom (zA σ 12 0 29) (40 * j)) (zfrom (zA σ 12 0 30) (40 * j)) w) (j := j) (n := n) hn (by omega)]
  · rfl
  · intro i hi
    show f_X12_tells_L11 σ (nI j) (nI w) _ _ = _
    unfold f_X12_tells_L11 f_X12_tells_B51_11 f_X12_tells_B87_11 f_X12_tells_B113_11 f_X12_tells_B139_11
    rw [if_neg (znI_m1 (by omega)), zix_n (by omega) (by omega)]
    simp only [Option.bind_some]
    rw [he, zq40, zmulI, nI_add, if_neg (by rw [nI_leI (by omega) (by omega)]; omega), zix_n (by omega) (by omega)]
    simp only [Option.bind_some]
    rw [nI_1]
    have hw10 : nI w = 10 ↔ w = 10 := by rw [zq10, nI_eq (by omega) (by omega)]
    have hw9 : nI w = 9 ↔ w = 9 := by rw [zq9, nI_eq (by omega) (by omega)]
    have hw3 : nI w = 3 ↔ w = 3 := by rw [zq3, nI_eq (by omega) (by omega)]
    rw [show zTlS (zfrom (zA σ 12 0 27) (40 * j)) (zfrom (zA σ 12 0 28) (40 * j)) (zfrom (zA σ 12 0 29) (40 * j)) (zfrom (zA σ 12 0 30) (40 * j)) w (i + 1) = (if zA σ 12 0 27 (40 * j + i) = 8 ∧ w = 10 then zA σ 12 0 30 (40 * j + i) else if zA σ 12 0 27 (40 * j + i) = 8 ∧ w = 9 then zA σ 12 0 29 (40 * j + i) else if zA σ 12 0 27 (40 * j + i) = 15 ∧ w = 3 ∧ zA σ 12 0 29 (40 * j + i) ≠ -1 then zA σ 12 0 29 (40 * j + i) else if zA σ 12 0 27 (40 * j + i) = nI w then zA σ 12 0 28 (40 * j + i) else zTlS (zfrom (zA σ 12 0 27) (40 * j)) (zfrom (zA σ 12 0 28) (40 * j)) (zfrom (zA σ 12 0 29) (40 * j)) (zfrom (zA σ 12 0 30) (40 * j)) w i) from rfl]
    simp only [hw10, hw9, hw3]
    generalize zTlS (zfrom (zA σ 12 0 27) (40 * j)) (zfrom (zA σ 12 0 28) (40 * j)) (zfrom (zA σ 12 0 29) (40 * j)) (zfrom (zA σ 12 0 30) (40 * j)) w i = V
    generalize zA σ 12 0 27 (40 * j + i) = S'
    generalize zA σ 12 0 28 (40 * j + i) = F1
    generalize zA σ 12 0 29 (40 * j + i) = F2
    generalize zA σ 12 0 30 (40 * j + i) = F3
    have b1 : ¬ ((8 : Int32) = 15) := by decide
    by_cases a1 : S' = 8
    · subst a1
      simp only [b1, true_and, if_true, false_and, if_false]
      by_cases c1 : w = 10
      · subst c1
        have c2 : ¬ ((10 : Nat) = 9) := by decide
        simp only [c2, if_true, if_false]
        split <;> rfl
      · by_cases c2 : w = 9
        · subst c2
          simp only [c1, if_true, if_false]
          split <;> rfl
        · simp only [c1, c2, if_false]
          split <;> rfl
    · simp only [a1, false_and, if_false]
      by_cases a2 : S' = 15
      · subst a2
        simp only [true_and, if_true]
        by_cases c3 : w = 3
        · subst c3
          by_cases c4 : F2 = -1
          · subst c4
            simp only [if_true, ne_eq, not_true, and_false, if_false]
            split <;> rfl
          · simp only [c4, if_false, ne_eq, not_false_iff, and_true, if_true]
            split <;> rfl
        · simp only [c3, if_false, false_and]
          split <;> rfl
      · simp only [a2, if_false, false_and]
        split <;> rfl
  · show f_X12_tells_L11 σ (nI j) (nI w) _ _ = _
    unfold f_X12_tells_L11
    rw [if_neg (znI_m1 (by omega)), zix_n (by omega) (by omega)]
    simp only [Option.bind_some]
    rw [he, zq40, zmulI, nI_add, if_pos (nI_le (Nat.le_refl _) (by omega))]
theorem X12_tells {σ : zM} (h : iBri σ) (t : Int32) {w : Nat} (hw : w < 11) : f_X12_tells σ (zOx (zOn σ t)) (nI w) = some (zA σ 0 (zOn σ t) 5 w) := by
  rcases zOn_7 h t with ⟨nb, M, h1, h2, h3, n, g1, g2, g3, -, -, g4, -⟩ | h7
  · have e : zOx (zOn σ t) = nI (zOn σ t) := if_neg (by omega)
    rw [e, X12_tells_b (by omega) g1 g3 hw, (g4 w hw).1]
  · rw [h7]
    obtain ⟨nb, M, -, -, -, -, -, -, -, -, -, hb, -⟩ := h
    rw [hb w hw]
    unfold f_X12_tells
    rw [zwh_now (t := f_X12_bare (nI w)) (by show f_X12_tells_L11 σ _ _ _ _ = _; unfold f_X12_tells_L11; rw [if_pos (by rfl)]), zbare hw]
    rfl
theorem X12_rate_b {σ : zM} {j n r : Nat} (hj : j < 6) (hn : n ≤ 40) (he : zA σ 12 0 25 j = nI n) : f_X12_rate σ (nI j) (nI r) = some (zRtS (zfrom (zA σ 12 0 27) (40 * j)) (zfrom (zA σ 12 0 28) (40 * j)) (zfrom (zA σ 12 0 29) (40 * j)) r n) := by
  unfold f_X12_rate
  rw [zq40, zmulI]
  rw [show (100 : Int32) = zRtS (zfrom (zA σ 12 0 27) (40 * j)) (zfrom (zA σ 12 0 28) (40 * j)) (zfrom (zA σ 12 0 29) (40 * j)) r 0 from rfl, zloopS (v := zRtS (zfrom (zA σ 12 0 27) (40 * j)) (zfrom (zA σ 12 0 28) (40 * j)) (zfrom (zA σ 12 0 29) (40 * j)) r) (j := j) (n := n) hn (by omega)]
  · rfl
  · intro i hi
    show f_X12_rate_L9 σ (nI j) (nI r) _ _ = _
    unfold f_X12_rate_L9 f_X12_rate_B61_9
    rw [if_neg (znI_m1 (by omega)), zix_n (by omega) (by omega)]
    simp only [Option.bind_some]
    rw [he, zq40, zmulI, nI_add, if_neg (by rw [nI_leI (by omega) (by omega)]; omega), zix_n (by omega) (by omega)]
    simp only [Option.bind_some]
    rw [nI_1, zRtS]
    simp only [zfrom]
    by_cases a1 : zA σ 12 0 27 (40 * j + i) = 14
    · simp only [a1, true_and, if_true]
      split <;> rfl
    · simp only [a1, false_and, if_false]
  · show f_X12_rate_L9 σ (nI j) (nI r) _ _ = _
    unfold f_X12_rate_L9
    rw [if_neg (znI_m1 (by omega)), zix_n (by omega) (by omega)]
    simp only [Option.bind_some]
    rw [he, zq40, zmulI, nI_add, if_pos (nI_le (Nat.le_refl _) (by omega))]
theorem X12_rate {σ : zM} (h : iBri σ) (t : Int32) {r : Nat} (h1 : 1 ≤ r) (h2 : r ≤ 12) : f_X12_rate σ (zOx (zOn σ t)) (nI r) = some (zA σ 0 (zOn σ t) 6 r) := by
  rcases zOn_7 h t with ⟨nb, M, h3, h4, h5, n, g1, g2, g3, -, -, -, -, g4, -⟩ | h7
  · have e : zOx (zOn σ t) = nI (zOn σ t) := if_neg (by omega)
    rw [e, X12_rate_b (by omega) g1 g3, (g4 r h1 h2).1]
  · rw [h7]
    obtain ⟨nb, M, -, -, -, -, -, -, -, -, -, -, hb⟩ := h
    rw [hb r h1 h2]
    unfold f_X12_rate
    rw [zwh_now (t := 100) (by show f_X12_rate_L9 σ _ _ _ _ = _; unfold f_X12_rate_L9; rw [if_pos (by rfl)])]
    rfl
theorem ob_binds (x1 : Int32) : zOb zInv (fun σ => (f_X11_binds σ x1).map (fun r => (r, σ))) (fun σ => (f_X12_binds σ x1).map (fun r => (r, σ))) := by
  refine zRO (g1 := fun σ => f_X11_binds σ x1) (g2 := fun σ => f_X12_binds σ x1) (fun n σ hn hI => ?_)
  obtain ⟨hDay, hFlt, hTap, hNam, hSun, hSch, hPai, hQue, hPan, hWds, hBri, hMen, hRnd⟩ := hI
  unfold f_X11_binds f_X12_binds
  rcases zisDay x1 with ⟨t, ht, rfl, e1, e2⟩ | ⟨e1, e2⟩
  · rw [e1, e2, if_neg z10, if_neg z10, X1_numberOn hBri, X12_bindsOn hBri]
    exact ⟨_, rfl, rfl⟩
  · rw [e1, e2, if_pos rfl, if_pos rfl]
    exact ⟨_, rfl, rfl⟩
