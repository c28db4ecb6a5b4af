/-! expressions: a comparison -/
def zKw (T : Nat → Nat) (n N i : Nat) : Int32 := if (decide (i < N) && zcL T (zTs T n i) && decide (zTe T n (zTs T n i) - zTs T n i ≤ 8)) = true then zCd (zW5 T (zTs T n i) (zTe T n (zTs T n i) - zTs T n i)) else -1
theorem zKw_c {T : Nat → Nat} {n N i c : Nat} (hc : c < 36) : zKw T n N i = nI c ↔ zIsW T n N i c = true := by
  unfold zKw zIsW
  by_cases h : (decide (i < N) && zcL T (zTs T n i) && decide (zTe T n (zTs T n i) - zTs T n i ≤ 8)) = true
  · rw [if_pos h, h, Bool.true_and, decide_eq_true_eq]
  · rw [if_neg h]
    refine ⟨fun e => absurd e.symm (znI_m1 (by omega)), fun e => ?_⟩
    rw [Bool.and_eq_true] at e
    exact absurd e.1 h
theorem zKw_v (T : Nat → Nat) (n N i : Nat) : zKw T n N i = -1 ∨ ∃ c, c < 36 ∧ zKw T n N i = nI c := by
  unfold zKw
  split
  · exact zCd_v _
  · exact Or.inl rfl
theorem X4_kw {σ : zM} {T : Nat → Nat} {n N i : Nat} (h : zCP σ T n N i) : f_X4_keyword σ = some (zKw T n N i) := by
  have hw : ∀ c, c < 36 → ((zA σ 4 0 3 i = 1 ∧ zL σ 4 0 5 i = (nI c).toInt64) ↔ zKw T n N i = nI c) := fun c hc => by rw [X4_wd hc h, zKw_c hc]
  unfold f_X4_keyword
  rw [X4_kind h, Option.bind_some, X4_val h, Option.bind_some]
  rcases zKw_v T n N i with e | ⟨c, hc, e⟩
  · have hk : ¬ zA σ 4 0 3 i = 1 := by
      intro hk
      obtain ⟨⟨h9, hN, hl, h4, h5, h6⟩, h2, h3⟩ := h
      by_cases hi : i < N
      · obtain ⟨e1, e2⟩ := h5 i hi
        rw [e1] at hk
        unfold zTkd at hk
        unfold zKw at e
        rw [decide_eq_true hi, Bool.true_and] at e
        by_cases hL : zcL T (zTs T n i) = true
        · rw [if_pos hL] at hk
          by_cases h8 : zTe T n (zTs T n i) - zTs T n i ≤ 8
          · rw [if_pos h8] at hk
            rw [hL, decide_eq_true h8, if_pos (show (true && true) = true from rfl)] at e
            rw [if_pos e] at hk
            exact absurd hk (by decide)
          · rw [if_neg h8] at hk
            exact absurd hk (by decide)
        · rw [if_neg hL] at hk
          split at hk
          · split at hk
            · exact absurd hk (by decide)
            · exact absurd hk (by decide)
          · split at hk
            · exact absurd hk (by decide)
            · exact absurd hk (by decide)
      · have : i = N := by omega
        rw [this, h6] at hk
        exact absurd hk (by decide)
    rw [if_neg hk, if_pos rfl, e]
  · obtain ⟨h1, h2⟩ := (hw c hc).mpr e
    rw [if_pos h1, if_neg z10, h2, nI_l (by omega), lN_i, e]
theorem X12_wrd2 {σ : zM} {T : Nat → Nat} {n N i : Nat} (hN : zTs T n N = n ∧ ∀ i, i < N → zTs T n i < n) (hi : i ≤ N) (h : zRP σ T n i) : ∃ w σ', f_X12_word_ σ = some (w, σ') ∧ zEx [(12, 21), (12, 40)] σ σ' ∧ zRN σ' T n i ∧ (∀ c, c < 36 → (w = zW8t c ↔ zKw T n N i = nI c)) ∧ ∀ c, c < 36 → zKw T n N i = nI c → zRP (zsI σ' 12 0 21 (zI σ' 12 0 40)) T n (i + 1) ∧ i < N ∧ zTs T n i + (zLq c).length ≤ zTs T n (i + 1) := by
  obtain ⟨hr, p, hp, hpa, hat⟩ := h
  obtain ⟨σ1, w1, w2, w3, w4⟩ := X12_word_ hr hp hat hpa.symm rfl
  have hr1 := zTr_fr hr w2 (by decide) (by decide)
  refine ⟨_, σ1, w1, w2, ⟨hr1, w3⟩, fun c hc => by rw [zW8_c hc hN hi rfl, zKw_c hc], fun c hc e => ?_⟩
  obtain ⟨h1, h2, h3⟩ := zIsW_l hc hN ((zKw_c hc).mp e)
  have ha := hN.2 i h1
  have hE := zTe_b (T := T) ha
  have hS := zTs_s ha
  refine ⟨⟨zTr_fr hr1 (F := [(12, 21)]) (zEx_sI (by decide)) (by decide) (by decide), zTe T n (zTs T n i), hE.2, hS.1.symm, ?_⟩, h1, by omega⟩
  rw [w4, zle_y h2]
  rfl
theorem zln4 {o : Nat} (ho : o < 7) : zln 0 o 4 = 300 := by
  unfold zln
  rw [if_neg (by omega)]
  rfl
theorem X0_emit {σ : zM} {o c : Nat} {op : Int32} (ho : o < 7) (h : zI σ 0 o 8 = nI c) (hc : c < 300) : f_X0_emit σ o op = some (1, zsI (zsA σ 0 o 4 c op) 0 o 8 (nI (c + 1))) := by
  unfold f_X0_emit
  rw [h, zln4 ho, if_neg (zlt0 (by omega)), if_pos (nI_lt hc (by omega)), zix_n hc (by omega), Option.bind_some, zlt_e]
  rw [show zI (zsA σ 0 o 4 c op) 0 o 8 = nI c from h, nI_1, zlt_e]
theorem X12_nd {σ : zM} {m : Nat} {k : Int32} (h : zI σ 12 0 18 = nI m) (hm : m < 5400) : f_X12_node σ k = some (nI m, zsI (zsA (zsA (zsA σ 12 0 31 m k) 12 0 32 m (-1)) 12 0 33 m (-1)) 12 0 18 (nI (m + 1))) := by
  unfold f_X12_node
  rw [h, zix_n hm (by omega), Option.bind_some, zlt_e]
  rw [show zI (zsA σ 12 0 31 m k) 12 0 18 = nI m from h, zix_n hm (by omega), Option.bind_some, zlt_e]
  rw [show zI (zsA (zsA σ 12 0 31 m k) 12 0 32 m (-1)) 12 0 18 = nI m from h, zix_n hm (by omega), Option.bind_some, zlt_e]
  rw [show zI (zsA (zsA (zsA σ 12 0 31 m k) 12 0 32 m (-1)) 12 0 33 m (-1)) 12 0 18 = nI m from h, nI_1, zlt_e]
  rw [show zI (zsI (zsA (zsA (zsA σ 12 0 31 m k) 12 0 32 m (-1)) 12 0 33 m (-1)) 12 0 18 (nI (m + 1))) 12 0 18 = nI (m + 1) from rfl, nI_pred]
/-- both within an expression -/
def zXp (σ σ' : zM) (T : Nat → Nat) (n N i : Nat) (W : Nat → List Nat) (k0 pd t o c m d : Nat) : Prop := zPC σ T n N i W k0 pd t ∧ zPR σ' T n i W (k0 + pd) t ∧ zR σ 4 0 7 = some o ∧ zI σ 0 o 8 = nI c ∧ zI σ' 12 0 18 = nI m ∧ zI σ' 12 0 22 = nI d
def zFxC : List (Nat × Nat) := [(4, 8), (4, 9), (0, 4), (0, 8)]
def zFxR : List (Nat × Nat) := [(12, 21), (12, 22), (12, 40), (12, 41), (12, 18), (12, 31), (12, 32), (12, 33), (12, 34), (12, 35), (12, 36)]
def zXo (σ σ1 : zM) (o : Nat) : Prop := ∀ o', o' ≠ o → zA σ1 0 o' 4 = zA σ 0 o' 4 ∧ zI σ1 0 o' 8 = zI σ 0 o' 8
def zXs (σ σ' σ1 σ1' : zM) (T : Nat → Nat) (n N i : Nat) (W : Nat → List Nat) (k0 pd t o c m d D L e i' c' m' node : Nat) (V : (Nat → Int32) → Bool) : Prop := zEx zFxC σ σ1 ∧ zEx zFxR σ' σ1' ∧ zXo σ σ1 o ∧ zXp σ1 σ1' T n N i' W k0 pd t o c' m' d ∧ zTs T n i ≤ zTs T n i' ∧ c ≤ c' ∧ (∀ x, x < c → zA σ1 0 o 4 x = zA σ 0 o 4 x) ∧ zBel (znd σ') (znd σ1') m ∧ m ≤ m' ∧ m' + e + zTs T n i ≤ m + zTs T n i' ∧ 3 * c' + 3 + zTs T n i ≤ 3 * c + zTs T n i' ∧ zCo (zseg (zA σ1 0 o 4) c c') V D ∧ zNx (znd σ1') m' L m node V ∧ zA σ1' 12 0 33 node = -1
def zXf (σ σ' σ1 σ1' : zM) (T : Nat → Nat) (n N : Nat) (W : Nat → List Nat) (k0 pd t o m i' : Nat) : Prop := zEx zFxC σ σ1 ∧ zEx zFxR σ' σ1' ∧ zXo σ σ1 o ∧ zPC σ1 T n N i' W k0 pd t ∧ zPX σ1' T n i' W (k0 + pd) t ∧ zBel (znd σ') (znd σ1') m
def zXR (fc fr : Option (Int32 × zM)) (σ σ' : zM) (T : Nat → Nat) (n N i : Nat) (W : Nat → List Nat) (k0 pd t o c m d D L e : Nat) : Prop := (∃ σ1 σ1' i' c' m' node V, fc = some (1, σ1) ∧ fr = some (nI node, σ1') ∧ zXs σ σ' σ1 σ1' T n N i W k0 pd t o c m d D L e i' c' m' node V) ∨ ∃ σ1 σ1' i', fc = some (0, σ1) ∧ fr = some (-1, σ1') ∧ zXf σ σ' σ1 σ1' T n N W k0 pd t o m i'
theorem zask : ∀ c, c = 7 ∨ (29 ≤ c ∧ c ≤ 35) → f_X12_asked (zW8t c) = nI (zsub (nI c)) ∧ zsub (nI c) < 8 ∧ 4 ≤ (zLq c).length ∧ c < 36 := by
  intro c hc
  have : c = 7 ∨ c = 29 ∨ c = 30 ∨ c = 31 ∨ c = 32 ∨ c = 33 ∨ c = 34 ∨ c = 35 := by omega
  rcases this with rfl | rfl | rfl | rfl | rfl | rfl | rfl | rfl <;> decide +kernel
theorem zask_n {w : Int64} (h : ∀ c, c = 7 ∨ (29 ≤ c ∧ c ≤ 35) → w ≠ zW8t c) : f_X12_asked w = -1 := by
  unfold f_X12_asked
  rw [if_neg (fun e => h 29 (by omega) (e.trans z8_29.symm)), if_neg (fun e => h 7 (by omega) (e.trans z8_7.symm)), if_neg (fun e => h 30 (by omega) (e.trans z8_30.symm)), if_neg (fun e => h 31 (by omega) (e.trans z8_31.symm)), if_neg (fun e => h 32 (by omega) (e.trans z8_32.symm)), if_neg (fun e => h 33 (by omega) (e.trans z8_33.symm)), if_neg (fun e => h 34 (by omega) (e.trans z8_34.symm)), if_neg (fun e => h 35 (by omega) (e.trans z8_35.symm))]
theorem zbel_up {σ σ' : zM} {m : Nat} (h : ∀ k, k = 31 ∨ k = 32 ∨ k = 33 ∨ k = 34 ∨ k = 35 ∨ k = 36 → ∀ j, j < m → zA σ' 12 0 k j = zA σ 12 0 k j) : zBel (znd σ) (znd σ') m := fun j hj => ⟨h 31 (by omega) j hj, h 32 (by omega) j hj, h 33 (by omega) j hj, h 34 (by omega) j hj, h 35 (by omega) j hj, h 36 (by omega) j hj⟩
