/-! the start: the words -/
theorem zwd36 : ((f_X11_init (zclr z00 11 0)).map fun σ => (List.range 36).map fun j => zL σ 10 0 0 j) = some ((List.range 36).map fun j => lN (zP5 ((["room", "near", "apart", "rate", "wall", "way", "stair", "cost", "out", "close", "keep", "vote", "tie", "fee", "least", "light", "within", "by", "most", "span", "if", "or", "and", "not", "first", "rank", "pair", "head", "number", "cells", "ways", "stairs", "rooms", "dark", "late", "storeys"].getD j "").toList.map fun ch => ch.toNat - 96))) := by decide +kernel
def zFi : List (Nat × Nat) := [(11, 11), (4, 7), (8, 0), (8, 4), (2, 0), (10, 0), (0, 5), (0, 6), (0, 7), (0, 8), (12, 2), (12, 6), (12, 24), (12, 55)]
theorem zZ11 : ∃ σ1, f_X11_init (zclr z00 11 0) = some σ1 ∧ zEx zFi z00 σ1 ∧ zI σ1 11 0 11 = -1 ∧ (zA σ1 8 0 0 0 = nI 4 ∧ zA σ1 8 0 0 1 = nI 6 ∧ zA σ1 8 0 0 2 = nI 8 ∧ zA σ1 8 0 0 3 = nI 6) ∧ zI σ1 8 0 4 = -1 ∧ (∀ i, i < 280 → zA σ1 2 0 0 i = nI 1001) ∧ zI σ1 0 7 7 = 0 ∧ (∀ w, w < 11 → zA σ1 0 7 5 w = nI (zels w)) ∧ (∀ r, r < 13 → zA σ1 0 7 6 r = 100) := by
  -- up to the charter
  obtain ⟨s5, h5⟩ : ∃ x, x = zclr (f_X5_init (zclr (f_X9_init (zclr (zclr z00 11 0) 9 0)) 5 0)) 1 0 := ⟨_, rfl⟩
  have x5 : zEx zFi z00 s5 := by
    rw [h5]
    unfold f_X5_init f_X9_init
    simp only [zlt_e]
    exact zZ_clr (zZ_sI (zZ_sI (zZ_clA (zZ_clr (zZ_sI (zZ_clA (zZ_clr (zZ_clr zEx.rf))))))))
  obtain ⟨t1, e1⟩ : ∃ x, x = zclA (zclA (zclA (zclA (zclA (zsI (zsI (zsI (zclA (zclA (zclr (zclA s5 1 0 0) 0 7) 0 7 5) 0 7 6) 0 7 7 0) 0 7 8 0) 0 7 9 0) 0 7 0) 0 7 1) 0 7 2) 0 7 3) 0 7 4 := ⟨_, rfl⟩
  have y1 : zEx zFi z00 t1 := by
    rw [e1]
    exact zZ_clA (zZ_clA (zZ_clA (zZ_clA (zZ_clA (zZ_sI (zZ_sI (zZ_sI (zZ_clA (zZ_clA (zZ_clr (zZ_clA x5)))))))))))
  obtain ⟨t2, w1, w2, w3, w4, w5, w6, -⟩ := X0_wipe (σ := t1) (o := 7)
  obtain ⟨s6, h6⟩ : ∃ x, x = zsR (zsI t2 1 0 2 0) 1 0 3 none := ⟨_, rfl⟩
  have hs6 : f_X1_init s5 = some s6 := by
    unfold f_X1_init f_X0_init7
    simp only [zlt_e]
    rw [← e1, w1, Option.bind_some, Option.bind_some, h6]
  have x6 : zEx zFi z00 s6 := by
    rw [h6]
    exact zZ_sR (zZ_sI (y1.tr (w2.mo (by decide))))
  obtain ⟨s7, a1, a2⟩ := X10_ini (σ := zclr (zclr s6 4 0) 10 0)
  obtain ⟨t3, e3⟩ : ∃ x, x = zclA (zclA (zclA (zclA (zclA (zsI (zsI (zsI (zclA (zclA (zclr (zclA (zclA (zclA (zclA s7 4 0 3) 4 0 4) 4 0 5) 4 0 6) 0 8) 0 8 5) 0 8 6) 0 8 7 0) 0 8 8 0) 0 8 9 0) 0 8 0) 0 8 1) 0 8 2) 0 8 3) 0 8 4 := ⟨_, rfl⟩
  obtain ⟨t4, v1, v2, v3, v4, v5, v6, v7⟩ := X0_wipe (σ := t3) (o := 8)
  obtain ⟨s8, h8⟩ : ∃ x, x = zsI (zsI (zsR t4 4 0 7 (some 8)) 4 0 8 0) 4 0 9 0 := ⟨_, rfl⟩
  have hs8 : f_X4_init (zclr s6 4 0) = some s8 := by
    unfold f_X4_init f_X0_init8
    simp only [zlt_e]
    rw [a1, Option.bind_some, ← e3, v1, Option.bind_some, Option.bind_some, h8]
  have y3 : zEx zFi z00 t3 := by
    rw [e3]
    exact zZ_clA (zZ_clA (zZ_clA (zZ_clA (zZ_clA (zZ_sI (zZ_sI (zZ_sI (zZ_clA (zZ_clA (zZ_clr (zZ_clA (zZ_clA (zZ_clA (zZ_clA ((zZ_clr (zZ_clr x6)).tr (a2.mo (by decide)))))))))))))))))
  have x8 : zEx zFi z00 s8 := by
    rw [h8]
    exact zZ_sI (zZ_sI ((y3.tr (v2.mo (by decide))).tr (zEx_sR (by decide))))
  have x68 : ∀ k, zA s8 0 7 k = zA s6 0 7 k := fun k => by
    rw [h8]
    show zA t4 0 7 k = _
    rw [(v7 7 k (by omega)).1, e3]
    show zA (zclA (zclA (zclA (zclA (zclA (zclA (zclA (zclA (zclA (zclA (zclA s7 4 0 3) 4 0 4) 4 0 5) 4 0 6) 0 8 5) 0 8 6) 0 8 0) 0 8 1) 0 8 2) 0 8 3) 0 8 4) 0 7 k = _
    rw [zA_clA, if_neg (by omega), zA_clA, if_neg (by omega), zA_clA, if_neg (by omega), zA_clA, if_neg (by omega), zA_clA, if_neg (by omega), zA_clA, if_neg (by omega), zA_clA, if_neg (by omega), zA_clA, if_neg (by omega), zA_clA, if_neg (by omega), zA_clA, if_neg (by omega), zA_clA, if_neg (by omega)]
    by_cases h : (0, k) ∈ ([(10, 0)] : List (Nat × Nat))
    · simp at h
    · rw [a2.2.2.2.1 0 7 k h]
      rfl
  have i68 : zI s8 0 7 7 = zI s6 0 7 7 := by
    rw [h8]
    show zI t4 0 7 7 = _
    rw [(v7 7 7 (by omega)).2, e3]
    show zI s7 0 7 7 = _
    rw [a2.1 0 7 7 (by decide)]
    rfl
  obtain ⟨s10, h10⟩ : ∃ x, x = f_X8_init (zclr s8 8 0) := ⟨_, rfl⟩
  have x10 : zEx zFi z00 s10 := by
    rw [h10]
    unfold f_X8_init
    simp only [zlt_e]
    exact (zZ_clA (zZ_clA (zZ_clA ((((zZ_clA (zZ_clr x8)).tr (zEx_sA (by decide))).tr (zEx_sA (by decide))).tr ((zEx_sA (by decide)).tr (zEx_sA (by decide))))))).tr (zEx_sI (by decide))
  obtain ⟨s13, h13⟩ : ∃ x, x = zclr (f_X3_init (zclr s10 3 0)) 2 0 := ⟨_, rfl⟩
  have x13 : zEx zFi z00 s13 := by
    rw [h13]
    unfold f_X3_init
    simp only [zlt_e]
    exact zZ_clr (zZ_sI (zZ_sI (zZ_clA (zZ_clA (zZ_clA (zZ_clA (zZ_clr x10)))))))
  obtain ⟨s14, b1, b2, b3⟩ := X2_iniL (σ := zsI (zclA s13 2 0 0) 2 0 1 0)
  have hs14 : f_X2_init s13 = some s14 := by
    unfold f_X2_init
    simp only [zlt_e]
    rw [b1, Option.bind_some]
  have x14 : zEx zFi z00 s14 := (zZ_sI (zZ_clA x13)).tr (b2.mo (by decide))
  obtain ⟨σ1, hσ1⟩ : ∃ x, x = zsI (zsI (zsI (zsI (zsI (zsJ (zsI (zsI (zsI (f_X6_init (zclr (f_X6_init (zclr (zclA s14 11 0 7) 6 0) 0) 6 1) 1) 11 0 10 0) 11 0 11 (-1)) 11 0 12 0) 11 0 13 0) 11 0 14 0) 11 0 15 0) 11 0 16 0) 11 0 17 0) 11 0 18 0 := ⟨_, rfl⟩
  have hA : ∀ c i k, c ≠ 6 → c ≠ 11 → zA σ1 c i k = zA s14 c i k := fun c i k hc hc2 => by
    rw [hσ1]
    show zA (f_X6_init (zclr (f_X6_init (zclr (zclA s14 11 0 7) 6 0) 0) 6 1) 1) c i k = _
    unfold f_X6_init
    simp only [zlt_e]
    show zA (zclA (zclA (zclA (zclA (zclA (zclA _ 6 1 0) 6 1 1) 6 1 2) 6 1 3) 6 1 4) 6 1 5) c i k = _
    rw [zA_clA, if_neg (by omega), zA_clA, if_neg (by omega), zA_clA, if_neg (by omega), zA_clA, if_neg (by omega), zA_clA, if_neg (by omega), zA_clA, if_neg (by omega)]
    show zA (zclA (zclA (zclA (zclA (zclA (zclA _ 6 0 0) 6 0 1) 6 0 2) 6 0 3) 6 0 4) 6 0 5) c i k = _
    rw [zA_clA, if_neg (by omega), zA_clA, if_neg (by omega), zA_clA, if_neg (by omega), zA_clA, if_neg (by omega), zA_clA, if_neg (by omega), zA_clA, if_neg (by omega)]
    show zA (zclA s14 11 0 7) c i k = _
    rw [zA_clA, if_neg (by omega)]
  have hI8 : zI σ1 8 0 4 = zI s14 8 0 4 := by rw [hσ1]; rfl
  have hI0 : zI σ1 0 7 7 = zI s14 0 7 7 := by rw [hσ1]; rfl
  have g14 : ∀ k, zA s14 0 7 k = zA s8 0 7 k := fun k => by
    by_cases h : (0, k) ∈ ([(2, 0)] : List (Nat × Nat))
    · simp at h
    · rw [b2.2.2.2.1 0 7 k h]
      show zA (zclA s13 2 0 0) 0 7 k = _
      rw [zA_clA, if_neg (by omega), h13]
      unfold f_X3_init
      simp only [zlt_e]
      show zA (zclA (zclA (zclA (zclA _ 3 0 0) 3 0 1) 3 0 2) 3 0 3) 0 7 k = _
      rw [zA_clA, if_neg (by omega), zA_clA, if_neg (by omega), zA_clA, if_neg (by omega), zA_clA, if_neg (by omega)]
      show zA s10 0 7 k = _
      rw [h10]
      unfold f_X8_init
      simp only [zlt_e]
      show zA (zclA (zclA (zclA _ 8 0 1) 8 0 2) 8 0 3) 0 7 k = _
      rw [zA_clA, if_neg (by omega), zA_clA, if_neg (by omega), zA_clA, if_neg (by omega), zA_sA, if_neg (by omega), zA_sA, if_neg (by omega), zA_sA, if_neg (by omega), zA_sA, if_neg (by omega), zA_clA, if_neg (by omega)]
      rfl
  have hsun : zA σ1 8 0 0 = zA s10 8 0 0 := by
    rw [hA 8 0 0 (by decide) (by decide), b2.2.2.2.1 8 0 0 (by decide), h13]
    rfl
  refine ⟨σ1, ?_, ?_, ?_, ⟨?_, ?_, ?_, ?_⟩, ?_, fun i hi => ?_, ?_, fun w hw => ?_, fun r hr => ?_⟩
  · unfold f_X11_init
    simp only [zlt_e]
    rw [← h5, hs6, Option.bind_some, hs8, Option.bind_some, ← h10, ← h13, hs14, Option.bind_some, hσ1]
  · rw [hσ1]
    unfold f_X6_init
    simp only [zlt_e]
    exact zZ_sI (zZ_sI (zZ_sI (zZ_sI (zZ_sI (zZ_sJ (zZ_sI ((zZ_sI (zZ_sI (zZ_sI (zZ_sI (zZ_clA (zZ_clA (zZ_clA (zZ_clA (zZ_clA (zZ_clA (zZ_clr (zZ_sI (zZ_sI (zZ_sI (zZ_clA (zZ_clA (zZ_clA (zZ_clA (zZ_clA (zZ_clA (zZ_clr (zZ_clA x14)))))))))))))))))))))).tr (zEx_sI (by decide)))))))))
  · rw [hσ1]
    rfl
  · rw [hsun, h10]; rfl
  · rw [hsun, h10]; rfl
  · rw [hsun, h10]; rfl
  · rw [hsun, h10]; rfl
  · rw [hI8, b2.1 8 0 4 (by decide), h13]
    show zI s10 8 0 4 = _
    rw [h10]
    rfl
  · rw [hA 2 0 0 (by decide) (by decide)]
    exact b3 i hi
  · rw [hI0, b2.1 0 7 7 (by decide), h13]
    show zI s10 0 7 7 = _
    rw [h10]
    show zI s8 0 7 7 = _
    rw [i68, h6]
    exact w3
  · rw [hA 0 7 5 (by decide) (by decide), g14, x68, h6]
    exact w5 w hw
  · rw [hA 0 7 6 (by decide) (by decide), g14, x68, h6]
    exact w6 r hr
