/-! alike: the class's count -/
def zalp (C D : Nat → Nat) (t j : Nat) : Bool := decide (C j ≠ 0) && decide (C j = D (ztn t j))
theorem zat0 {σ : zM} {s x y : Nat} {C : Nat → Nat} (hX : zCX σ s C) (hx : x < 10) (hy : y < 8) : f_X7_thingAt σ s (f_X7_placeOf 0 (nI x) (nI y)) = some (nI (C (10 * y + x))) := by
  have hk : 10 * y + x < 160 := by omega
  have hp := (zpl_in _ hk).2.2
  rw [show f_X7_placeOf 0 (nI x) (nI y) = nI (120 * 0 + 12 * (y + 1) + x + 1) from zplc, ← zplk (t := 0) (by omega) hx hy, show 80 * 0 + 10 * y + x = 10 * y + x by omega, zthing hp, hX.2.1 _ hp, zBd_pl hk]
theorem X7_al1 {σ : zM} {o s t y : Nat} {C D : Nat → Nat} {x2 x3 : Int32} (hC : zCX σ o C) (hD : zCX σ s D) (hy : y < 8) (h2 : (x2 = 0 ↔ t % 2 = 0)) (h3 : (x3 = 0 ↔ ¬ 2 ≤ t)) : zwh (fun (q : (Int32 × Int32)) => f_X7_alikeCellsTurned_L16 σ o s x2 x3 (nI y) q.1 q.2) zFu (nI (fb_ct (zalp C D t) (10 * y)), 0) = some (nI (fb_ct (zalp C D t) (10 * (y + 1)))) := by
  have hw := zwh_up (f := fun (q : (Int32 × Int32)) => f_X7_alikeCellsTurned_L16 σ o s x2 x3 (nI y) q.1 q.2) (fun i => (nI (fb_ct (zalp C D t) (10 * y + i)), nI i)) 10 (t := nI (fb_ct (zalp C D t) (10 * (y + 1)))) ?_ ?_ (by omega)
  · rw [show (nI (fb_ct (zalp C D t) (10 * y)), (0 : Int32)) = (fun i => (nI (fb_ct (zalp C D t) (10 * y + i)), nI i)) 0 from rfl, hw]
  · intro i hi
    have c1 := hC.1 (10 * y + i) (by omega)
    show f_X7_alikeCellsTurned_L16 σ o s x2 x3 (nI y) (nI (fb_ct (zalp C D t) (10 * y + i))) (nI i) = some (Sum.inl (nI (fb_ct (zalp C D t) (10 * y + i) + if zalp C D t (10 * y + i) then 1 else 0), nI (i + 1)))
    generalize fb_ct (zalp C D t) (10 * y + i) = w
    have e9 : (if x2 = 0 then nI i else (9 - nI i) : Int32) = nI (if t % 2 = 0 then i else 9 - i) := by
      by_cases h : t % 2 = 0
      · rw [if_pos (h2.mpr h), if_pos h]
      · rw [if_neg (mt h2.mp h), if_neg h, zq9, zsubI (by omega)]
    have e7 : (if x3 = 0 then nI y else (7 - nI y) : Int32) = nI (if 2 ≤ t then 7 - y else y) := by
      by_cases h : 2 ≤ t
      · rw [if_neg (fun e => h3.mp e h), if_pos h, zq7, zsubI (by omega)]
      · rw [if_pos (h3.mpr h), if_neg h]
    have et : ztn t (10 * y + i) = 10 * (if 2 ≤ t then 7 - y else y) + (if t % 2 = 0 then i else 9 - i) := by
      unfold ztn
      rw [show (10 * y + i) / 10 = y by omega, show (10 * y + i) % 10 = i by omega]
    have b9 : (if t % 2 = 0 then i else 9 - i) < 10 := by split <;> omega
    have b7 : (if 2 ≤ t then 7 - y else y) < 8 := by split <;> omega
    have c2 := hD.1 (ztn t (10 * y + i)) (by rw [et]; omega)
    unfold f_X7_alikeCellsTurned_L16 f_X7_alikeCellsTurned_B94_16
    rw [if_neg (by rw [zq10, nI_leI (by omega) (by omega)]; omega), zat0 hC hi hy, Option.bind_some, e9, e7, zat0 hD b9 b7, Option.bind_some, ← et, nI_1]
    unfold zalp
    by_cases p1 : C (10 * y + i) = 0
    · rw [if_pos (by rw [p1]; rfl)]
      simp [p1]
    · rw [if_neg (by rw [show (0 : Int32) = nI 0 from rfl, nI_eq (by omega) (by omega)]; exact p1)]
      by_cases p2 : C (10 * y + i) = D (ztn t (10 * y + i))
      · rw [if_pos (by rw [p2]), nI_1, if_pos (by simp [p2]; rw [← p2]; exact p1)]
      · rw [if_neg (by rw [nI_eq (by omega) (by omega)]; exact p2), if_neg (by simp [p2])]
        rfl
  · show f_X7_alikeCellsTurned_L16 σ o s x2 x3 (nI y) (nI (fb_ct (zalp C D t) (10 * y + 10))) (nI 10) = _
    unfold f_X7_alikeCellsTurned_L16
    rw [if_pos (show (10 : Int32) ≤ nI 10 by decide), show 10 * y + 10 = 10 * (y + 1) by omega]
theorem X7_al2 {σ : zM} {o s t : Nat} {C D : Nat → Nat} {x2 x3 : Int32} (hC : zCX σ o C) (hD : zCX σ s D) (h2 : (x2 = 0 ↔ t % 2 = 0)) (h3 : (x3 = 0 ↔ ¬ 2 ≤ t)) : f_X7_alikeCellsTurned σ o s x2 x3 = some (nI (zalk C D t)) := by
  have hw := zwh_up (f := fun (q : (Int32 × Int32)) => f_X7_alikeCellsTurned_L6 σ o s x2 x3 q.1 q.2) (fun i => (nI (fb_ct (zalp C D t) (10 * i)), nI i)) 8 (t := nI (zalk C D t)) ?_ ?_ (by omega)
  · unfold f_X7_alikeCellsTurned
    rw [show ((0 : Int32), (0 : Int32)) = (fun i => (nI (fb_ct (zalp C D t) (10 * i)), nI i)) 0 from rfl, hw, Option.bind_some]
  · intro i hi
    show f_X7_alikeCellsTurned_L6 σ o s x2 x3 (nI (fb_ct (zalp C D t) (10 * i))) (nI i) = _
    unfold f_X7_alikeCellsTurned_L6 f_X7_alikeCellsTurned_B100_6
    rw [if_neg (by rw [zq8, nI_leI (by omega) (by omega)]; omega), X7_al1 hC hD hi h2 h3, Option.bind_some, nI_1]
  · show f_X7_alikeCellsTurned_L6 σ o s x2 x3 (nI (fb_ct (zalp C D t) 80)) (nI 8) = _
    unfold f_X7_alikeCellsTurned_L6
    rw [if_pos (show (8 : Int32) ≤ nI 8 by decide)]
    rfl
