/-! alike: the greatest of four; the reference's count -/
def zalm (C D : Nat → Nat) : Nat → Nat
  | 0 => 0
  | t + 1 => Nat.max (zalm C D t) (zalk C D t)
theorem zalk_le (C D : Nat → Nat) (t : Nat) : zalk C D t ≤ 80 := fb_ct_le _ _
theorem zalm_le (C D : Nat → Nat) : ∀ t, zalm C D t ≤ 80
  | 0 => by show 0 ≤ 80; omega
  | t + 1 => Nat.max_le.mpr ⟨zalm_le C D t, zalk_le C D t⟩
theorem zalm_sym (C D : Nat → Nat) : ∀ t, t ≤ 4 → zalm C D t = zalm D C t
  | 0, _ => rfl
  | t + 1, h => by
    show Nat.max (zalm C D t) (zalk C D t) = Nat.max (zalm D C t) (zalk D C t)
    rw [zalm_sym C D t (by omega), zalk_sym C D (by omega)]
theorem X7_alike {σ : zM} {o s : Nat} {C D : Nat → Nat} (hC : zCX σ o C) (hD : zCX σ s D) : f_X7_alikeCells σ o s = some (nI (zalm C D 4)) := by
  have hw := zwh_up (f := fun (q : (Int32 × Int32)) => f_X7_alikeCells_L4 σ o s q.1 q.2) (fun i => (nI (zalm C D i), nI i)) 4 (t := nI (zalm C D 4)) ?_ ?_ (by omega)
  · unfold f_X7_alikeCells
    rw [show ((0 : Int32), (0 : Int32)) = (fun i => (nI (zalm C D i), nI i)) 0 from rfl, hw, Option.bind_some]
  · intro i hi
    have l1 := zalm_le C D i
    have l2 := zalk_le C D i
    have hb : ((if (nI i &&& 1) = 0 then 0 else 1 : Int32) = 0 ↔ i % 2 = 0) ∧ ((if (nI i &&& 2) = 0 then 0 else 1 : Int32) = 0 ↔ ¬ 2 ≤ i) := by
      have : i = 0 ∨ i = 1 ∨ i = 2 ∨ i = 3 := by omega
      rcases this with rfl | rfl | rfl | rfl <;> decide
    show f_X7_alikeCells_L4 σ o s (nI (zalm C D i)) (nI i) = some (Sum.inl (nI (Nat.max (zalm C D i) (zalk C D i)), nI (i + 1)))
    unfold f_X7_alikeCells_L4
    rw [if_neg (by rw [zq4, nI_leI (by omega) (by omega)]; omega), X7_al2 hC hD hb.1 hb.2, Option.bind_some, zmaxE (by omega) (by omega), nI_1]
  · show f_X7_alikeCells_L4 σ o s (nI (zalm C D 4)) (nI 4) = _
    unfold f_X7_alikeCells_L4
    rw [if_pos (show (4 : Int32) ≤ nI 4 by decide)]
theorem X12_at0 {σ : zM} {s x y : Nat} {C : Nat → Nat} (hR : zRC σ s C) (hs : s < 10) (hx : x < 10) (hy : y < 8) : f_X12_at σ (nI s) (f_X12_spot 0 (nI x) (nI y)) = some (nI (C (10 * y + x))) := by
  rw [show f_X12_spot 0 (nI x) (nI y) = nI (80 * 0 + 10 * y + x) from zspt, show 80 * 0 + 10 * y + x = 10 * y + x by omega, X12_at_C hR hs (by omega)]
theorem X12_al1 {σ : zM} {o s t y : Nat} {C D : Nat → Nat} {y4 : Int32} (hC : zRC σ o C) (hD : zRC σ s D) (ho : o < 10) (hs : s < 10) (hy : y < 8) (ht : t < 4) : zwh (fun (q : (Int32 × Int32)) => f_X12_alikeOf_L69 σ (nI o) (nI s) y4 (nI t) (nI y) q.1 q.2) zFu (nI (fb_ct (zalp C D t) (10 * y)), 0) = some (nI (fb_ct (zalp C D t) (10 * (y + 1)))) := by
  have hw := zwh_up (f := fun (q : (Int32 × Int32)) => f_X12_alikeOf_L69 σ (nI o) (nI s) y4 (nI t) (nI y) q.1 q.2) (fun i => (nI (fb_ct (zalp C D t) (10 * y + i)), nI i)) 10 (t := nI (fb_ct (zalp C D t) (10 * (y + 1)))) ?_ ?_ (by omega)
  · rw [show (nI (fb_ct (zalp C D t) (10 * y)), (0 : Int32)) = (fun i => (nI (fb_ct (zalp C D t) (10 * y + i)), nI i)) 0 from rfl, hw]
  · intro i hi
    have c1 := (hC (10 * y + i) (by omega)).1
    show f_X12_alikeOf_L69 σ (nI o) (nI s) y4 (nI t) (nI y) (nI (fb_ct (zalp C D t) (10 * y + i))) (nI i) = some (Sum.inl (nI (fb_ct (zalp C D t) (10 * y + i) + if zalp C D t (10 * y + i) then 1 else 0), nI (i + 1)))
    generalize fb_ct (zalp C D t) (10 * y + i) = w
    have e9 : (if (zrem (nI t) 2) = 0 then nI i else (9 - nI i) : Int32) = nI (if t % 2 = 0 then i else 9 - i) := by
      have hz : (zrem (nI t) 2 = 0) ↔ t % 2 = 0 := by
        rw [zq2, zremI (by omega) (by omega), show (0 : Int32) = nI 0 from rfl, nI_eq (by omega) (by omega)]
      by_cases h : t % 2 = 0
      · rw [if_pos (hz.mpr h), if_pos h]
      · rw [if_neg (mt hz.mp h), if_neg h, zq9, zsubI (by omega)]
    have e7 : (if 2 ≤ nI t then (7 - nI y) else nI y : Int32) = nI (if 2 ≤ t then 7 - y else y) := by
      have hz : ((2 : Int32) ≤ nI t) ↔ 2 ≤ t := by rw [zq2, nI_leI (by omega) (by omega)]
      by_cases h : 2 ≤ t
      · rw [if_pos (hz.mpr h), if_pos h, zq7, zsubI (by omega)]
      · rw [if_neg (mt hz.mp h), if_neg h]
    have et : ztn t (10 * y + i) = 10 * (if 2 ≤ t then 7 - y else y) + (if t % 2 = 0 then i else 9 - i) := by
      unfold ztn
      rw [show (10 * y + i) / 10 = y by omega, show (10 * y + i) % 10 = i by omega]
    have b9 : (if t % 2 = 0 then i else 9 - i) < 10 := by split <;> omega
    have b7 : (if 2 ≤ t then 7 - y else y) < 8 := by split <;> omega
    have c2 := (hD (ztn t (10 * y + i)) (by rw [et]; omega)).1
    unfold f_X12_alikeOf_L69 f_X12_alikeOf_B149_69 f_X12_alikeOf_B150_69 f_X12_one
    rw [if_neg (by rw [zq10, nI_leI (by omega) (by omega)]; omega), X12_at0 hC ho hi hy, Option.bind_some, e9, e7, X12_at0 hD hs b9 b7, Option.bind_some, ← et, nI_1]
    unfold zalp
    have l0 : nI (C (10 * y + i)) ≤ 0 ↔ C (10 * y + i) = 0 := by rw [show (0 : Int32) = nI 0 from rfl, nI_leI (by omega) (by omega)]; omega
    by_cases p1 : C (10 * y + i) = 0
    · rw [if_pos (l0.mpr p1), if_pos rfl]
      simp [p1]
    · rw [if_neg (mt l0.mp p1)]
      by_cases p2 : C (10 * y + i) = D (ztn t (10 * y + i))
      · rw [if_pos (show nI (C (10 * y + i)) = nI (D (ztn t (10 * y + i))) by rw [p2]), if_neg z10, nI_1, if_pos (by simp [p2]; rw [← p2]; exact p1)]
      · rw [if_neg (show ¬ nI (C (10 * y + i)) = nI (D (ztn t (10 * y + i))) by rw [nI_eq (by omega) (by omega)]; exact p2), if_pos rfl, if_neg (by simp [p2]), Int32.add_zero]
        rfl
  · show f_X12_alikeOf_L69 σ (nI o) (nI s) y4 (nI t) (nI y) (nI (fb_ct (zalp C D t) (10 * y + 10))) (nI 10) = _
    unfold f_X12_alikeOf_L69
    rw [if_pos (show (10 : Int32) ≤ nI 10 by decide), show 10 * y + 10 = 10 * (y + 1) by omega]
