/-! alike: the reference's greatest of four -/
theorem X12_al2 {σ : zM} {o s t : Nat} {C D : Nat → Nat} {y4 : Int32} (hC : zRC σ o C) (hD : zRC σ s D) (ho : o < 10) (hs : s < 10) (ht : t < 4) : zwh (fun (q : (Int32 × Int32)) => f_X12_alikeOf_L59 σ (nI o) (nI s) y4 (nI t) q.1 q.2) zFu (0, 0) = some (nI (zalk C D t)) := by
  have hw := zwh_up (f := fun (q : (Int32 × Int32)) => f_X12_alikeOf_L59 σ (nI o) (nI s) y4 (nI t) q.1 q.2) (fun i => (nI (fb_ct (zalp C D t) (10 * i)), nI i)) 8 (t := nI (zalk C D t)) ?_ ?_ (by omega)
  · rw [show ((0 : Int32), (0 : Int32)) = (fun i => (nI (fb_ct (zalp C D t) (10 * i)), nI i)) 0 from rfl, hw]
  · intro i hi
    show f_X12_alikeOf_L59 σ (nI o) (nI s) y4 (nI t) (nI (fb_ct (zalp C D t) (10 * i))) (nI i) = _
    unfold f_X12_alikeOf_L59 f_X12_alikeOf_B162_59
    rw [if_neg (by rw [zq8, nI_leI (by omega) (by omega)]; omega), X12_al1 hC hD ho hs hi ht, Option.bind_some, nI_1]
  · show f_X12_alikeOf_L59 σ (nI o) (nI s) y4 (nI t) (nI (fb_ct (zalp C D t) 80)) (nI 8) = _
    unfold f_X12_alikeOf_L59
    rw [if_pos (show (8 : Int32) ≤ nI 8 by decide)]
    rfl
theorem X12_al3 {σ : zM} {o s : Nat} {C D : Nat → Nat} (hC : zRC σ o C) (hD : zRC σ s D) (ho : o < 10) (hs : s < 10) : zwh (fun (q : (Int32 × Int32)) => f_X12_alikeOf_L47 σ (nI o) (nI s) q.1 q.2) zFu (0, 0) = some (nI (zalm C D 4)) := by
  have hw := zwh_up (f := fun (q : (Int32 × Int32)) => f_X12_alikeOf_L47 σ (nI o) (nI s) q.1 q.2) (fun i => (nI (zalm C D i), nI i)) 4 (t := nI (zalm C D 4)) ?_ ?_ (by omega)
  · rw [show ((0 : Int32), (0 : Int32)) = (fun i => (nI (zalm C D i), nI i)) 0 from rfl, hw]
  · intro i hi
    have l1 := zalm_le C D i
    have l2 := zalk_le C D i
    show f_X12_alikeOf_L47 σ (nI o) (nI s) (nI (zalm C D i)) (nI i) = some (Sum.inl (nI (Nat.max (zalm C D i) (zalk C D i)), nI (i + 1)))
    unfold f_X12_alikeOf_L47 f_X12_alikeOf_B168_47
    rw [if_neg (by rw [zq4, nI_leI (by omega) (by omega)]; omega), X12_al2 hC hD ho hs hi, Option.bind_some, zmaxE (by omega) (by omega), nI_1]
  · show f_X12_alikeOf_L47 σ (nI o) (nI s) (nI (zalm C D 4)) (nI 4) = _
    unfold f_X12_alikeOf_L47
    rw [if_pos (show (4 : Int32) ≤ nI 4 by decide)]
