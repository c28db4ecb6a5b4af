/-! cost: the reference's walls -/
theorem X12_walls1 {σ : zM} {s k m : Nat} {C : Nat → Nat} (hR : zRC σ s C) (hs : s < 10) (hk : k < 160) : zwh (fun (q : (Int32 × Int32)) => f_X12_wallsOf_L14 σ (nI s) (nI k) q.1 q.2) zFu (nI m, 0) = some (nI (m + fb_sm (zwl1 C k) 4)) := by
  have hw := zwh_up (f := fun (q : (Int32 × Int32)) => f_X12_wallsOf_L14 σ (nI s) (nI k) q.1 q.2) (fun i => (nI (m + fb_sm (zwl1 C k) i), nI i)) 4 (t := nI (m + fb_sm (zwl1 C k) 4)) ?_ ?_ (by omega)
  · rw [show (nI m, (0 : Int32)) = (fun i => (nI (m + fb_sm (zwl1 C k) i), nI i)) 0 from rfl, hw]
  · intro i hi
    have c1 := (hR k hk).1
    have ho := znb_op k hk i hi
    have l0 : ∀ x, x < 15 → (nI x = 0 ↔ x = 0) := fun x hx => by rw [show (0 : Int32) = nI 0 from rfl, nI_eq (by omega) (by omega)]
    show f_X12_wallsOf_L14 σ (nI s) (nI k) (nI (m + fb_sm (zwl1 C k) i)) (nI i) = some (Sum.inl (nI (m + (fb_sm (zwl1 C k) i + zwl1 C k i)), nI (i + 1)))
    generalize fb_sm (zwl1 C k) i = w
    unfold f_X12_wallsOf_L14 f_X12_wallsOf_B83_14 f_X12_wallsOf_B86_14
    rw [if_neg (by rw [zq4, nI_leI (by omega) (by omega)]; omega), X12_at_C hR hs hk, Option.bind_some, X12_beside k hk i hi, nI_1, nI_1]
    unfold zwl1
    by_cases p1 : C k = 0
    · rw [if_pos ((l0 _ c1).mpr p1), if_pos p1]
      rfl
    · rw [if_neg (mt (l0 _ c1).mp p1), if_neg p1]
      cases en : znb k i with
      | none =>
        simp only
        rw [if_pos trivial]
        rfl
      | some o =>
        rw [en] at ho
        have ho1 := ho.1
        have c2 := (hR o ho1).1
        simp only
        rw [if_neg (znI_m1 (by omega)), X12_at_C hR hs ho1, Option.bind_some, Option.bind_some]
        by_cases p2 : C o = 0
        · rw [if_pos ((l0 _ c2).mpr p2), if_pos p2]
          rfl
        · rw [if_neg (mt (l0 _ c2).mp p2), if_neg p2]
          by_cases p3 : C o = C k
          · rw [if_pos (by rw [p3]), if_pos p3]
            rfl
          · rw [if_neg (by rw [nI_eq (by omega) (by omega)]; exact p3), if_neg p3]
            have : i = 0 ∨ i = 1 ∨ i = 2 ∨ i = 3 := by omega
            rcases this with rfl | rfl | rfl | rfl <;> rfl
  · show f_X12_wallsOf_L14 σ (nI s) (nI k) (nI (m + fb_sm (zwl1 C k) 4)) (nI 4) = _
    unfold f_X12_wallsOf_L14
    rw [if_pos (show (4 : Int32) ≤ nI 4 by decide)]
theorem X12_walls {σ : zM} {s : Nat} {C : Nat → Nat} (hR : zRC σ s C) (hs : s < 10) : f_X12_wallsOf σ (nI s) = some (nI (zwal C)) := by
  have hw := zwh_up (f := fun (q : (Int32 × Int32)) => f_X12_wallsOf_L4 σ (nI s) q.1 q.2) (fun i => (nI (fb_sm (fun k => fb_sm (zwl1 C k) 4) i), nI i)) 160 (t := nI (zwal C)) ?_ ?_ (by omega)
  · unfold f_X12_wallsOf
    rw [show ((0 : Int32), (0 : Int32)) = (fun i => (nI (fb_sm (fun k => fb_sm (zwl1 C k) 4) i), nI i)) 0 from rfl, hw, Option.bind_some]
  · intro i hi
    show f_X12_wallsOf_L4 σ (nI s) (nI (fb_sm (fun k => fb_sm (zwl1 C k) 4) i)) (nI i) = some (Sum.inl (nI (fb_sm (fun k => fb_sm (zwl1 C k) 4) i + fb_sm (zwl1 C i) 4), nI (i + 1)))
    unfold f_X12_wallsOf_L4 f_X12_wallsOf_B92_4
    rw [if_neg (by rw [zq160, nI_leI (by omega) (by omega)]; omega), X12_walls1 hR hs hi, Option.bind_some, nI_1]
  · show f_X12_wallsOf_L4 σ (nI s) (nI (fb_sm (fun k => fb_sm (zwl1 C k) 4) 160)) (nI 160) = _
    unfold f_X12_wallsOf_L4
    rw [if_pos (show (160 : Int32) ≤ nI 160 by decide)]
    rfl
theorem zwal_le (C : Nat → Nat) : zwal C ≤ 640 := by
  unfold zwal
  have h := fb_sm_bound (f := fun k => fb_sm (zwl1 C k) 4) (c := 4) (n := 160) (fun k _ => by
    have := fb_sm_bound (f := zwl1 C k) (c := 1) (n := 4) (fun i _ => by
      unfold zwl1
      split
      · omega
      · split
        · omega
        · split
          · omega
          · split
            · omega
            · split <;> omega)
    omega)
  omega
