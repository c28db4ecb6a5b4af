/-! alike: counts of a floor turned -/
def ztn (t j : Nat) : Nat := 10 * (if 2 ≤ t then 7 - j / 10 else j / 10) + (if t % 2 = 0 then j % 10 else 9 - j % 10)
theorem zct_P (p : Nat → Bool) : ∀ n, fb_ct p n = (List.range n).countP p
  | 0 => rfl
  | n + 1 => by
    rw [fb_ct_succ, zct_P p n, List.range_succ, List.countP_append, List.countP_singleton]
theorem ztn_perm : ∀ t, t < 4 → ((List.range 80).map (ztn t)).isPerm (List.range 80) = true := by decide +kernel
theorem ztn_in : ∀ t, t < 4 → ∀ j, j < 80 → ztn t j < 80 ∧ ztn t (ztn t j) = j := by decide +kernel
theorem zct_tn (p : Nat → Bool) {t : Nat} (ht : t < 4) : fb_ct (fun j => p (ztn t j)) 80 = fb_ct p 80 := by
  rw [zct_P, zct_P]
  have h := (List.isPerm_iff.mp (ztn_perm t ht)).countP_eq p
  rw [List.countP_map] at h
  exact h
def zalk (C D : Nat → Nat) (t : Nat) : Nat := fb_ct (fun j => decide (C j ≠ 0) && decide (C j = D (ztn t j))) 80
theorem zalk_sym (C D : Nat → Nat) {t : Nat} (ht : t < 4) : zalk C D t = zalk D C t := by
  unfold zalk
  rw [← zct_tn (fun j => decide (D j ≠ 0) && decide (D j = C (ztn t j))) ht]
  refine fb_ct_cong (fun j hj => ?_)
  show _ = (decide (D (ztn t j) ≠ 0) && decide (D (ztn t j) = C (ztn t (ztn t j))))
  rw [(ztn_in t ht j hj).2]
  by_cases h : C j = D (ztn t j)
  · rw [h]
  · have h2 : ¬ D (ztn t j) = C j := fun e => h e.symm
    simp [h, h2]
