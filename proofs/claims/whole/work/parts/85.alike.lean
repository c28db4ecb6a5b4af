/-! alike: the call -/
theorem X11_look {σ : zM} {a b m : Nat} {C D : Nat → Nat} (hab : a < b) (hb : b < 10) (ha1 : f_X11_schemeAt σ (nI a) = some (some a)) (hb1 : f_X11_schemeAt σ (nI b) = some (some b)) (hC : zCX σ a C) (hD : zCX σ b D) (hJ : zJ σ 11 0 13 = lN m) : f_X11_lookAt σ (nI a) (nI b) = some (nI (zalm C D 4), zsJ σ 11 0 13 (lN (m ||| 2 ^ zpr a b))) := by
  have hq := zpr_lt b hb a hab
  have e : zJ σ 11 0 13 ||| zlshl 1 (((nI b * (nI b - 1)) / 2) + nI a) = lN (m ||| 2 ^ zpr a b) := by
    rw [zprI hab hb, zlshl_1 _ hq, hJ, fb_orL]
  unfold f_X11_lookAt
  rw [ha1, Option.bind_some]
  show (f_X11_schemeAt σ (nI b)).bind _ = _
  rw [hb1, Option.bind_some]
  simp only [znu]
  rw [zlt_e, e, X7_alike (σ := zsJ σ 11 0 13 (lN (m ||| 2 ^ zpr a b))) hC hD, Option.bind_some]
theorem X12_look {σ : zM} {o s m : Nat} {C D : Nat → Nat} (hne : o ≠ s) (ho : o < 10) (hs : s < 10) (hC : zRC σ o C) (hD : zRC σ s D) (hR : iPR σ m) : ∃ σ', f_X12_alikeOf σ (nI o) (nI s) = some (nI (zalm C D 4), σ') ∧ iPR σ' (m ||| 2 ^ zpr (min o s) (max o s)) ∧ zEx [(12, 14), (12, 15)] σ σ' := by
  obtain ⟨a, ha⟩ : ∃ a, a = min o s := ⟨_, rfl⟩
  obtain ⟨b, hb⟩ : ∃ b, b = max o s := ⟨_, rfl⟩
  have hab : a < b := by omega
  have hb10 : b < 10 := by omega
  have hm : zmax (nI o) (nI s) = nI b := by rw [zmaxE (by omega) (by omega), hb]
  have hn : zmin (nI o) (nI s) = nI a := by rw [zminE (by omega) (by omega), ha]
  have hv : vp_nar .boolean 1 = 1 := by decide
  rw [← ha, ← hb]
  unfold f_X12_alikeOf f_X12_alikeOf_B34
  rw [hm, hn, zq10, zmulI, nI_add, zix_n (show 10 * a + b < 100 by omega) (by omega), Option.bind_some]
  by_cases h0 : zA σ 12 0 14 (10 * a + b) = 0
  · rw [if_pos h0, zlt_e, Option.bind_some, zlt_e, hv, X12_al3 (σ := zsA (zsI σ 12 0 15 (zI σ 12 0 15 + 1)) 12 0 14 (10 * a + b) 1) hC hD ho hs, Option.bind_some]
    exact ⟨_, rfl, iPR_set hab hb10 hR rfl (by rw [if_pos h0]; rfl), (zEx_sI (by decide)).tr (zEx_sA (by decide))⟩
  · rw [if_neg h0, Option.bind_some, zlt_e, hv, X12_al3 (σ := zsA σ 12 0 14 (10 * a + b) 1) hC hD ho hs, Option.bind_some]
    exact ⟨_, rfl, iPR_set hab hb10 hR rfl (by rw [if_neg h0]; rfl), zEx_sA (by decide)⟩
