/-! statements: what one of them does, by both -/
def zFsC : List (Nat × Nat) := [(4, 6), (4, 8), (4, 9), (5, 0), (5, 2), (0, 0), (0, 1), (0, 2), (0, 3), (0, 4), (0, 5), (0, 6), (0, 7), (0, 8)]
def zFsR : List (Nat × Nat) := [(12, 17), (12, 37), (12, 23), (12, 27), (12, 28), (12, 29), (12, 30), (12, 21), (12, 22), (12, 40), (12, 41), (12, 18), (12, 31), (12, 32), (12, 33), (12, 34), (12, 35), (12, 36)]
/-- the reference's rows but R are as before -/
def zRws (σ σ' : zM) (R : Nat) : Prop := ∀ k, k = 27 ∨ k = 28 ∨ k = 29 ∨ k = 30 → ∀ x, x ≠ R → zA σ' 12 0 k x = zA σ 12 0 k x
/-- a statement and its sign, as the reference reads them -/
def zRst (R : Int32) (σ : zM) : Option (Int32 × zM) := (f_X12_reads σ R).bind fun q31 => if q31.1 = 0 then some (0, q31.2) else (f_X12_takesSign q31.2 59).bind fun q34 => some (q34.1, q34.2)
/-- both before a statement: q of them are read -/
def zSP (σ σ' : zM) (T : Nat → Nat) (n N i : Nat) (W : Nat → List Nat) (k0 pd t o q c m : Nat) : Prop := zPC σ T n N i W k0 pd t ∧ zPR σ' T n i W (k0 + pd) t ∧ zR σ 4 0 7 = some o ∧ zI σ 0 o 7 = nI q ∧ zI σ 0 o 8 = nI c ∧ zI σ' 12 0 18 = nI m ∧ zBrP (zMix σ σ') m o q c
/-- other briefs are as before, as far as they are read -/
def zOt (σ σ' : zM) (o : Nat) : Prop := ∀ o', o' ≠ o → (∀ k, k < 7 → zA σ' 0 o' k = zA σ 0 o' k) ∧ ∀ k, 7 ≤ k → zI σ' 0 o' k = zI σ 0 o' k
theorem zOt.rf {σ : zM} {o : Nat} : zOt σ σ o := fun _ _ => ⟨fun _ _ => rfl, fun _ _ => rfl⟩
theorem zOt.tr {σ σ1 σ2 : zM} {o : Nat} (h : zOt σ σ1 o) (g : zOt σ1 σ2 o) : zOt σ σ2 o := fun o' ho => ⟨fun k hk => ((g o' ho).1 k hk).trans ((h o' ho).1 k hk), fun k hk => ((g o' ho).2 k hk).trans ((h o' ho).2 k hk)⟩
theorem zOt_h {σ σ' : zM} {o : Nat} (h : zOth σ σ' o) : zOt σ σ' o := fun o' ho => ⟨fun k _ => (h o' k ho).1, fun k _ => (h o' k ho).2⟩
theorem zOt_x {F : List (Nat × Nat)} {σ σ' : zM} {o : Nat} (h : zEx F σ σ') (hF : F.all (fun q => decide (q.1 ≠ 0)) = true) : zOt σ σ' o := zOt_h (zOth_x h (fun k hk => by
  have := List.all_eq_true.mp hF (0, k) hk
  simp at this))
/-- a statement is read alike: to the end, or both stop at the same token -/
def zSR (fc fr : Option (Int32 × zM)) (σ σ' : zM) (T : Nat → Nat) (n N i : Nat) (W : Nat → List Nat) (k0 o q c m : Nat) : Prop := (∃ σ1 σ1' i' W' pd' t' c' m', fc = some (1, σ1) ∧ fr = some (1, σ1') ∧ zEx zFsC σ σ1 ∧ zEx zFsR σ' σ1' ∧ zOt σ σ1 o ∧ zRws σ' σ1' (40 * o + q) ∧ zBel (znd σ') (znd σ1') m ∧ (∀ j, j < k0 → W' j = W j) ∧ zSP σ1 σ1' T n N i' W' k0 pd' t' o (q + 1) c' m' ∧ i < i' ∧ c ≤ c' ∧ 3 * c' + zTs T n i ≤ 3 * c + zTs T n i' ∧ (m' = m ∨ (m ≤ m' ∧ m' + 9 + zTs T n i ≤ m + zTs T n i'))) ∨ ∃ σ1 σ1' i' W' pd' t', fc = some (0, σ1) ∧ fr = some (0, σ1') ∧ zEx zFsC σ σ1 ∧ zEx zFsR σ' σ1' ∧ zOt σ σ1 o ∧ zRws σ' σ1' (40 * o + q) ∧ zBel (znd σ') (znd σ1') m ∧ (∀ j, j < k0 → W' j = W j) ∧ zPC σ1 T n N i' W' k0 pd' t' ∧ zPX σ1' T n i' W' (k0 + pd') t'
theorem zRws.rf {σ : zM} {R : Nat} : zRws σ σ R := fun _ _ _ _ => rfl
theorem zRws.tr {σ σ1 σ2 : zM} {R : Nat} (h : zRws σ σ1 R) (g : zRws σ1 σ2 R) : zRws σ σ2 R := fun k hk x hx => (g k hk x hx).trans (h k hk x hx)
theorem zRws_s {σ : zM} {R k : Nat} {v : Int32} : zRws σ (zsA σ 12 0 k R v) R := fun k' _ x hx => by
  rw [zA_sA]
  by_cases h : k' = k
  · rw [if_pos ⟨rfl, rfl, h⟩, zu_ne _ _ hx, h]
  · rw [if_neg (fun e => h e.2.2)]
