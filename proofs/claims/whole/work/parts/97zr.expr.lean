/-! expressions: all of them -/
theorem X4_all_e {rc : Nat → zM → Int32 → Option (Int32 × zM)} {x : Int32} (σ : zM) : f_X4_all σ rc x = (rc 2 σ x).bind fun q1 => (zwh (fun (q : (Int32 × Int32 × zM)) => zStC rc 2 22 (-1) x q.1 q.2.1 q.2.2) zFu (q1.1, 0, q1.2)).bind fun q => (zck (decide (q.1 = 0 ∨ q.1 = 1))).bind fun _ => some (q.1, q.2) := by
  have e : (fun (q : (Int32 × Int32 × zM)) => f_X4_all_L8 rc x q.1 q.2.1 q.2.2) = fun (q : (Int32 × Int32 × zM)) => zStC rc 2 22 (-1) x q.1 q.2.1 q.2.2 := funext fun q => zStC_all
  unfold f_X4_all
  rw [e]
theorem X4_any_e {rc : Nat → zM → Int32 → Option (Int32 × zM)} {x : Int32} (σ : zM) : f_X4_any σ rc x = (rc 1 σ x).bind fun q1 => (zwh (fun (q : (Int32 × Int32 × zM)) => zStC rc 1 21 (-2) x q.1 q.2.1 q.2.2) zFu (q1.1, 0, q1.2)).bind fun q => (zck (decide (q.1 = 0 ∨ q.1 = 1))).bind fun _ => some (q.1, q.2) := by
  have e : (fun (q : (Int32 × Int32 × zM)) => f_X4_any_L8 rc x q.1 q.2.1 q.2.2) = fun (q : (Int32 × Int32 × zM)) => zStC rc 1 21 (-2) x q.1 q.2.1 q.2.2 := funext fun q => zStC_any
  unfold f_X4_any
  rw [e]
theorem X12_all_e {rr : Nat → zM → Option (Int32 × zM)} (σ : zM) : f_X12_all σ rr = (f_X12_node σ 1).bind fun q1 => (zwh (fun (q : (Int32 × zM)) => zStR rr 2 22 q1.1 q.1 q.2) zFu ((-1), q1.2)).bind fun q => zsm q (fun q => some ((-1), q)) (fun q => some (q1.1, q)) := by
  have e : ∀ y, (fun (q : (Int32 × zM)) => f_X12_all_L8 rr y q.1 q.2) = fun (q : (Int32 × zM)) => zStR rr 2 22 y q.1 q.2 := fun y => funext fun q => zStR_all
  unfold f_X12_all
  exact congrArg (f_X12_node σ 1).bind (funext fun q1 => by rw [e])
theorem X12_any_e {rr : Nat → zM → Option (Int32 × zM)} (σ : zM) : f_X12_any σ rr = (f_X12_node σ 0).bind fun q1 => (zwh (fun (q : (Int32 × zM)) => zStR rr 1 21 q1.1 q.1 q.2) zFu ((-1), q1.2)).bind fun q => zsm q (fun q => some ((-1), q)) (fun q => some (q1.1, q)) := by
  have e : ∀ y, (fun (q : (Int32 × zM)) => f_X12_any_L8 rr y q.1 q.2) = fun (q : (Int32 × zM)) => zStR rr 1 21 y q.1 q.2 := fun y => funext fun q => zStR_any
  unfold f_X12_any
  exact congrArg (f_X12_node σ 0).bind (funext fun q1 => by rw [e])
theorem zl2122 : 2 ≤ (zLq 21).length ∧ 2 ≤ (zLq 22).length := by decide +kernel
theorem zJ_expr {T : Nat → Nat} {n N : Nat} {W : Nat → List Nat} {k0 pd t o C : Nat} (ho : o < 7) (hC : C ≤ 4455) : ∀ f d, d ≤ 10 → (3 * (11 - d) - 2 ≤ f → zIH T n N W k0 pd t o C (fun σ => f_X4_any_rec f 2 σ (nI d)) (fun σ => f_X12_any_rec f 2 σ) d (1 + 2 * (10 - d)) (2 * (10 - d)) 5 2) ∧ (3 * (11 - d) - 1 ≤ f → zIH T n N W k0 pd t o C (fun σ => f_X4_any_rec f 1 σ (nI d)) (fun σ => f_X12_any_rec f 1 σ) d (1 + 2 * (10 - d) + 1) (2 * (10 - d) + 1) 4 1) ∧ (3 * (11 - d) ≤ f → zIH T n N W k0 pd t o C (fun σ => f_X4_any_rec f 0 σ (nI d)) (fun σ => f_X12_any_rec f 0 σ) d (1 + 2 * (10 - d) + 1 + 1) (2 * (10 - d) + 1 + 1) 3 0) := by
  intro f
  induction f with
  | zero => exact fun d hd => ⟨fun h => by omega, fun h => by omega, fun h => by omega⟩
  | succ f ihf =>
    intro d hd
    refine ⟨fun h => ?_, fun h => ?_, fun h => ?_⟩
    · exact zJ_one (rc := f_X4_any_rec f) (rr := f_X12_any_rec f) (Da := 1 + 2 * (10 - (d + 1)) + 1 + 1) (La := 2 * (10 - (d + 1)) + 1 + 1) (Do := 1 + 2 * (10 - (d + 1))) (Lo := 2 * (10 - (d + 1))) ho hC hd (by omega) (fun _ => by omega) (fun _ => by omega) (fun hdl => (ihf (d + 1) (by omega)).2.2 (by omega)) (fun hdl => ⟨by omega, by omega, by omega, (ihf (d + 1) (by omega)).1 (by omega)⟩)
    · exact zJ_whole (fc := fun σ => f_X4_all σ (f_X4_any_rec f) (nI d)) (fr := fun σ => f_X12_all σ (f_X12_any_rec f)) (rc := f_X4_any_rec f) (rr := f_X12_any_rec f) (f := fun a b => a && b) (comb := fun cs m => cs.all fun c => c.2 m) (kd := 1) X4_all_e X12_all_e (fun l1 l2 V1 V2 h1 h2 => zCo_and h1 h2 (Nat.le_refl _) (Nat.le_refl _)) (fun cs q => funext fun m => by simp) (fun q => funext fun m => by simp) (fun ND M lo p cs h1 h2 h3 h4 h5 h6 => Or.inr (Or.inr (Or.inr ⟨h1, h2, h3, cs, h4, h5, h6, rfl⟩))) (by omega) zl2122.2 ho hC hd ⟨by omega, by omega⟩ (by omega) ((ihf d hd).1 (by omega))
    · exact zJ_whole (fc := fun σ => f_X4_any σ (f_X4_any_rec f) (nI d)) (fr := fun σ => f_X12_any σ (f_X12_any_rec f)) (rc := f_X4_any_rec f) (rr := f_X12_any_rec f) (f := fun a b => a || b) (comb := fun cs m => cs.any fun c => c.2 m) (kd := 0) X4_any_e X12_any_e (fun l1 l2 V1 V2 h1 h2 => zCo_or h1 h2 (Nat.le_refl _) (Nat.le_refl _)) (fun cs q => funext fun m => by simp) (fun q => funext fun m => by simp) (fun ND M lo p cs h1 h2 h3 h4 h5 h6 => Or.inr (Or.inr (Or.inl ⟨h1, h2, h3, cs, h4, h5, h6, rfl⟩))) (by omega) zl2122.1 ho hC hd ⟨by omega, by omega⟩ (by omega) ((ihf d hd).2.1 (by omega))
/-- an expression of a statement -/
theorem zJ_any {T : Nat → Nat} {n N : Nat} {W : Nat → List Nat} {k0 pd t o C : Nat} (ho : o < 7) (hC : C ≤ 4455) : zIH T n N W k0 pd t o C (fun σ => f_X4_any_rec 60 0 σ 0) (fun σ => f_X12_any_rec 60 0 σ) 0 23 22 3 0 := (zJ_expr ho hC 60 0 (by omega)).2.2 (by omega)
