/-! statements: what the class writes -/
theorem X0_add {σ : zM} {o q : Nat} {x1 x2 x3 x4 : Int32} (ho : o < 7) (h : zI σ 0 o 7 = nI q) (hq : q < 40) : f_X0_add σ o x1 x2 x3 x4 = some (zsI (zsA (zsA (zsA (zsA σ 0 o 0 q x1) 0 o 1 q x2) 0 o 2 q x3) 0 o 3 q x4) 0 o 7 (nI (q + 1))) := by
  have e0 := zln_s (o := o) (k := 0) ho (by omega)
  have e1 := zln_s (o := o) (k := 1) ho (by omega)
  have e2 := zln_s (o := o) (k := 2) ho (by omega)
  have e3 := zln_s (o := o) (k := 3) ho (by omega)
  have hl : ¬ nI 40 ≤ nI q := by rw [nI_leI (by omega) (by omega)]; omega
  unfold f_X0_add
  rw [h, e0, e1, e2, e3, if_neg (zlt0 (by omega)), if_neg hl, if_neg hl, if_neg hl, if_neg hl, zix_n hq (by omega), Option.bind_some, zlt_e]
  rw [show zI (zsA σ 0 o 0 q x1) 0 o 7 = nI q from h, zix_n hq (by omega), Option.bind_some, zlt_e]
  rw [show zI (zsA (zsA σ 0 o 0 q x1) 0 o 1 q x2) 0 o 7 = nI q from h, zix_n hq (by omega), Option.bind_some, zlt_e]
  rw [show zI (zsA (zsA (zsA σ 0 o 0 q x1) 0 o 1 q x2) 0 o 2 q x3) 0 o 7 = nI q from h, zix_n hq (by omega), Option.bind_some, zlt_e]
  rw [show zI (zsA (zsA (zsA (zsA σ 0 o 0 q x1) 0 o 1 q x2) 0 o 2 q x3) 0 o 3 q x4) 0 o 7 = nI q from h, nI_1, zlt_e]
theorem X0_setTerm {σ : zM} {o w : Nat} {v : Int32} (hw : w < 11) : f_X0_setTerm σ o (nI w) v = some (zsA σ 0 o 5 w v) := by
  unfold f_X0_setTerm
  rw [if_neg (zlt0 (by omega)), if_neg (by rw [zq11, nI_leI (by omega) (by omega)]; omega), zix_n hw (by omega), Option.bind_some, zlt_e]
theorem X0_setRate {σ : zM} {o r : Nat} {v : Int32} (h1 : 1 ≤ r) (h2 : r ≤ 12) : f_X0_setRate σ o (nI r) v = some (zsA σ 0 o 6 r v) := by
  unfold f_X0_setRate
  rw [if_neg (by rw [zq1, nI_ltI (by omega) (by omega)]; omega), if_neg (by rw [zq13, nI_leI (by omega) (by omega)]; omega), zix_n (show r < 13 by omega) (by omega), Option.bind_some, zlt_e]
/-- the class's end of a statement -/
theorem X4_endOf {σ : zM} {T : Nat → Nat} {n N i o q : Nat} {W : Nat → List Nat} {k0 pd t : Nat} {x1 x2 x3 x4 : Int32} (hT : ∀ j, j < n → T j < 256) (h : zPC σ T n N i W k0 pd t) (ho : o < 7) (hR : zR σ 4 0 7 = some o) (h7 : zI σ 0 o 7 = nI q) (hq : q < 40) : f_X4_endOf σ x1 x2 x3 x4 = if zIsS T n N i 59 then some (1, zsI (zsA (zsA (zsA (zsA (zsI σ 4 0 8 (nI (i + 1))) 0 o 0 q x1) 0 o 1 q x2) 0 o 2 q x3) 0 o 3 q x4) 0 o 7 (nI (q + 1))) else some (0, zsI σ 4 0 8 (nI i)) := by
  unfold f_X4_endOf
  rw [show f_X4_takeSign σ 59 = some (if zIsS T n N i 59 then 1 else 0, zsI σ 4 0 8 (nI (if zIsS T n N i 59 then i + 1 else i))) from X4_sign (b := 59) (by decide) (by decide) hT h.1, Option.bind_some]
  cases e : zIsS T n N i 59 with
  | true =>
    show (if (1 : Int32) = 0 then _ else znu (zR (zsI σ 4 0 8 (nI (i + 1))) 4 0 7) none (fun j4 => (f_X0_add (zsI σ 4 0 8 (nI (i + 1))) j4 x1 x2 x3 x4).bind fun σ6 => some (1, σ6))) = _
    rw [if_neg z10, show zR (zsI σ 4 0 8 (nI (i + 1))) 4 0 7 = some o from hR]
    show ((f_X0_add (zsI σ 4 0 8 (nI (i + 1))) o x1 x2 x3 x4).bind fun σ6 => some ((1 : Int32), σ6)) = _
    rw [X0_add ho (show zI (zsI σ 4 0 8 (nI (i + 1))) 0 o 7 = nI q from h7) hq, Option.bind_some]
    rfl
  | false =>
    show (if (0 : Int32) = 0 then _ else _) = _
    rw [if_pos rfl]
    rfl
