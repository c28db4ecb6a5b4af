/-! cost: both sums -/
def zcsG (N : Nat → Nat) (R : Nat → Int32) : Nat → Int32 → Int32
  | 0, v => v
  | n + 1, v => zcsG N R n v + nI (N (n + 1)) * R (n + 1)
theorem zcs1_G {C : Nat → Nat} {R : Nat → Int32} {v : Int32} : ∀ n, zcs1 C R n v = zcsG (zcnt1 C) R n v
  | 0 => rfl
  | n + 1 => by
    show zcs1 C R n v + _ = zcsG (zcnt1 C) R n v + _
    rw [zcs1_G n]
theorem zcsG_add {N : Nat → Nat} {R : Nat → Int32} {v x : Int32} : ∀ n, zcsG N R n (v + x) = zcsG N R n v + x
  | 0 => rfl
  | n + 1 => by
    show zcsG N R n (v + x) + _ = zcsG N R n v + _ + x
    rw [zcsG_add n]
    ac_rfl
theorem zmul1 (m : Nat) (x : Int32) : nI (m + 1) * x = nI m * x + x := by
  rw [← nI_1, Int32.add_mul, Int32.one_mul]
theorem zcsG_up {N : Nat → Nat} {R : Nat → Int32} {v : Int32} {c : Nat} : ∀ n, zcsG (fun w => N w + if c = w then 1 else 0) R n v = zcsG N R n v + (if 1 ≤ c ∧ c ≤ n then R c else 0)
  | 0 => by
    rw [if_neg (by omega), Int32.add_zero]
    rfl
  | n + 1 => by
    show zcsG (fun w => N w + if c = w then 1 else 0) R n v + nI (N (n + 1) + if c = n + 1 then 1 else 0) * R (n + 1) = zcsG N R n v + nI (N (n + 1)) * R (n + 1) + _
    rw [zcsG_up n]
    by_cases h : c = n + 1
    · subst h
      rw [if_neg (by omega), if_pos rfl, if_pos (by omega), zmul1, Int32.add_zero]
      ac_rfl
    · rw [if_neg h, Nat.add_zero]
      by_cases h2 : 1 ≤ c ∧ c ≤ n
      · rw [if_pos h2, if_pos (by omega)]
        ac_rfl
      · rw [if_neg h2, if_neg (by omega), Int32.add_zero, Int32.add_zero]
def zctn (C : Nat → Nat) (n w : Nat) : Nat := fb_ct (fun k => decide (C k = w)) n
def zcsN (C : Nat → Nat) (T R : Nat → Int32) (n : Nat) : Int32 := zcsG (zctn C n) R 12 (nI (zwal C) * T 0 + nI (zctn C n 13) * T 1 + nI (zctn C n 14) * T 2)
theorem zctn_s {C : Nat → Nat} {n w : Nat} : zctn C (n + 1) w = zctn C n w + if C n = w then 1 else 0 := by
  unfold zctn
  rw [fb_ct_succ]
  by_cases h : C n = w
  · simp [h]
  · simp [h]
theorem zcsN_s {C : Nat → Nat} {T R : Nat → Int32} {n : Nat} (hc : C n < 15) : zcsN C T R (n + 1) = zcsN C T R n + (if C n = 0 then 0 else if C n = 13 then T 1 else if C n = 14 then T 2 else R (C n)) := by
  unfold zcsN
  have e : zctn C (n + 1) = fun w => zctn C n w + if C n = w then 1 else 0 := funext fun w => zctn_s
  rw [e]
  simp only []
  rw [zcsG_up]
  generalize C n = c at hc
  by_cases h13 : c = 13
  · subst h13
    rw [if_pos rfl, if_neg (show ¬ (13 = 14) by decide), Nat.add_zero (zctn C n 14), if_neg (by decide), if_neg (by decide), if_pos rfl, zmul1, Int32.add_zero, show nI (zwal C) * T 0 + (nI (zctn C n 13) * T 1 + T 1) + nI (zctn C n 14) * T 2 = (nI (zwal C) * T 0 + nI (zctn C n 13) * T 1 + nI (zctn C n 14) * T 2) + T 1 by ac_rfl, zcsG_add]
  · by_cases h14 : c = 14
    · subst h14
      rw [if_neg (show ¬ (14 = 13) by decide), if_pos rfl, Nat.add_zero, if_neg (by decide), if_neg (by decide), if_neg (by decide), if_pos rfl, zmul1, Int32.add_zero, show nI (zwal C) * T 0 + nI (zctn C n 13) * T 1 + (nI (zctn C n 14) * T 2 + T 2) = (nI (zwal C) * T 0 + nI (zctn C n 13) * T 1 + nI (zctn C n 14) * T 2) + T 2 by ac_rfl, zcsG_add]
    · rw [if_neg h13, if_neg h14, Nat.add_zero, Nat.add_zero]
      by_cases h0 : c = 0
      · rw [if_neg (by omega), if_pos h0]
      · rw [if_pos (by omega), if_neg h0, if_neg h13, if_neg h14]
theorem zcsN_0 {C : Nat → Nat} {T R : Nat → Int32} : zcsN C T R 0 = nI (zwal C) * T 0 := by
  have z : ∀ (v : Int32) (n : Nat), zcsG (zctn C 0) R n v = v := fun v n => by
    induction n with
    | zero => rfl
    | succ n ih =>
      show zcsG (zctn C 0) R n v + nI 0 * R (n + 1) = v
      rw [ih, show nI 0 = 0 from rfl, Int32.zero_mul, Int32.add_zero]
  unfold zcsN
  rw [z, show nI (zctn C 0 13) = 0 from rfl, show nI (zctn C 0 14) = 0 from rfl, Int32.zero_mul, Int32.zero_mul, Int32.add_zero, Int32.add_zero]
theorem zcsN_160 {C : Nat → Nat} {T R : Nat → Int32} : zcsN C T R 160 = zCst C T R := by
  unfold zCst
  rw [zcs1_G]
  rfl
theorem X7_cost {σ : zM} {s o : Nat} {C : Nat → Nat} (hX : zCX σ s C) : f_X7_costBy σ s o = some (zCst C (zA σ 0 o 5) (zA σ 0 o 6)) := by
  have hw := zwh_up (f := fun (q : (Int32 × Int32)) => f_X7_costBy_L39 σ s o q.1 q.2) (fun i => (zcs1 C (zA σ 0 o 6) i (nI (zwal C) * zA σ 0 o 5 0 + nI (zcnt1 C 13) * zA σ 0 o 5 1 + nI (zcnt1 C 14) * zA σ 0 o 5 2), nI (i + 1))) 12 (t := zCst C (zA σ 0 o 5) (zA σ 0 o 6)) ?_ ?_ (by omega)
  · unfold f_X7_costBy
    rw [show f_X0_term σ o 0 = _ from X0_term o (show 0 < 11 by omega), Option.bind_some, show f_X7_countOf σ s 13 = _ from X7_many hX (r := 13) (by omega) (by omega), Option.bind_some, show f_X0_term σ o 1 = _ from X0_term o (show 1 < 11 by omega), Option.bind_some, show f_X7_countOf σ s 14 = _ from X7_many hX (r := 14) (by omega) (by omega), Option.bind_some, show f_X0_term σ o 2 = _ from X0_term o (show 2 < 11 by omega), Option.bind_some, hX.2.2.2.2]
    exact (congrArg (fun z => Option.bind z _) hw).trans rfl
  · intro i hi
    show f_X7_costBy_L39 σ s o (zcs1 C (zA σ 0 o 6) i _) (nI (i + 1)) = some (Sum.inl (zcs1 C (zA σ 0 o 6) i _ + nI (zcnt1 C (i + 1)) * zA σ 0 o 6 (i + 1), nI (i + 1 + 1)))
    unfold f_X7_costBy_L39
    rw [if_neg (by rw [zq12, nI_ltI (by omega) (by omega)]; omega), X7_many hX (by omega) (by omega), Option.bind_some, X0_rate o (by omega) (by omega), Option.bind_some, nI_1]
  · show f_X7_costBy_L39 σ s o (zcs1 C (zA σ 0 o 6) 12 _) (nI 13) = _
    unfold f_X7_costBy_L39
    rw [if_pos (show (12 : Int32) < nI 13 by decide)]
    rfl
theorem X12_cost {σ : zM} {s : Nat} {C : Nat → Nat} (hB : iBri σ) (t : Int32) (hR : zRC σ s C) (hs : s < 10) : f_X12_costBy σ (nI s) (zOx (zOn σ t)) = some (zCst C (zA σ 0 (zOn σ t) 5) (zA σ 0 (zOn σ t) 6)) := by
  have hw := zwh_up (f := fun (q : (Int32 × Int32)) => f_X12_costBy_L16 σ (nI s) (zOx (zOn σ t)) q.1 q.2) (fun i => (zcsN C (zA σ 0 (zOn σ t) 5) (zA σ 0 (zOn σ t) 6) i, nI i)) 160 (t := zCst C (zA σ 0 (zOn σ t) 5) (zA σ 0 (zOn σ t) 6)) ?_ ?_ (by omega)
  · unfold f_X12_costBy
    rw [X12_walls hR hs, Option.bind_some, show f_X12_tells σ (zOx (zOn σ t)) 0 = _ from X12_tells hB t (show 0 < 11 by omega), Option.bind_some, ← zcsN_0 (C := C) (T := zA σ 0 (zOn σ t) 5) (R := zA σ 0 (zOn σ t) 6)]
    exact (congrArg (fun z => Option.bind z _) hw).trans rfl
  · intro i hi
    have c1 := (hR i hi).1
    show f_X12_costBy_L16 σ (nI s) (zOx (zOn σ t)) (zcsN C _ _ i) (nI i) = some (Sum.inl (zcsN C _ _ (i + 1), nI (i + 1)))
    rw [zcsN_s c1]
    unfold f_X12_costBy_L16 f_X12_costBy_B82_16
    rw [if_neg (by rw [zq160, nI_leI (by omega) (by omega)]; omega), X12_at_C hR hs hi, Option.bind_some, nI_1]
    by_cases h0 : C i = 0
    · rw [if_pos (by rw [h0]; rfl), if_pos h0]
    · rw [if_neg (by rw [show (0 : Int32) = nI 0 from rfl, nI_eq (by omega) (by omega)]; exact h0), if_neg h0]
      by_cases h13 : C i = 13
      · rw [if_pos (by rw [h13]; rfl), if_pos h13, show f_X12_tells σ (zOx (zOn σ t)) 1 = _ from X12_tells hB t (show 1 < 11 by omega), Option.bind_some]
      · rw [if_neg (by rw [zq13, nI_eq (by omega) (by omega)]; exact h13), if_neg h13]
        by_cases h14 : C i = 14
        · rw [if_pos (by rw [h14]; rfl), if_pos h14, show f_X12_tells σ (zOx (zOn σ t)) 2 = _ from X12_tells hB t (show 2 < 11 by omega), Option.bind_some]
        · rw [if_neg (by rw [zq14, nI_eq (by omega) (by omega)]; exact h14), if_neg h14, X12_rate hB t (by omega) (by omega), Option.bind_some]
  · show f_X12_costBy_L16 σ (nI s) (zOx (zOn σ t)) (zcsN C _ _ 160) (nI 160) = _
    unfold f_X12_costBy_L16
    rw [if_pos (show (160 : Int32) ≤ nI 160 by decide), zcsN_160]
