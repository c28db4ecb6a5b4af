/-! most: the best pair -/
abbrev zB3 : Type := Int32 × Int32 × Int32
def zb1 (V : Nat → Nat → Nat) (a b : Nat) (B : zB3) : zB3 := if B.1 < nI (V a b) then (nI (V a b), nI a, nI b) else B
def zbI (V : Nat → Nat → Nat) (a : Nat) (B : zB3) : Nat → zB3
  | 0 => B
  | i + 1 => zb1 V a (a + 1 + i) (zbI V a B i)
def zbO (V : Nat → Nat → Nat) (n : Nat) : Nat → zB3
  | 0 => (-1, -1, -1)
  | a + 1 => zbI V a (zbO V n a) (n - 1 - a)
def zmI (a m : Nat) : Nat → Nat
  | 0 => m
  | i + 1 => zmI a m i ||| 2 ^ zpr a (a + 1 + i)
def zmO (n m : Nat) : Nat → Nat
  | 0 => m
  | a + 1 => zmI a (zmO n m a) (n - 1 - a)
theorem zmI_lt {a m n : Nat} (hn : n ≤ 10) (hm : m < 2 ^ 45) : ∀ i, a + 1 + i ≤ n → zmI a m i < 2 ^ 45
  | 0, _ => hm
  | i + 1, h => zpr_or (by omega) (by omega) (zmI_lt hn hm i (by omega))
theorem zmO_lt {n m : Nat} (hn : n ≤ 10) (hm : m < 2 ^ 45) : ∀ a, a ≤ n → zmO n m a < 2 ^ 45
  | 0, _ => hm
  | a + 1, h => zmI_lt hn (zmO_lt hn hm a (by omega)) _ (by omega)
def zVV (σ : zM) (a b : Nat) : Nat := zalm (zCl σ a) (zCl σ b) 4
/-- what the class has besides its long -/
def zMA (n : Nat) (σ : zM) : Prop := n ≤ 10 ∧ zI σ 11 0 12 = nI n ∧ (∀ s, s < n → f_X11_schemeAt σ (nI s) = some (some s)) ∧ ∀ s, s < n → zCX σ s (zCl σ s)
theorem zMA_J {n : Nat} {σ : zM} {v : Int64} (h : zMA n σ) : zMA n (zsJ σ 11 0 13 v) := h
theorem X11_mo1 {σ0 σ : zM} {n a m : Nat} {x1 : Int32} {B : zB3} (h : zMA n σ0) (ha : a < n) (hσ : ∃ v, σ = zsJ σ0 11 0 13 v) (hJ : zJ σ 11 0 13 = lN m) : ∃ σ', zwh (fun (q : (Int32 × Int32 × Int32 × Int32 × zM)) => f_X11_most_L44 x1 (nI a) q.1 q.2.1 q.2.2.1 q.2.2.2.1 q.2.2.2.2) zFu (B.1, B.2.1, B.2.2, nI (a + 1), σ) = some ((zbI (zVV σ0) a B (n - 1 - a)).1, (zbI (zVV σ0) a B (n - 1 - a)).2.1, (zbI (zVV σ0) a B (n - 1 - a)).2.2, σ') ∧ (∃ v, σ' = zsJ σ0 11 0 13 v) ∧ zJ σ' 11 0 13 = lN (zmI a m (n - 1 - a)) := by
  have hn10 := h.1
  have hz : ∃ t, zwh (fun (q : (Int32 × Int32 × Int32 × Int32 × zM)) => f_X11_most_L44 x1 (nI a) q.1 q.2.1 q.2.2.1 q.2.2.2.1 q.2.2.2.2) zFu (B.1, B.2.1, B.2.2, nI (a + 1), σ) = some t ∧ ∃ σ', t = ((zbI (zVV σ0) a B (n - 1 - a)).1, (zbI (zVV σ0) a B (n - 1 - a)).2.1, (zbI (zVV σ0) a B (n - 1 - a)).2.2, σ') ∧ (∃ v, σ' = zsJ σ0 11 0 13 v) ∧ zJ σ' 11 0 13 = lN (zmI a m (n - 1 - a)) := by
    refine zwh_ex (fun (i : Nat) (q : Int32 × Int32 × Int32 × Int32 × zM) => ∃ σ', q = ((zbI (zVV σ0) a B i).1, (zbI (zVV σ0) a B i).2.1, (zbI (zVV σ0) a B i).2.2, nI (a + 1 + i), σ') ∧ (∃ v, σ' = zsJ σ0 11 0 13 v) ∧ zJ σ' 11 0 13 = lN (zmI a m i)) _ (n - 1 - a) ⟨σ, rfl, hσ, hJ⟩ (fun i q hi hq => ?_) (fun q hq => ?_) (by omega)
    · obtain ⟨σ', rfl, ⟨v, rfl⟩, hJ'⟩ := hq
      have hM : zMA n (zsJ σ0 11 0 13 v) := zMA_J h
      have hl := X11_look (σ := zsJ σ0 11 0 13 v) (a := a) (b := a + 1 + i) (m := zmI a m i) (by omega) (by omega) (hM.2.2.1 a ha) (hM.2.2.1 _ (by omega)) (hM.2.2.2 a ha) (hM.2.2.2 (a + 1 + i) (by omega)) hJ'
      have hV := zalm_le (zCl σ0 a) (zCl σ0 (a + 1 + i)) 4
      have hzz : ∃ w, zsJ (zsJ σ0 11 0 13 v) 11 0 13 (lN (zmI a m i ||| 2 ^ zpr a (a + 1 + i))) = zsJ σ0 11 0 13 w := by
        refine ⟨lN (zmI a m i ||| 2 ^ zpr a (a + 1 + i)), ?_⟩
        unfold zsJ
        congr 2
        funext c' i' k'
        by_cases e : c' = 11 ∧ i' = 0 ∧ k' = 13 <;> simp [zu3, e]
      refine Or.inl ⟨_, ?_, zsJ (zsJ σ0 11 0 13 v) 11 0 13 (lN (zmI a m i ||| 2 ^ zpr a (a + 1 + i))), rfl, hzz, rfl⟩
      show f_X11_most_L44 x1 (nI a) _ _ _ (nI (a + 1 + i)) (zsJ σ0 11 0 13 v) = _
      unfold f_X11_most_L44 f_X11_most_B79_44
      rw [hM.2.1, if_neg (by rw [nI_leI (by omega) (by omega)]; omega), hl, Option.bind_some, nI_1]
      show (if nI (zVV σ0 a (a + 1 + i)) ≤ _ then _ else _) = _
      have eb : zbI (zVV σ0) a B (i + 1) = if (zbI (zVV σ0) a B i).1 < nI (zVV σ0 a (a + 1 + i)) then (nI (zVV σ0 a (a + 1 + i)), nI a, nI (a + 1 + i)) else zbI (zVV σ0) a B i := rfl
      rw [eb]
      by_cases hc : nI (zVV σ0 a (a + 1 + i)) ≤ (zbI (zVV σ0) a B i).1
      · rw [if_pos hc, if_neg (fun e => zlt_not.mp e hc)]
        rfl
      · rw [if_neg hc, if_pos (zlt_not.mpr hc)]
        rfl
    · obtain ⟨σ', rfl, hv, hJ'⟩ := hq
      refine ⟨_, ?_, σ', rfl, hv, hJ'⟩
      obtain ⟨v, rfl⟩ := hv
      show f_X11_most_L44 x1 (nI a) _ _ _ (nI (a + 1 + (n - 1 - a))) (zsJ σ0 11 0 13 v) = _
      unfold f_X11_most_L44
      rw [show zI (zsJ σ0 11 0 13 v) 11 0 12 = nI n from h.2.1, if_pos (nI_le (by omega) (by omega))]
  obtain ⟨t, h1, σ', rfl, h2, h3⟩ := hz
  exact ⟨σ', h1, h2, h3⟩
