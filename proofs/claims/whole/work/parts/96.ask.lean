/-! questions: names looked up -/
def zNmC (σ : zM) (w : Int64) : Bool := (List.range 40).any fun i => decide (zL σ 3 0 0 i = w)
def zNmR (σ : zM) (w : Int64) (n : Nat) : Bool := (List.range n).any fun i => decide (w ≠ 0) && decide (zL σ 12 0 42 i = w)
theorem X3_isName (σ : zM) (w : Int64) : f_X3_isName σ w = some (if zNmC σ w then 1 else 0) := by
  have hz : ∃ t, zwh (fun (q : Int32) => f_X3_isName_L2 σ w q) zFu 0 = some t ∧ ((t = .inl () ∧ zNmC σ w = true) ∨ (t = .inr () ∧ zNmC σ w = false)) := by
    refine zwh_ex (fun (i : Nat) (q : Int32) => q = nI i ∧ ∀ j, j < i → zL σ 3 0 0 j ≠ w) _ 40 ⟨rfl, fun j hj => absurd hj (Nat.not_lt_zero j)⟩ (fun i q hi hq => ?_) (fun q hq => ?_) (by omega)
    · obtain ⟨rfl, hl⟩ := hq
      by_cases hc : zL σ 3 0 0 i = w
      · refine Or.inr ⟨.inl (), ?_, Or.inl ⟨rfl, ?_⟩⟩
        · unfold f_X3_isName_L2
          rw [if_neg (by rw [zq40, nI_leI (by omega) (by omega)]; omega), zix_n hi (by omega), Option.bind_some, if_pos hc]
        · unfold zNmC
          rw [List.any_eq_true]
          exact ⟨i, List.mem_range.mpr hi, decide_eq_true hc⟩
      · refine Or.inl ⟨nI (i + 1), ?_, rfl, fun j hj => ?_⟩
        · unfold f_X3_isName_L2
          rw [if_neg (by rw [zq40, nI_leI (by omega) (by omega)]; omega), zix_n hi (by omega), Option.bind_some, if_neg hc, nI_1]
        · by_cases e : j = i
          · rw [e]; exact hc
          · exact hl j (by omega)
    · obtain ⟨rfl, hl⟩ := hq
      refine ⟨.inr (), ?_, Or.inr ⟨rfl, ?_⟩⟩
      · unfold f_X3_isName_L2
        rw [if_pos (show (40 : Int32) ≤ nI 40 by decide)]
      · unfold zNmC
        rw [List.any_eq_false]
        intro i hi
        rw [decide_eq_true_eq]
        exact hl i (List.mem_range.mp hi)
  obtain ⟨t, h, ht⟩ := hz
  unfold f_X3_isName
  rw [h, Option.bind_some]
  rcases ht with ⟨rfl, e⟩ | ⟨rfl, e⟩
  · rw [e]; rfl
  · rw [e]; rfl
theorem zNmR_s {σ : zM} {w : Int64} {n : Nat} : zNmR σ w (n + 1) = (zNmR σ w n || (decide (w ≠ 0) && decide (zL σ 12 0 42 n = w))) := by
  unfold zNmR
  rw [List.range_succ, List.any_append, List.any_cons, List.any_nil, Bool.or_false]
theorem X12_isCalled (σ : zM) (w : Int64) : f_X12_isCalled σ w = some (if zNmR σ w 40 then 1 else 0) := by
  have hw := zwh_up (f := fun (q : (Int32 × Int32)) => f_X12_isCalled_L5 σ w q.1 q.2) (fun i => ((if zNmR σ w i then 1 else 0 : Int32), nI i)) 40 (t := (if zNmR σ w 40 then 1 else 0 : Int32)) ?_ ?_ (by omega)
  · unfold f_X12_isCalled
    rw [show ((0 : Int32), (0 : Int32)) = (fun i => ((if zNmR σ w i then 1 else 0 : Int32), nI i)) 0 from rfl, hw, Option.bind_some]
    cases zNmR σ w 40 <;> rfl
  · intro i hi
    show f_X12_isCalled_L5 σ w (if zNmR σ w i then 1 else 0) (nI i) = some (.inl ((if zNmR σ w (i + 1) then 1 else 0 : Int32), nI (i + 1)))
    unfold f_X12_isCalled_L5 f_X12_isCalled_B38_5 f_X12_isCalled_B34_5 f_X12_isCalled_B39_5
    rw [if_neg (by rw [zq40, nI_leI (by omega) (by omega)]; omega), nI_1, zNmR_s]
    cases hb : zNmR σ w i
    · rw [if_pos (show (if false = true then 1 else 0 : Int32) = 0 from rfl)]
      by_cases h0 : w = 0
      · rw [if_pos h0]
        simp [h0]
      · rw [if_neg h0, zix_n hi (by omega), Option.bind_some]
        by_cases hc : zL σ 12 0 42 i = w
        · rw [if_pos hc]
          simp [h0, hc]
        · rw [if_neg hc]
          simp [hc]
    · rw [if_neg (show ¬ (if true = true then 1 else 0 : Int32) = 0 from z10)]
      simp
  · show f_X12_isCalled_L5 σ w _ (nI 40) = _
    unfold f_X12_isCalled_L5
    rw [if_pos (show (40 : Int32) ≤ nI 40 by decide)]
theorem zQn_inj {B k : Nat} (hB : 0 < B) : ∀ {r r' : List Nat}, (∀ c ∈ r, 1 ≤ c ∧ c + k < B) → (∀ c ∈ r', 1 ≤ c ∧ c + k < B) → zQn B k r = zQn B k r' → r = r'
  | [], [], _, _, _ => rfl
  | [], c :: r', _, h2, h => by
    have h3 : zQn B k (c :: r') = 0 := h.symm
    rw [zQn_0 hB (fun c hc => (h2 c hc).1)] at h3
    cases h3
  | c :: r, [], h1, _, h => by
    have h3 : zQn B k (c :: r) = 0 := h
    rw [zQn_0 hB (fun c hc => (h1 c hc).1)] at h3
    cases h3
  | c :: r, c' :: r', h1, h2, h => by
    have e1 := h1 c List.mem_cons_self
    have e2 := h2 c' List.mem_cons_self
    have hm := congrArg (· % B) h
    simp only [zQn_m e1.2, zQn_m e2.2] at hm
    have hr : zQn B k r * B + (c + k) = zQn B k r' * B + (c' + k) := h
    have hr2 : zQn B k r * B = zQn B k r' * B := by omega
    have hr3 := Nat.eq_of_mul_eq_mul_right hB hr2
    rw [show c = c' by omega, zQn_inj hB (fun c hc => h1 c (List.mem_cons_of_mem _ hc)) (fun c hc => h2 c (List.mem_cons_of_mem _ hc)) hr3]
theorem zWd_eq {x y : Int64} {r : List Nat} (h : zWd x y) (hr : zLr r) : x = lN (zQn 32 0 r) ↔ y = lN (zQn 256 96 r) := by
  obtain ⟨r', ⟨h1, h2, h3⟩, rfl, rfl⟩ := zWd_r h
  obtain ⟨g1, g2, g3⟩ := hr
  have a5 := zQ5_lt h2 h3
  have a8 := zQ8_lt h2 h3
  have b5 := zQ5_lt g2 g3
  have b8 := zQ8_lt g2 g3
  rw [pk_lEQ (by omega) (by omega), pk_lEQ a8 b8]
  constructor
  · intro e
    rw [zQn_inj (by decide) (fun c hc => by have := h3 c hc; omega) (fun c hc => by have := g3 c hc; omega) e]
  · intro e
    rw [zQn_inj (by decide) (fun c hc => by have := h3 c hc; omega) (fun c hc => by have := g3 c hc; omega) e]
theorem zl8ne {r : List Nat} (hr : zLr r) : lN (zQn 256 96 r) ≠ 0 ∧ lN (zQn 32 0 r) ≠ 0 := by
  obtain ⟨g1, g2, g3⟩ := hr
  have b5 := zQ5_lt g2 g3
  have b8 := zQ8_lt g2 g3
  have hne : r ≠ [] := fun e => by rw [e] at g1; exact absurd g1 (by decide)
  refine ⟨fun e => ?_, fun e => ?_⟩
  · rw [zl0, pk_lEQ b8 (by omega), zQn_0 (by decide) (fun c hc => (g3 c hc).1)] at e
    exact hne e
  · rw [zl0, pk_lEQ (by omega) (by omega), zQn_0 (by decide) (fun c hc => (g3 c hc).1)] at e
    exact hne e
theorem zNm_CR {σ σ' : zM} {r : List Nat} (hq : ∀ a, a < 40 → (zL σ 3 0 0 a = 0 ∧ zL σ 12 0 42 a = 0) ∨ zWd (zL σ 3 0 0 a) (zL σ 12 0 42 a)) (h' : zL σ' 12 0 42 = zL σ 12 0 42) (hr : zLr r) : zNmC σ (lN (zQn 32 0 r)) = zNmR σ' (lN (zQn 256 96 r)) 40 := by
  obtain ⟨n8, n5⟩ := zl8ne hr
  have key : ∀ a, a < 40 → (zL σ 3 0 0 a = lN (zQn 32 0 r) ↔ zL σ 12 0 42 a = lN (zQn 256 96 r)) := fun a ha => by
    rcases hq a ha with ⟨e1, e2⟩ | h
    · rw [e1, e2]
      exact ⟨fun e => absurd e.symm n5, fun e => absurd e.symm n8⟩
    · exact zWd_eq h hr
  unfold zNmC zNmR
  rw [h', Bool.eq_iff_iff, List.any_eq_true, List.any_eq_true]
  constructor
  · rintro ⟨a, ha, h⟩
    exact ⟨a, ha, by rw [decide_eq_true n8, Bool.true_and]; exact decide_eq_true ((key a (List.mem_range.mp ha)).mp (of_decide_eq_true h))⟩
  · rintro ⟨a, ha, h⟩
    rw [decide_eq_true n8, Bool.true_and] at h
    exact ⟨a, ha, decide_eq_true ((key a (List.mem_range.mp ha)).mpr (of_decide_eq_true h))⟩
/-! questions: words counted -/
def zASt (T : Nat → Nat) (n : Nat) (nm : Nat → Nat → Bool) : Nat → Nat × Nat × Bool
  | 0 => (0, 0, false)
  | i + 1 => let s := zASt T n nm i; if i < n ∧ zcL T i = true then (s.1, s.2.1 + 1, s.2.2) else if s.2.1 = 0 then s else (s.1 + 1, 0, s.2.2 || (decide (s.2.1 ≤ 8) && nm (i - s.2.1) s.2.1))
def zAfl (T : Nat → Nat) (n : Nat) (nm : Nat → Nat → Bool) (i : Nat) : Nat × Bool := let s := zASt T n nm i; if s.2.1 = 0 then (s.1, s.2.2) else (s.1 + 1, s.2.2 || (decide (s.2.1 ≤ 8) && nm (i - s.2.1) s.2.1))
theorem zASt_y {T : Nat → Nat} {n : Nat} {nm : Nat → Nat → Bool} {i : Nat} (h : i < n ∧ zcL T i = true) : zASt T n nm (i + 1) = ((zASt T n nm i).1, (zASt T n nm i).2.1 + 1, (zASt T n nm i).2.2) := if_pos h
theorem zASt_n {T : Nat → Nat} {n : Nat} {nm : Nat → Nat → Bool} {i : Nat} (h : ¬ (i < n ∧ zcL T i = true)) : zASt T n nm (i + 1) = ((zAfl T n nm i).1, 0, (zAfl T n nm i).2) := by
  unfold zAfl
  show (if i < n ∧ zcL T i = true then _ else if (zASt T n nm i).2.1 = 0 then zASt T n nm i else _) = _
  rw [if_neg h]
  by_cases h0 : (zASt T n nm i).2.1 = 0
  · simp only [if_pos h0]
    exact Prod.ext rfl (Prod.ext h0 rfl)
  · simp only [if_neg h0]
theorem zASt_p {T : Nat → Nat} {n : Nat} {nm : Nat → Nat → Bool} : ∀ {i : Nat}, (zASt T n nm i).2.1 + (zASt T n nm i).1 ≤ i ∧ ∀ j, i - (zASt T n nm i).2.1 ≤ j → j < i → zcL T j = true
  | 0 => ⟨Nat.le_refl _, fun j _ h => absurd h (Nat.not_lt_zero j)⟩
  | i + 1 => by
    have ih := zASt_p (T := T) (n := n) (nm := nm) (i := i)
    by_cases h : i < n ∧ zcL T i = true
    · rw [zASt_y h]
      refine ⟨by show (zASt T n nm i).2.1 + 1 + (zASt T n nm i).1 ≤ i + 1; omega, fun j h1 h2 => ?_⟩
      have h1' : i + 1 - ((zASt T n nm i).2.1 + 1) ≤ j := h1
      by_cases e : j = i
      · rw [e]; exact h.2
      · exact ih.2 j (by omega) (by omega)
    · rw [zASt_n h]
      refine ⟨?_, fun j h1 h2 => ?_⟩
      · show 0 + (zAfl T n nm i).1 ≤ i + 1
        unfold zAfl
        by_cases h0 : (zASt T n nm i).2.1 = 0
        · simp only [if_pos h0]; omega
        · simp only [if_neg h0]; omega
      · have h1' : i + 1 - 0 ≤ j := h1
        omega
def zbb (b : Bool) : Int32 := if b then 1 else 0
theorem zbb_or (a b : Bool) : zbb a ||| zbb b = zbb (a || b) := by cases a <;> cases b <;> decide
theorem X3_put1 {σ : zM} {T : Nat → Nat} {n : Nat} {x3 x4 : Int32} (h : zTc σ T n) (hn : n ≤ 900) : zwh (fun (q : (Int32 × Int32 × Int64 × Int32 × Int32)) => f_X3_put_L15 σ (nI n) x3 x4 q.1 q.2.1 q.2.2.1 q.2.2.2.1 q.2.2.2.2) zFu (0, 0, 0, 0, 0) = some (nI (zAfl T n (fun a L => zNmC σ (lN (zQn 32 0 (zRv T a L)))) n).1, zbb (zAfl T n (fun a L => zNmC σ (lN (zQn 32 0 (zRv T a L)))) n).2) := by
  obtain ⟨nm, hnm⟩ : ∃ nm : Nat → Nat → Bool, nm = fun a L => zNmC σ (lN (zQn 32 0 (zRv T a L))) := ⟨_, rfl⟩
  rw [← hnm]
  have hw := zwh_up (f := fun (q : (Int32 × Int32 × Int64 × Int32 × Int32)) => f_X3_put_L15 σ (nI n) x3 x4 q.1 q.2.1 q.2.2.1 q.2.2.2.1 q.2.2.2.2) (fun i => (nI (zASt T n nm i).1, nI (zASt T n nm i).2.1, zW5 T (i - (zASt T n nm i).2.1) (zASt T n nm i).2.1, zbb (zASt T n nm i).2.2, nI i)) (n + 1) (t := (nI (zAfl T n nm n).1, zbb (zAfl T n nm n).2)) ?_ ?_ (by omega)
  · rw [← hw]
    rfl
  · intro i hi
    have hp := zASt_p (T := T) (n := n) (nm := nm) (i := i)
    show f_X3_put_L15 σ (nI n) x3 x4 (nI (zASt T n nm i).1) (nI (zASt T n nm i).2.1) (zW5 T (i - (zASt T n nm i).2.1) (zASt T n nm i).2.1) (zbb (zASt T n nm i).2.2) (nI i) = some (.inl (nI (zASt T n nm (i + 1)).1, nI (zASt T n nm (i + 1)).2.1, zW5 T (i + 1 - (zASt T n nm (i + 1)).2.1) (zASt T n nm (i + 1)).2.1, zbb (zASt T n nm (i + 1)).2.2, nI (i + 1)))
    -- a byte that is no letter, or the end
    have hno : ¬ (i < n ∧ zcL T i = true) → ∀ t : Int32, f_X10_isLetter t = 0 → f_X3_put_B37_15 σ (nI n) x3 x4 (nI (zASt T n nm i).1) (nI (zASt T n nm i).2.1) (zW5 T (i - (zASt T n nm i).2.1) (zASt T n nm i).2.1) (zbb (zASt T n nm i).2.2) (nI i) t = some (.inl (nI (zASt T n nm (i + 1)).1, nI (zASt T n nm (i + 1)).2.1, zW5 T (i + 1 - (zASt T n nm (i + 1)).2.1) (zASt T n nm (i + 1)).2.1, zbb (zASt T n nm (i + 1)).2.2, nI (i + 1))) := by
      intro hc t ht
      rw [zASt_n hc]
      unfold f_X3_put_B37_15 f_X3_put_B100_15 f_X3_put_B101_15 f_X3_put_B113_15
      rw [if_pos ht]
      unfold zAfl
      by_cases h0 : (zASt T n nm i).2.1 = 0
      · simp only [h0, if_true]
        rw [if_pos (show nI 0 ≤ 0 by decide), nI_1]
        rfl
      · simp only [h0, if_false]
        rw [if_neg (show ¬ nI (zASt T n nm i).2.1 ≤ 0 by rw [show (0 : Int32) = nI 0 from rfl, nI_leI (by omega) (by omega)]; omega), nI_1, nI_1]
        by_cases h8 : (zASt T n nm i).2.1 ≤ 8
        · rw [if_neg (show ¬ 8 < nI (zASt T n nm i).2.1 by rw [zq8, nI_ltI (by omega) (by omega)]; omega), X3_isName, Option.bind_some]
          have e1 : zW5 T (i - (zASt T n nm i).2.1) (zASt T n nm i).2.1 = lN (zQn 32 0 (zRv T (i - (zASt T n nm i).2.1) (zASt T n nm i).2.1)) := if_pos h8
          rw [e1, show zNmC σ (lN (zQn 32 0 (zRv T (i - (zASt T n nm i).2.1) (zASt T n nm i).2.1))) = nm (i - (zASt T n nm i).2.1) (zASt T n nm i).2.1 by rw [hnm], decide_eq_true h8, Bool.true_and]
          have e2 : (if (if nm (i - (zASt T n nm i).2.1) (zASt T n nm i).2.1 then 1 else 0 : Int32) = 0 then 0 else 1 : Int32) = zbb (nm (i - (zASt T n nm i).2.1) (zASt T n nm i).2.1) := by
            cases nm (i - (zASt T n nm i).2.1) (zASt T n nm i).2.1 <;> rfl
          rw [e2, zbb_or]
          rfl
        · rw [if_pos (show 8 < nI (zASt T n nm i).2.1 by rw [zq8, nI_ltI (by omega) (by omega)]; omega), decide_eq_false h8, Bool.false_and, show (0 : Int32) = zbb false from rfl, zbb_or]
          rfl
    unfold f_X3_put_L15
    rw [if_neg (by rw [nI_ltI (by omega) (by omega)]; omega)]
    by_cases hin : i < n
    · obtain ⟨a1, a2⟩ := X9_at h hin
      rw [if_neg (by rw [nI_leI (by omega) (by omega)]; omega), a1, Option.bind_some]
      by_cases hc : zcL T i = true
      · rw [zASt_y ⟨hin, hc⟩]
        have hc' := hc
        unfold zcL at hc'
        rw [Bool.and_eq_true] at hc'
        unfold f_X3_put_B37_15 f_X3_put_B65_15 f_X3_put_B113_15
        rw [zcL_C a2, if_pos hc, if_neg z10, nI_1, nI_1]
        have es : i + 1 - ((zASt T n nm i).2.1 + 1) = i - (zASt T n nm i).2.1 := by omega
        show _ = some (Sum.inl (_, _, zW5 T (i + 1 - ((zASt T n nm i).2.1 + 1)) ((zASt T n nm i).2.1 + 1), _, _))
        rw [es]
        by_cases h8 : 8 ≤ (zASt T n nm i).2.1
        · rw [if_pos (show 8 ≤ nI (zASt T n nm i).2.1 by rw [zq8, nI_leI (by omega) (by omega)]; omega)]
          unfold zW5
          rw [if_neg (by omega)]
        · rw [if_neg (show ¬ 8 ≤ nI (zASt T n nm i).2.1 by rw [zq8, nI_leI (by omega) (by omega)]; omega)]
          unfold zW5
          rw [if_pos (by omega), if_pos (by omega), zjn5 (of_decide_eq_true hc'.1) (of_decide_eq_true hc'.2)]
          show _ = some (Sum.inl (_, _, lN (zQn 32 0 (zRv T (i - (zASt T n nm i).2.1) (zASt T n nm i).2.1) * 32 + (T (i - (zASt T n nm i).2.1 + (zASt T n nm i).2.1) - 96 + 0)), _, _))
          rw [show i - (zASt T n nm i).2.1 + (zASt T n nm i).2.1 = i by omega]
      · exact hno (fun h => hc h.2) _ (by rw [zcL_C a2, if_neg hc])
    · rw [if_pos (by rw [nI_leI (by omega) (by omega)]; omega)]
      exact hno (fun h => hin h.1) _ (by decide)
  · show f_X3_put_L15 σ (nI n) x3 x4 _ _ _ _ (nI (n + 1)) = _
    unfold f_X3_put_L15
    rw [if_pos (nI_lt (by omega) (by omega)), zASt_n (fun h => by omega)]
