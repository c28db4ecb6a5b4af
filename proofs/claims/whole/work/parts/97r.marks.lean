/-! marks: digits of a row -/
def zdg (N i : Nat) : Nat := N / 16 ^ i % 16
/-- the digits from i on below the L-th are good: S has them -/
def zMI (k N L i S : Nat) : Prop := S < 2 ^ 11 ∧ (∀ d, S.testBit d = true ↔ ∃ a, i ≤ a ∧ a < L ∧ zdg N a = d) ∧ (∀ a, i ≤ a → a < L → 1 ≤ zdg N a ∧ zdg N a ≤ k) ∧ (∀ a b, i ≤ a → a < b → b < L → zdg N a ≠ zdg N b) ∧ fb_ct (fun d => S.testBit d) 11 = L - i
theorem zMI_0 {k N L i : Nat} (h : L ≤ i) : zMI k N L i 0 := by
  refine ⟨by decide, fun d => ⟨fun h => absurd ((Nat.zero_testBit d).symm.trans h) (by decide), fun ⟨a, h1, h2, _⟩ => by omega⟩, fun a h1 h2 => by omega, fun a b h1 h2 h3 => by omega, ?_⟩
  rw [fb_ct_zero.mpr (fun d _ => Nat.zero_testBit d)]
  omega
theorem zMI_y {k N L i S : Nat} (h : zMI k N L (i + 1) S) (hi : i < L) (hk : k ≤ 10) (h1 : 1 ≤ zdg N i) (h2 : zdg N i ≤ k) (h3 : S.testBit (zdg N i) = false) : zMI k N L i (S ||| 2 ^ zdg N i) := by
  obtain ⟨g1, g2, g3, g4, g5⟩ := h
  refine ⟨Nat.or_lt_two_pow g1 (Nat.pow_lt_pow_right (by decide) (by omega)), fun d => ?_, fun a ha1 ha2 => ?_, fun a b ha hab hb => ?_, ?_⟩
  · rw [fb_bit_set, Bool.or_eq_true, decide_eq_true_eq, g2]
    constructor
    · rintro (⟨a, ha1, ha2, ha3⟩ | rfl)
      · exact ⟨a, by omega, ha2, ha3⟩
      · exact ⟨i, Nat.le_refl _, hi, rfl⟩
    · rintro ⟨a, ha1, ha2, ha3⟩
      by_cases e : a = i
      · exact Or.inr (by rw [← ha3, e])
      · exact Or.inl ⟨a, by omega, ha2, ha3⟩
  · by_cases e : a = i
    · rw [e]; exact ⟨h1, h2⟩
    · exact g3 a (by omega) ha2
  · by_cases e : a = i
    · subst e
      intro e2
      have : S.testBit (zdg N a) = true := (g2 _).mpr ⟨b, by omega, hb, e2.symm⟩
      rw [h3] at this
      cases this
    · exact g4 a b (by omega) hab hb
  · have hu := fb_ct_upd (fun d => S.testBit d) true (show zdg N i < 11 by omega)
    rw [h3] at hu
    have e : fb_ct (fun d => (S ||| 2 ^ zdg N i).testBit d) 11 = fb_ct (fun d => if d = zdg N i then true else S.testBit d) 11 := fb_ct_cong (fun d _ => by
      rw [fb_bit_set]
      by_cases e : d = zdg N i
      · simp [e]
      · simp [e])
    rw [e]
    have z1 : (if false = true then 1 else 0 : Nat) = 0 := rfl
    have z2 : (if true = true then 1 else 0 : Nat) = 1 := rfl
    rw [z1, z2] at hu
    omega
/-- that a row is good -/
def zGd (k N L : Nat) : Prop := (∀ a, a < L → 1 ≤ zdg N a ∧ zdg N a ≤ k) ∧ ∀ a b, a < b → b < L → zdg N a ≠ zdg N b
theorem zMI_b {k N L i S : Nat} (h : zMI k N L (i + 1) S) (hi : i < L) (hb : zdg N i = 0 ∨ k < zdg N i ∨ S.testBit (zdg N i) = true) : ¬ zGd k N L := by
  intro g
  have g1 := g.1 i hi
  rcases hb with hb | hb | hb
  · omega
  · omega
  · obtain ⟨a, ha1, ha2, ha3⟩ := (h.2.1 _).mp hb
    exact g.2 i a (by omega) ha2 ha3.symm
theorem zMI_g {k N L S : Nat} (h : zMI k N L 0 S) : zGd k N L := ⟨fun a ha => h.2.2.1 a (Nat.zero_le _) ha, fun a b hab hb => h.2.2.2.1 a b (Nat.zero_le _) hab hb⟩
theorem zMI_L {k N L S : Nat} (h : zMI k N L 0 S) : L ≤ 10 := by
  have h5 := h.2.2.2.2
  rw [show (11 : Nat) = 1 + 10 from rfl, fb_ct_split] at h5
  have e0 : fb_ct (fun d => S.testBit d) 1 = 0 := fb_ct_zero.mpr (fun d hd => by
    cases e : S.testBit d
    · rfl
    · obtain ⟨a, ha1, ha2, ha3⟩ := (h.2.1 d).mp e
      have := h.2.2.1 a ha1 ha2
      omega)
  have := fb_ct_le (fun j => S.testBit (1 + j)) 10
  omega
theorem zMI_S {k N L i S : Nat} (h : zMI k N L (i + 1) S) (hi : i < L) : S = 0 ↔ i + 1 = L := by
  have h5 := h.2.2.2.2
  constructor
  · intro e
    rw [e, fb_ct_zero.mpr (fun d _ => Nat.zero_testBit d)] at h5
    omega
  · intro e
    apply Nat.eq_of_testBit_eq
    intro d
    rw [Nat.zero_testBit]
    cases e2 : S.testBit d
    · rfl
    · obtain ⟨a, ha1, ha2, -⟩ := (h.2.1 d).mp e2
      omega
theorem zMI_Z {k N L i S : Nat} (h : zMI k N L (i + 1) S) (hi : L ≤ i) : S = 0 := by
  apply Nat.eq_of_testBit_eq
  intro d
  rw [Nat.zero_testBit]
  cases e2 : S.testBit d
  · rfl
  · obtain ⟨a, ha1, ha2, -⟩ := (h.2.1 d).mp e2
    omega
/-- how many digits a number has -/
theorem zdgL (N : Nat) (hN : N < 2 ^ 63) : ∃ L, L ≤ 16 ∧ N < 16 ^ L ∧ (∀ i, L ≤ i → zdg N i = 0) ∧ ∀ i, i + 1 = L → zdg N i ≠ 0 := by
  have h16 : N < 16 ^ 16 := Nat.lt_trans hN (by decide)
  obtain ⟨L, h1, h2⟩ := pk_least (fun L => N < 16 ^ L) ⟨16, h16⟩
  refine ⟨L, ?_, h1, fun i hi => ?_, fun i hi => ?_⟩
  · rcases Nat.lt_or_ge 16 L with h | h
    · exact absurd h16 (h2 16 h)
    · exact h
  · have h3 : N < 16 ^ i := Nat.lt_of_lt_of_le h1 (Nat.pow_le_pow_right (by decide) hi)
    unfold zdg
    rw [Nat.div_eq_of_lt h3]
  · have h3 := h2 i (by omega)
    have h4 : 16 ^ i ≤ N := by omega
    have h5 : N < 16 ^ i * 16 := by rw [← Nat.pow_succ, Nat.succ_eq_add_one, hi]; exact h1
    have h6 : 0 < N / 16 ^ i := Nat.div_pos h4 (Nat.pow_pos (by decide))
    have h7 : N / 16 ^ i < 16 := Nat.div_lt_of_lt_mul h5
    unfold zdg
    rw [Nat.mod_eq_of_lt h7]
    omega
theorem zmask4 {n : Nat} : lN n &&& 15 = lN (n % 16) := fb_maskL n 4
theorem zdgC {N i : Nat} (hN : N < 2 ^ 63) (hi : i < 16) : ((zlushr (lN N) (nI (4 * i))) &&& 15).toInt32 = nI (zdg N i) := by
  have hp : 2 ^ (4 * i) = 16 ^ i := Nat.pow_mul 2 4 i
  rw [zlushrN (by omega) (by omega), hp, zmask4, lN_i]
  rfl
theorem zdgR {N i : Nat} (hN : N < 2 ^ 63) (hi : i < 16) : ((zlshr (lN N) (nI (4 * i))) &&& 15).toInt32 = nI (zdg N i) := by
  have hp : 2 ^ (4 * i) = 16 ^ i := Nat.pow_mul 2 4 i
  rw [zlshrN hN (by omega), hp, zmask4, lN_i]
  rfl
theorem zdg_16 (N i : Nat) : zdg N i < 16 := Nat.mod_lt _ (by decide)
def zs4 (i : Nat) : Int32 := nI (4 * i) - 4
theorem zs4_p (i : Nat) : zs4 (i + 1) = nI (4 * i) := by
  unfold zs4
  rw [zq4, zsubI (by omega)]
  congr 1
theorem zs4_s (i : Nat) : nI (4 * i) + (-4) = zs4 i := by
  unfold zs4
  rw [← Int32.sub_eq_add_neg]
theorem zs4_0 : zs4 0 < 0 := by decide
theorem X6_mk1 {σ : zM} {r k N L : Nat} {x1 : Int32} (hN : N < 2 ^ 63) (hk : k ≤ 10) (hL : L ≤ 10) (hz : ∀ i, L ≤ i → zdg N i = 0) (ht : ∀ i, i + 1 = L → zdg N i ≠ 0) : ∃ t, zwh (fun (q : (Int32 × Int32)) => f_X6_mark_L43 σ r x1 (lN N) (nI k) q.1 q.2) zFu (0, (40 - 4)) = some t ∧ ((∃ S, t = .inr (nI S) ∧ zMI k N L 0 S) ∨ (t = .inl () ∧ ¬ zGd k N L)) := by
  refine zwh_ex (fun (a : Nat) (q : Int32 × Int32) => ∃ S, q = (nI S, zs4 (10 - a)) ∧ zMI k N L (10 - a) S) _ 10 ⟨0, rfl, zMI_0 hL⟩ (fun a q ha hq => ?_) (fun q hq => ?_) (by omega)
  · obtain ⟨S, rfl, hS⟩ := hq
    obtain ⟨i, hi⟩ : ∃ i, 10 - a = i + 1 := ⟨10 - a - 1, by omega⟩
    have hi2 : 10 - (a + 1) = i := by omega
    rw [hi] at hS
    have hd16 := zdg_16 N i
    have hS11 := hS.1
    have hrun : f_X6_mark_L43 σ r x1 (lN N) (nI k) (nI S) (zs4 (10 - a)) = if (if nI (zdg N i) = 0 then (if nI S = 0 then 1 else 0) else 0 : Int32) = 0 then (if nI (zdg N i) = 0 then some (.inr (.inl ())) else (if nI k < nI (zdg N i) then some (.inr (.inl ())) else (if ((zushr (nI S) (nI (zdg N i))) &&& 1) = 0 then some (.inl ((nI S ||| (1 <<< (nI (zdg N i) &&& 31))), zs4 i)) else some (.inr (.inl ()))))) else some (.inl ((nI S ||| 0), zs4 i)) := by
      unfold f_X6_mark_L43 f_X6_mark_B105_43
      rw [hi, zs4_p, if_neg (zlt0 (by omega)), zdgC hN (by omega), zs4_s]
      by_cases h : (if nI (zdg N i) = 0 then (if nI S = 0 then 1 else 0) else 0 : Int32) = 0
      · rw [if_pos h, if_pos h, if_pos h]
      · rw [if_neg h, if_neg h, if_neg h]
    have e0 : ∀ x, x < 4096 → (nI x = 0 ↔ x = 0) := fun x hx => by rw [show (0 : Int32) = nI 0 from rfl, nI_eq (by omega) (by omega)]
    by_cases hiL : i < L
    · by_cases hbad : zdg N i = 0 ∨ k < zdg N i ∨ S.testBit (zdg N i) = true
      · refine Or.inr ⟨.inl (), ?_, Or.inr ⟨rfl, zMI_b hS hiL hbad⟩⟩
        refine hrun.trans ?_
        by_cases h0 : zdg N i = 0
        · have hS0 : S ≠ 0 := fun e => ht i ((zMI_S hS hiL).mp e) h0
          rw [if_pos ((e0 _ (by omega)).mpr h0), if_neg (fun h => hS0 ((e0 _ (by omega)).mp h)), if_pos rfl, if_pos ((e0 _ (by omega)).mpr h0)]
        · have h0' : ¬ nI (zdg N i) = 0 := fun h => h0 ((e0 _ (by omega)).mp h)
          rw [if_neg h0', if_pos rfl, if_neg h0']
          by_cases h1 : k < zdg N i
          · rw [if_pos (nI_lt h1 (by omega))]
          · rw [if_neg (by rw [nI_ltI (by omega) (by omega)]; exact h1), if_neg]
            rw [zbit0 (by omega) hd16, (hbad.resolve_left h0).resolve_left h1]
            decide
      · have h0 : ¬ zdg N i = 0 := fun h => hbad (Or.inl h)
        have h1 : ¬ k < zdg N i := fun h => hbad (Or.inr (Or.inl h))
        have h2 : S.testBit (zdg N i) = false := by
          cases e : S.testBit (zdg N i)
          · rfl
          · exact absurd (Or.inr (Or.inr e)) hbad
        have h0' : ¬ nI (zdg N i) = 0 := fun h => h0 ((e0 _ (by omega)).mp h)
        refine Or.inl ⟨(nI (S ||| 2 ^ zdg N i), zs4 (10 - (a + 1))), ?_, S ||| 2 ^ zdg N i, rfl, by rw [hi2]; exact zMI_y hS hiL hk (by omega) (by omega) h2⟩
        refine hrun.trans ?_
        rw [if_neg h0', if_pos rfl, if_neg h0', if_neg (by rw [nI_ltI (by omega) (by omega)]; exact h1), if_pos ((zbit0 (by omega) hd16).mpr h2), z1shl _ (by omega), fa_or, hi2]
    · have hS0 := zMI_Z hS (by omega)
      subst hS0
      refine Or.inl ⟨(nI 0, zs4 (10 - (a + 1))), ?_, 0, rfl, by rw [hi2]; exact zMI_0 (by omega)⟩
      refine hrun.trans ?_
      rw [hz i (by omega), if_neg (by decide), hi2]
      rfl
  · obtain ⟨S, rfl, hS⟩ := hq
    refine ⟨.inr (nI S), ?_, Or.inl ⟨S, rfl, hS⟩⟩
    show f_X6_mark_L43 σ r x1 (lN N) (nI k) (nI S) (zs4 (10 - 10)) = _
    unfold f_X6_mark_L43
    rw [Nat.sub_self, if_pos zs4_0]
theorem X12_mk1 {σ : zM} {k N L : Nat} {x1 : Int32} (hN : N < 2 ^ 63) (hk : k ≤ 10) (e1 : zI σ 12 0 1 = nI k) (hL : L ≤ 16) (hz : ∀ i, L ≤ i → zdg N i = 0) (ht : ∀ i, i + 1 = L → zdg N i ≠ 0) : ∃ t, zwh (fun (q : (Int32 × Int32 × Int32)) => f_X12_marks_L33 σ x1 (lN N) q.1 q.2.1 q.2.2) zFu (0, 0, 60) = some t ∧ ((t = .inr (nI L) ∧ L ≤ 10 ∧ zGd k N L) ∨ (t = .inl () ∧ ¬ zGd k N L)) := by
  refine zwh_ex (fun (a : Nat) (q : Int32 × Int32 × Int32) => ∃ S, q = (nI (L - (16 - a)), nI S, zs4 (16 - a)) ∧ zMI k N L (16 - a) S) _ 16 ⟨0, by rw [show L - (16 - 0) = 0 by omega]; rfl, zMI_0 hL⟩ (fun a q ha hq => ?_) (fun q hq => ?_) (by omega)
  · obtain ⟨S, rfl, hS⟩ := hq
    obtain ⟨i, hi⟩ : ∃ i, 16 - a = i + 1 := ⟨16 - a - 1, by omega⟩
    have hi2 : 16 - (a + 1) = i := by omega
    rw [hi] at hS
    have hd16 := zdg_16 N i
    have hS11 := hS.1
    have e0 : ∀ x, x < 4096 → (nI x = 0 ↔ x = 0) := fun x hx => by rw [show (0 : Int32) = nI 0 from rfl, nI_eq (by omega) (by omega)]
    have hB : f_X12_marks_B62_33 σ x1 (lN N) (nI (L - (i + 1))) (nI S) (nI (4 * i)) (nI (zdg N i)) = if zdg N i = 0 then some (.inr (.inl ())) else if k < zdg N i then some (.inr (.inl ())) else if S.testBit (zdg N i) = true then some (.inr (.inl ())) else some (.inl (nI (L - (i + 1) + 1), nI (S ||| 2 ^ zdg N i), zs4 i)) := by
      unfold f_X12_marks_B62_33 f_X12_marks_B103_33
      by_cases h0 : zdg N i = 0
      · rw [if_pos ((e0 _ (by omega)).mpr h0), if_pos h0]
      · rw [if_neg (fun h => h0 ((e0 _ (by omega)).mp h)), if_neg h0]
        obtain ⟨d, hd⟩ : ∃ d, zdg N i = d + 1 := ⟨zdg N i - 1, by omega⟩
        have his : f_X12_isScheme σ (nI (zdg N i) - 1) = if k < zdg N i then 0 else 1 := by
          unfold f_X12_isScheme
          rw [e1, hd, nI_pred]
          by_cases h : k < d + 1
          · rw [if_pos h]
            exact zisIn_0 (by omega) (Or.inr (nI_le (by omega) (by omega)))
          · rw [if_neg h]
            exact zisIn_p (by omega) (by omega)
        rw [his]
        by_cases h1 : k < zdg N i
        · rw [if_pos h1, if_pos rfl, if_pos h1]
        · rw [if_neg h1, if_neg z10, if_neg h1]
          by_cases h2 : S.testBit (zdg N i) = true
          · rw [if_pos ((zsbit (by omega) (by omega)).mpr h2), if_pos h2]
          · rw [if_neg (fun h => h2 ((zsbit (by omega) (by omega)).mp h)), if_neg h2, nI_1, z1shl _ (by omega), fa_or, zs4_s]
    have hrun : f_X12_marks_L33 σ x1 (lN N) (nI (L - (i + 1))) (nI S) (zs4 (i + 1)) = if zdg N i = 0 ∧ L - (i + 1) = 0 then some (.inl (nI (L - (i + 1)), nI S, zs4 i)) else f_X12_marks_B62_33 σ x1 (lN N) (nI (L - (i + 1))) (nI S) (nI (4 * i)) (nI (zdg N i)) := by
      unfold f_X12_marks_L33 f_X12_marks_B103_33
      rw [zs4_p, if_neg (zlt0 (by omega)), zdgR hN (by omega), zs4_s]
      by_cases h0 : zdg N i = 0
      · rw [if_pos ((e0 _ (by omega)).mpr h0)]
        by_cases h1 : L - (i + 1) = 0
        · rw [if_pos ((e0 _ (by omega)).mpr h1), if_pos ⟨h0, h1⟩]
        · rw [if_neg (fun h => h1 ((e0 _ (by omega)).mp h)), if_neg (fun h => h1 h.2)]
      · rw [if_neg (fun h => h0 ((e0 _ (by omega)).mp h)), if_neg (fun h => h0 h.1)]
    by_cases hiL : i < L
    · have hnz : ¬ (zdg N i = 0 ∧ L - (i + 1) = 0) := fun h => ht i (by omega) h.1
      by_cases hbad : zdg N i = 0 ∨ k < zdg N i ∨ S.testBit (zdg N i) = true
      · refine Or.inr ⟨.inl (), ?_, Or.inr ⟨rfl, zMI_b hS hiL hbad⟩⟩
        show f_X12_marks_L33 σ x1 (lN N) (nI (L - (16 - a))) (nI S) (zs4 (16 - a)) = _
        rw [hi, hrun, if_neg hnz, hB]
        by_cases h0 : zdg N i = 0
        · rw [if_pos h0]
        · rw [if_neg h0]
          by_cases h1 : k < zdg N i
          · rw [if_pos h1]
          · rw [if_neg h1, if_pos ((hbad.resolve_left h0).resolve_left h1)]
      · have h0 : ¬ zdg N i = 0 := fun h => hbad (Or.inl h)
        have h1 : ¬ k < zdg N i := fun h => hbad (Or.inr (Or.inl h))
        have h2 : ¬ S.testBit (zdg N i) = true := fun h => hbad (Or.inr (Or.inr h))
        have h2' : S.testBit (zdg N i) = false := by
          cases e : S.testBit (zdg N i)
          · rfl
          · exact absurd e h2
        refine Or.inl ⟨(nI (L - (16 - (a + 1))), nI (S ||| 2 ^ zdg N i), zs4 (16 - (a + 1))), ?_, S ||| 2 ^ zdg N i, rfl, by rw [hi2]; exact zMI_y hS hiL hk (by omega) (by omega) h2'⟩
        show f_X12_marks_L33 σ x1 (lN N) (nI (L - (16 - a))) (nI S) (zs4 (16 - a)) = _
        rw [hi, hrun, if_neg hnz, hB, if_neg h0, if_neg h1, if_neg h2, hi2, show L - (i + 1) + 1 = L - i by omega]
    · have hS0 := zMI_Z hS (by omega)
      subst hS0
      refine Or.inl ⟨(nI (L - (16 - (a + 1))), nI 0, zs4 (16 - (a + 1))), ?_, 0, rfl, by rw [hi2]; exact zMI_0 (by omega)⟩
      show f_X12_marks_L33 σ x1 (lN N) (nI (L - (16 - a))) (nI 0) (zs4 (16 - a)) = _
      rw [hi, hrun, if_pos ⟨hz i (by omega), by omega⟩, hi2, show L - (i + 1) = L - i by omega]
  · obtain ⟨S, rfl, hS⟩ := hq
    rw [Nat.sub_self] at hS
    refine ⟨.inr (nI L), ?_, Or.inl ⟨rfl, zMI_L hS, zMI_g hS⟩⟩
    show f_X12_marks_L33 σ x1 (lN N) (nI (L - (16 - 16))) (nI S) (zs4 (16 - 16)) = _
    unfold f_X12_marks_L33
    rw [Nat.sub_self, if_pos zs4_0, Nat.sub_zero]
