/-! a room's cells and light -/
theorem zmaxE {a b : Nat} (ha : a < 2147483648) (hb : b < 2147483648) : zmax (nI a) (nI b) = nI (Nat.max a b) := by
  unfold zmax
  by_cases h : a < b
  · rw [if_pos (nI_lt h hb), show Nat.max a b = b from Nat.max_eq_right (by omega)]
  · rw [if_neg (by rw [nI_ltI ha hb]; exact h), show Nat.max a b = a from Nat.max_eq_left (by omega)]
/-- the reference's cells of scheme s are C -/
def zRC (σ : zM) (s : Nat) (C : Nat → Nat) : Prop := ∀ k, k < 160 → C k < 15 ∧ zA σ 12 0 3 (160 * s + k) = nI (C k)
theorem zRC_of {σ : zM} {s : Nat} (h : zCR σ s) : zRC σ s (zCl σ s) := h.1
theorem X12_at_C {σ : zM} {s k : Nat} {C : Nat → Nat} (h : zRC σ s C) (hs : s < 10) (hk : k < 160) : f_X12_at σ (nI s) (nI k) = some (nI (C k)) := by
  unfold f_X12_at
  rw [zq160, zmulI, nI_add, zix_n (show 160 * s + k < 1600 by omega) (by omega), Option.bind_some, (h k hk).2]
theorem X12_beside : ∀ k, k < 160 → ∀ i, i < 4 → f_X12_beside (nI k) (nI i) = (match znb k i with | none => -1 | some o => nI o) := by decide +kernel
theorem zopn_v {C : Nat → Nat} {k i : Nat} : zopn C k i = decide (znv C k i = 0) := by
  unfold zopn znv
  cases znb k i <;> rfl
theorem zlg1_15 {C S : Nat → Nat} {k : Nat} (hS : ∀ i, i < 4 → S i ≤ 12) : ∀ {i m : Nat}, i ≤ 4 → m ≤ 12 → zlg1 C S k i m ≤ 12
  | 0, m, _, h => h
  | i + 1, m, hi, h => by
    have h1 := zlg1_15 (C := C) (k := k) hS (show i ≤ 4 by omega) h
    have h2 := hS i (by omega)
    show (if zopn C k i then Nat.max (zlg1 C S k i m) (S i) else zlg1 C S k i m) ≤ 12
    split
    · exact Nat.max_le.mpr ⟨h1, h2⟩
    · exact h1
theorem X8_lightAt {σ : zM} {s k : Nat} {C S : Nat → Nat} (hX : zCX σ s C) (hS : ∀ i, i < 4 → S i ≤ 12) (hS2 : ∀ i, i < 4 → zA σ 8 0 0 i = nI (S i)) (hk : k < 160) : f_X8_lightAt σ s (nI (zpl k)) = some (nI (zlg1 C S k 4 0)) := by
  have hp := zpl_bd k hk
  unfold f_X8_lightAt
  have hw := zwh_up (f := fun (q : (Int32 × Int32)) => f_X8_lightAt_L11 σ s (nI (zpl k)) q.1 q.2) (fun i => (nI (zlg1 C S k i 0), nI i)) 4 (t := nI (zlg1 C S k 4 0)) ?_ ?_ (by omega)
  · rw [show ((0 : Int32), (0 : Int32)) = (fun i => (nI (zlg1 C S k i 0), nI i)) 0 from rfl, hw, Option.bind_some]
  · intro i hi
    have hb := (znv_bd k hk i hi).1
    have h15 := znv_15 hX.1 hk hi
    have h12 := zlg1_15 (C := C) (k := k) hS (show i ≤ 4 by omega) (show 0 ≤ 12 by omega)
    have hSi := hS i hi
    show f_X8_lightAt_L11 σ s (nI (zpl k)) (nI (zlg1 C S k i 0)) (nI i) = _
    unfold f_X8_lightAt_L11
    have h4 : ¬ (4 : Int32) ≤ nI i := by rw [zq4, nI_leI (by omega) (by omega)]; omega
    rw [if_neg h4, if_neg h4, zix_n hi (by omega), Option.bind_some, zBES_at hp.1.1 hi, if_neg (zlt0 (by omega)), if_neg (by rw [zq240, nI_leI (by omega) (by omega)]; omega), zix_n hb (by omega), Option.bind_some, hX.2.1 _ hb, znv_Bd hk hi, Option.bind_some, hS2 i hi]
    unfold f_X8_lightAt_B73_11
    rw [nI_1]
    by_cases h : znv C k i = 0
    · rw [if_pos (by rw [h]; rfl), zmaxE (by omega) (by omega)]
      show _ = some (Sum.inl (nI (if zopn C k i then _ else _), _))
      rw [zopn_v, if_pos (by rw [h]; rfl)]
    · rw [if_neg (by rw [show (0 : Int32) = nI 0 from rfl, nI_eq (by omega) (by omega)]; exact h)]
      show _ = some (Sum.inl (nI (if zopn C k i then _ else _), _))
      rw [zopn_v, if_neg (by simpa using h)]
  · show f_X8_lightAt_L11 σ s (nI (zpl k)) (nI (zlg1 C S k 4 0)) (nI 4) = _
    unfold f_X8_lightAt_L11
    rw [if_pos (show (4 : Int32) ≤ nI 4 by decide)]
/-- the light over the places below p -/
def zlp (C S : Nat → Nat) (r : Nat) : Nat → Nat
  | 0 => 0
  | p + 1 => if zBd C p = r then Nat.max (zlp C S r p) (zlg1 C S (zce p) 4 0) else zlp C S r p
theorem zlg1_le {C S : Nat → Nat} {k b : Nat} : ∀ {i m : Nat}, zlg1 C S k i m ≤ b ↔ m ≤ b ∧ ∀ j, j < i → zopn C k j = true → S j ≤ b
  | 0, m => ⟨fun h => ⟨h, fun _ h => absurd h (by omega)⟩, fun h => h.1⟩
  | i + 1, m => by
    have ih := zlg1_le (C := C) (S := S) (k := k) (b := b) (i := i) (m := m)
    show (if zopn C k i then Nat.max (zlg1 C S k i m) (S i) else zlg1 C S k i m) ≤ b ↔ _
    by_cases h : zopn C k i = true
    · rw [if_pos h, show Nat.max (zlg1 C S k i m) (S i) ≤ b ↔ zlg1 C S k i m ≤ b ∧ S i ≤ b from Nat.max_le, ih]
      refine ⟨fun ⟨⟨h1, h2⟩, h3⟩ => ⟨h1, fun j hj ho => ?_⟩, fun ⟨h1, h2⟩ => ⟨⟨h1, fun j hj ho => h2 j (by omega) ho⟩, h2 i (by omega) h⟩⟩
      by_cases e : j = i
      · rw [e]; exact h3
      · exact h2 j (by omega) ho
    · rw [if_neg h, ih]
      refine ⟨fun ⟨h1, h2⟩ => ⟨h1, fun j hj ho => ?_⟩, fun ⟨h1, h2⟩ => ⟨h1, fun j hj ho => h2 j (by omega) ho⟩⟩
      by_cases e : j = i
      · rw [e] at ho; exact absurd ho h
      · exact h2 j (by omega) ho
theorem zlgn_le {C S : Nat → Nat} {r b : Nat} : ∀ {n : Nat}, zlgn C S r n ≤ b ↔ ∀ k, k < n → C k = r → ∀ j, j < 4 → zopn C k j = true → S j ≤ b
  | 0 => ⟨fun _ k hk => absurd hk (by omega), fun _ => Nat.zero_le _⟩
  | n + 1 => by
    have ih := zlgn_le (C := C) (S := S) (r := r) (b := b) (n := n)
    show (if C n = r then zlg1 C S n 4 (zlgn C S r n) else zlgn C S r n) ≤ b ↔ _
    by_cases h : C n = r
    · rw [if_pos h, zlg1_le, ih]
      refine ⟨fun ⟨h1, h2⟩ k hk hr => ?_, fun h1 => ⟨fun k hk hr => h1 k (by omega) hr, h1 n (by omega) h⟩⟩
      by_cases e : k = n
      · rw [e]; exact h2
      · exact h1 k (by omega) hr
    · rw [if_neg h, ih]
      refine ⟨fun h1 k hk hr => ?_, fun h1 k hk hr => h1 k (by omega) hr⟩
      by_cases e : k = n
      · exact absurd (e ▸ hr) h
      · exact h1 k (by omega) hr
theorem zlp_le {C S : Nat → Nat} {r b : Nat} : ∀ {n : Nat}, zlp C S r n ≤ b ↔ ∀ p, p < n → zBd C p = r → ∀ j, j < 4 → zopn C (zce p) j = true → S j ≤ b
  | 0 => ⟨fun _ k hk => absurd hk (by omega), fun _ => Nat.zero_le _⟩
  | n + 1 => by
    have ih := zlp_le (C := C) (S := S) (r := r) (b := b) (n := n)
    show (if zBd C n = r then Nat.max (zlp C S r n) (zlg1 C S (zce n) 4 0) else zlp C S r n) ≤ b ↔ _
    by_cases h : zBd C n = r
    · rw [if_pos h, show Nat.max (zlp C S r n) (zlg1 C S (zce n) 4 0) ≤ b ↔ zlp C S r n ≤ b ∧ zlg1 C S (zce n) 4 0 ≤ b from Nat.max_le, zlg1_le, ih]
      refine ⟨fun ⟨h1, h2⟩ k hk hr => ?_, fun h1 => ⟨fun k hk hr => h1 k (by omega) hr, Nat.zero_le _, h1 n (by omega) h⟩⟩
      by_cases e : k = n
      · rw [e]; exact h2.2
      · exact h1 k (by omega) hr
    · rw [if_neg h, ih]
      refine ⟨fun h1 k hk hr => ?_, fun h1 k hk hr => h1 k (by omega) hr⟩
      by_cases e : k = n
      · exact absurd (e ▸ hr) h
      · exact h1 k (by omega) hr
theorem zinB_bd : ∀ p, p < 240 → zinB p = true → 13 ≤ p ∧ p < 227 := by decide +kernel
theorem zBd_in {C : Nat → Nat} {p r : Nat} (hr : 1 ≤ r) (h : zBd C p = r) : zinB p = true ∧ C (zce p) = r ∧ p < 240 := by
  unfold zBd at h
  by_cases hb : zinB p = true
  · rw [if_pos hb] at h
    refine ⟨hb, h, ?_⟩
    unfold zinB at hb
    simp only [Bool.and_eq_true, decide_eq_true_eq] at hb
    exact hb.1.1
  · rw [if_neg hb] at h
    omega
theorem zlp_all {C S : Nat → Nat} {r : Nat} (hr : 1 ≤ r) : zlp C S r 227 = zLgt C S r := by
  have e : ∀ b, zlp C S r 227 ≤ b ↔ zLgt C S r ≤ b := fun b => by
    unfold zLgt
    rw [zlp_le, zlgn_le]
    constructor
    · intro h k hk hC
      have := h (zpl k) (zpl_bd k hk).1.2 (by rw [zBd_pl hk]; exact hC)
      rw [(zpl_in k hk).2.1] at this
      exact this
    · intro h p hp hB
      obtain ⟨h1, h2, h3⟩ := zBd_in hr hB
      exact h (zce p) (zce_pl p h3 h1).2 h2
  exact Nat.le_antisymm ((e _).mpr (Nat.le_refl _)) ((e _).mp (Nat.le_refl _))
theorem zlp_15 {C S : Nat → Nat} {r : Nat} (hS : ∀ i, i < 4 → S i ≤ 12) : ∀ n, zlp C S r n ≤ 12 := fun n => zlp_le.mpr (fun _ _ _ j hj _ => hS j hj)
theorem zlp_13 {C S : Nat → Nat} {r : Nat} (hr : 1 ≤ r) : zlp C S r 13 = 0 := by
  have : zlp C S r 13 ≤ 0 := zlp_le.mpr (fun p hp hB => by
    obtain ⟨h1, h2, h3⟩ := zBd_in hr hB
    have := zinB_bd p h3 h1
    omega)
  omega
theorem zBd_15 {C : Nat → Nat} (hC : ∀ k, k < 160 → C k < 15) {p : Nat} (hp : p < 240) : zBd C p < 15 := by
  unfold zBd
  by_cases hb : zinB p = true
  · rw [if_pos hb]
    exact hC _ (zce_pl p hp hb).2
  · rw [if_neg hb]
    omega
theorem X8_light {σ : zM} {s r : Nat} {C S : Nat → Nat} (hX : zCX σ s C) (hS : ∀ i, i < 4 → S i ≤ 12) (hS2 : ∀ i, i < 4 → zA σ 8 0 0 i = nI (S i)) (hr : 1 ≤ r) (hr2 : r < 15) : f_X8_lightOf σ s (nI r) = some (nI (zLgt C S r)) := by
  unfold f_X8_lightOf
  have hw := zwh_up (f := fun (q : (Int32 × Int32)) => f_X8_lightOf_L6 σ s (nI r) q.1 q.2) (fun i => (nI (zlp C S r (13 + i)), nI (13 + i))) 214 (t := nI (zLgt C S r)) ?_ ?_ (by omega)
  · rw [show ((0 : Int32), (13 : Int32)) = (fun i => (nI (zlp C S r (13 + i)), nI (13 + i))) 0 from by show _ = (nI (zlp C S r 13), nI 13); rw [zlp_13 hr]; rfl, hw, Option.bind_some]
  · intro i hi
    show f_X8_lightOf_L6 σ s (nI r) (nI (zlp C S r (13 + i))) (nI (13 + i)) = _
    have h15 := zBd_15 hX.1 (show 13 + i < 240 by omega)
    unfold f_X8_lightOf_L6
    rw [if_neg (by rw [zq227, nI_leI (by omega) (by omega)]; omega), zthing (show 13 + i < 240 by omega), Option.bind_some, hX.2.1 _ (show 13 + i < 240 by omega)]
    have e : zlp C S r (13 + (i + 1)) = if zBd C (13 + i) = r then Nat.max (zlp C S r (13 + i)) (zlg1 C S (zce (13 + i)) 4 0) else zlp C S r (13 + i) := rfl
    unfold f_X8_lightOf_B36_6
    rw [e, nI_1]
    by_cases h : zBd C (13 + i) = r
    · obtain ⟨h1, h2, h3⟩ := zBd_in hr h
      have h4 := zce_pl _ h3 h1
      have hl := X8_lightAt hX hS hS2 h4.2
      rw [h4.1] at hl
      have b1 := zlp_15 (C := C) (r := r) hS (13 + i)
      have b2 := zlg1_15 (C := C) (k := zce (13 + i)) hS (Nat.le_refl 4) (show 0 ≤ 12 by omega)
      rw [if_pos (by rw [h]), if_pos h, hl, Option.bind_some, zmaxE (by omega) (by omega)]
      rfl
    · rw [if_neg (by rw [nI_eq (by omega) (by omega)]; exact h), if_neg h]
      rfl
  · show f_X8_lightOf_L6 σ s (nI r) (nI (zlp C S r 227)) (nI 227) = _
    unfold f_X8_lightOf_L6
    rw [if_pos (show (227 : Int32) ≤ nI 227 by decide), zlp_all hr]
theorem zlgn_15 {C S : Nat → Nat} {r : Nat} (hS : ∀ i, i < 4 → S i ≤ 12) : ∀ n, zlgn C S r n ≤ 12 := fun n => zlgn_le.mpr (fun _ _ _ j hj _ => hS j hj)
theorem X12_light1 {σ : zM} {s k m : Nat} {x2 : Int32} {C S : Nat → Nat} (hR : zRC σ s C) (hs : s < 10) (hS : ∀ i, i < 4 → S i ≤ 12) (hS2 : ∀ i, i < 4 → zA σ 12 0 6 i = nI (S i)) (hk : k < 160) (hm : m ≤ 12) : zwh (fun (q : (Int32 × Int32)) => f_X12_lightOf_L30 σ (nI s) x2 (nI k) q.1 q.2) zFu (nI m, 0) = some (nI (zlg1 C S k 4 m)) := by
  have hw := zwh_up (f := fun (q : (Int32 × Int32)) => f_X12_lightOf_L30 σ (nI s) x2 (nI k) q.1 q.2) (fun i => (nI (zlg1 C S k i m), nI i)) 4 (t := nI (zlg1 C S k 4 m)) ?_ ?_ (by omega)
  · rw [show (nI m, (0 : Int32)) = (fun i => (nI (zlg1 C S k i m), nI i)) 0 from rfl, hw]
  · intro i hi
    have h12 := zlg1_15 (C := C) (k := k) hS (show i ≤ 4 by omega) hm
    have hSi := hS i hi
    have ho := znb_op k hk i hi
    show f_X12_lightOf_L30 σ (nI s) x2 (nI k) (nI (zlg1 C S k i m)) (nI i) = _
    unfold f_X12_lightOf_L30 f_X12_lightOf_B62_30 f_X12_lightOf_B74_30
    have e : zlg1 C S k (i + 1) m = if zopn C k i then Nat.max (zlg1 C S k i m) (S i) else zlg1 C S k i m := rfl
    rw [if_neg (by rw [zq4, nI_leI (by omega) (by omega)]; omega), X12_beside k hk i hi, zix_n hi (by omega), nI_1]
    show _ = some (Sum.inl (nI (zlg1 C S k (i + 1) m), nI (i + 1)))
    rw [e]
    unfold zopn
    cases en : znb k i with
    | none =>
      simp only
      rw [if_pos trivial, if_pos trivial, Option.bind_some, hS2 i hi, zmaxE (by omega) (by omega)]
    | some o =>
      rw [en] at ho
      have ho1 := ho.1
      have hC := (hR o ho1).1
      simp only
      rw [if_neg (znI_m1 (by omega)), X12_at_C hR hs ho1, Option.bind_some]
      by_cases h : C o = 0
      · rw [if_pos (by rw [h]; rfl), Option.bind_some, hS2 i hi, zmaxE (by omega) (by omega), if_pos (by simpa using h)]
      · rw [if_neg (by rw [show (0 : Int32) = nI 0 from rfl, nI_eq (by omega) (by omega)]; exact h), if_neg (by simpa using h)]
  · show f_X12_lightOf_L30 σ (nI s) x2 (nI k) (nI (zlg1 C S k 4 m)) (nI 4) = _
    unfold f_X12_lightOf_L30
    rw [if_pos (show (4 : Int32) ≤ nI 4 by decide)]
theorem X12_light {σ : zM} {s r : Nat} {C S : Nat → Nat} (hR : zRC σ s C) (hs : s < 10) (hS : ∀ i, i < 4 → S i ≤ 12) (hS2 : ∀ i, i < 4 → zA σ 12 0 6 i = nI (S i)) (hr2 : r < 15) : f_X12_lightOf σ (nI s) (nI r) = some (nI (zLgt C S r)) := by
  unfold f_X12_lightOf
  have hw := zwh_up (f := fun (q : (Int32 × Int32)) => f_X12_lightOf_L5 σ (nI s) (nI r) q.1 q.2) (fun i => (nI (zlgn C S r i), nI i)) 160 (t := nI (zLgt C S r)) ?_ ?_ (by omega)
  · rw [show ((0 : Int32), (0 : Int32)) = (fun i => (nI (zlgn C S r i), nI i)) 0 from rfl, hw, Option.bind_some]
  · intro i hi
    show f_X12_lightOf_L5 σ (nI s) (nI r) (nI (zlgn C S r i)) (nI i) = _
    have h15 := (hR i hi).1
    unfold f_X12_lightOf_L5 f_X12_lightOf_B80_5
    have e : zlgn C S r (i + 1) = if C i = r then zlg1 C S i 4 (zlgn C S r i) else zlgn C S r i := rfl
    rw [if_neg (by rw [zq160, nI_leI (by omega) (by omega)]; omega), X12_at_C hR hs hi, Option.bind_some, X12_light1 hR hs hS hS2 hi (zlgn_15 hS i), nI_1, e]
    by_cases h : C i = r
    · rw [if_pos (by rw [h]), if_pos h]
      rfl
    · rw [if_neg (by rw [nI_eq (by omega) (by omega)]; exact h), if_neg h]
  · show f_X12_lightOf_L5 σ (nI s) (nI r) (nI (zlgn C S r 160)) (nI 160) = _
    unfold f_X12_lightOf_L5
    rw [if_pos (show (160 : Int32) ≤ nI 160 by decide)]
    rfl
theorem X12_many {σ : zM} {s r : Nat} {C : Nat → Nat} (hR : zRC σ s C) (hs : s < 10) (hr2 : r < 15) : f_X12_manyOf σ (nI s) (nI r) = some (nI (zcnt1 C r)) := by
  unfold f_X12_manyOf
  have hw := zwh_up (f := fun (q : (Int32 × Int32)) => f_X12_manyOf_L5 σ (nI s) (nI r) q.1 q.2) (fun i => (nI (fb_ct (fun k => decide (C k = r)) i), nI i)) 160 (t := nI (zcnt1 C r)) ?_ ?_ (by omega)
  · rw [show ((0 : Int32), (0 : Int32)) = (fun i => (nI (fb_ct (fun k => decide (C k = r)) i), nI i)) 0 from rfl, hw, Option.bind_some]
  · intro i hi
    show f_X12_manyOf_L5 σ (nI s) (nI r) (nI (fb_ct (fun k => decide (C k = r)) i)) (nI i) = _
    have h15 := (hR i hi).1
    unfold f_X12_manyOf_L5 f_X12_one
    rw [if_neg (by rw [zq160, nI_leI (by omega) (by omega)]; omega), X12_at_C hR hs hi, Option.bind_some, nI_1]
    show _ = some (Sum.inl (nI (fb_ct (fun k => decide (C k = r)) i + (if decide (C i = r) then 1 else 0)), nI (i + 1)))
    by_cases h : C i = r
    · rw [if_pos (show nI (C i) = nI r by rw [h]), if_neg z10, nI_1, if_pos (by simpa using h)]
    · rw [if_neg (show ¬ nI (C i) = nI r by rw [nI_eq (by omega) (by omega)]; exact h), if_pos rfl, if_neg (by simpa using h)]
      congr 3
      exact Int32.add_zero _
  · show f_X12_manyOf_L5 σ (nI s) (nI r) (nI (fb_ct (fun k => decide (C k = r)) 160)) (nI 160) = _
    unfold f_X12_manyOf_L5
    rw [if_pos (show (160 : Int32) ≤ nI 160 by decide)]
    rfl
theorem X7_many {σ : zM} {s r : Nat} {C : Nat → Nat} (hX : zCX σ s C) (hr : 1 ≤ r) (hr2 : r < 15) : f_X7_countOf σ s (nI r) = some (nI (zcnt1 C r)) := by
  unfold f_X7_countOf
  rw [if_neg (zlt0 (by omega)), if_neg (by rw [zq15, nI_leI (by omega) (by omega)]; omega), zix_n hr2 (by omega), Option.bind_some, hX.2.2.1 r hr hr2]
theorem zSun_x {σ : zM} (h : iSun σ) : (∀ i, i < 4 → zSn σ i ≤ 12) ∧ (∀ i, i < 4 → zA σ 8 0 0 i = nI (zSn σ i)) ∧ ∀ i, i < 4 → zA σ 12 0 6 i = nI (zSn σ i) := by
  refine ⟨fun i hi => ?_, fun i hi => ?_, fun i hi => ?_⟩ <;> obtain ⟨b, h1, h2, h3⟩ := h i hi <;> unfold zSn <;> rw [h3, nI_clamp (by omega)]
  · exact h1
  · exact h2
theorem zisRom (x : Int32) : (∃ r, 1 ≤ r ∧ r ≤ 12 ∧ x = nI r ∧ f_X11_isRoom x = 1 ∧ f_X12_isRoom x = 1) ∨ (f_X11_isRoom x = 0 ∧ f_X12_isRoom x = 0) := by
  unfold f_X11_isRoom f_X12_isRoom
  rcases zcase x (n := 13) (by omega) with ⟨r, hr, rfl⟩ | hx
  · by_cases h0 : r = 0
    · subst h0
      exact Or.inr ⟨by decide, by decide⟩
    · refine Or.inl ⟨r, by omega, by omega, rfl, ?_, zisIn_1 (a := 1) (m := 12) (by omega) (by omega) (by omega)⟩
      rw [if_neg (by rw [zq1, nI_ltI (by omega) (by omega)]; omega), if_neg (by rw [zq12, nI_ltI (by omega) (by omega)]; omega)]
  · refine Or.inr ?_
    unfold f_X12_isIn
    by_cases h1 : x < 1
    · rw [if_pos h1]
      exact ⟨rfl, rfl⟩
    · have h12 : (12 : Int32) < x := by
        rcases hx with hx | hx
        · exact absurd (by rw [fa_lt] at hx ⊢; have e0 : (0 : Int32).toInt = 0 := rfl; have e1 : (1 : Int32).toInt = 1 := rfl; omega) h1
        · rw [fa_le, nI_toInt (by omega)] at hx
          rw [zq12, fa_lt, nI_toInt (by omega)]
          omega
      rw [if_neg h1, if_pos h12]
      exact ⟨rfl, rfl⟩
theorem ob_room (x1 x2 x3 : Int32) : zOb zInv (fun σ => (f_X11_room σ x1 x2 x3).map (fun r => (r, σ))) (fun σ => (f_X12_room σ x1 x2 x3).map (fun r => (r, σ))) := by
  refine zRO (g1 := fun σ => f_X11_room σ x1 x2 x3) (g2 := fun σ => f_X12_room σ x1 x2 x3) (fun n σ hn hI => ?_)
  obtain ⟨hDay, hFlt, hTap, hNam, hSun, hSch, hPai, hQue, hPan, hWds, hBri, hMen, hRnd⟩ := hI
  unfold f_X11_room f_X12_room
  rcases zschAt hSch x1 with ⟨s, rfl, hs, hs2, e1, e2, hsc⟩ | ⟨e1, e2⟩
  · rw [e1, e2, if_neg z10]
    simp only [Option.bind_some, znu]
    rcases zisRom x2 with ⟨r, hr1, hr2, rfl, r1, r2⟩ | ⟨r1, r2⟩
    · rw [r1, r2, if_neg z10, if_neg z10]
      obtain ⟨u1, u2, u3⟩ := zSun_x hSun
      have hX := zCX_of hsc.2.2.2.2
      have hR := zRC_of hsc.2.2.2.2
      rcases zcase x3 (n := 2) (by omega) with ⟨w, hw, rfl⟩ | hx
      · rw [show f_X12_isIn (nI w) 0 1 = 1 from zisIn_1 (a := 0) (m := 1) (by omega) (by omega) (by omega), if_neg z10]
        have : w = 0 ∨ w = 1 := by omega
        rcases this with rfl | rfl
        · rw [if_pos (show nI 0 = 0 from rfl), if_pos (show nI 0 = 0 from rfl), X7_many hX hr1 (by omega), X12_many hR hs2 (by omega)]
          exact ⟨_, rfl, rfl⟩
        · rw [if_neg (show ¬ nI 1 = 0 from z10), if_neg (show ¬ nI 1 = 0 from z10), if_pos (show nI 1 = 1 from rfl), X8_light hX u1 u2 hr1 (by omega), X12_light hR hs2 u1 u3 (by omega)]
          exact ⟨_, rfl, rfl⟩
      · have h0 : x3 ≠ 0 := fun e => by subst e; exact absurd hx (by decide)
        have h1 : x3 ≠ 1 := fun e => by subst e; exact absurd hx (by decide)
        rw [show f_X12_isIn x3 0 1 = 0 from zisIn_0' (m := 1) (by omega) hx, if_pos rfl, if_neg h0, if_neg h1]
        exact ⟨_, rfl, rfl⟩
    · rw [r1, r2, if_pos rfl, if_pos rfl]
      exact ⟨_, rfl, rfl⟩
  · rw [e1, e2, if_pos rfl]
    exact ⟨_, rfl, rfl⟩
