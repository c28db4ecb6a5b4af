/-! rounds: places, points -/
def zpc (m : Nat) : Nat := fb_ct (fun s => m.testBit s) 10
/-- the place of scheme s in juror j's row among those in the round; how many are in it, if it isn't there -/
def zPc (m : Nat) (L : Nat → Nat) (R : Nat → Nat → Nat) (j s : Nat) : Nat := if fa_first (fun i => decide (R j i = s)) (L j) < L j then fb_ct (fun i => m.testBit (R j i)) (fa_first (fun i => decide (R j i = s)) (L j)) else zpc m
def zRk (σ : zM) (r m : Nat) (L : Nat → Nat) (R : Nat → Nat → Nat) : Prop := r < 2 ∧ m < 1024 ∧ (∀ s, s < 10 → zA σ 6 r 0 s = if m.testBit s then 1 else 0) ∧ zI σ 6 r 6 = nI (zpc m) ∧ ∀ j, j < 7 → L j ≤ 10 ∧ zA σ 6 r 2 j = nI (L j) ∧ (∀ a b, a < b → b < L j → R j a ≠ R j b) ∧ ∀ i, i < L j → R j i < 10 ∧ zA σ 6 r 1 (10 * j + i) = nI (R j i)
def zRvo (σ : zM) (r : Nat) (V : Nat → Bool) : Prop := ∀ j, j < 7 → zA σ 6 r 3 j = if V j then 1 else 0
theorem zRk_x {F : List (Nat × Nat)} {σ σ' : zM} {r m : Nat} {L : Nat → Nat} {R : Nat → Nat → Nat} (h : zEx F σ σ') (hF : ([(6, 0), (6, 1), (6, 2), (6, 6)] : List (Nat × Nat)).all (fun q => !F.contains q) = true) (hk : zRk σ r m L R) : zRk σ' r m L R := by
  have hd := zFe_of h hF
  have e0 : zA σ' 6 r 0 = zA σ 6 r 0 := (hd (6, 0) (by simp)).2.2.2.1 r
  have e1 : zA σ' 6 r 1 = zA σ 6 r 1 := (hd (6, 1) (by simp)).2.2.2.1 r
  have e2 : zA σ' 6 r 2 = zA σ 6 r 2 := (hd (6, 2) (by simp)).2.2.2.1 r
  have e6 : zI σ' 6 r 6 = zI σ 6 r 6 := (hd (6, 6) (by simp)).1 r
  unfold zRk
  rw [e0, e1, e2, e6]
  exact hk
theorem zRvo_x {F : List (Nat × Nat)} {σ σ' : zM} {r : Nat} {V : Nat → Bool} (h : zEx F σ σ') (hF : (6, 3) ∉ F) (hk : zRvo σ r V) : zRvo σ' r V := by
  unfold zRvo
  rw [h.2.2.2.1 6 r 3 hF]
  exact hk
theorem zpc_le (m : Nat) : zpc m ≤ 10 := fb_ct_le _ _
/-- different things drawn are no more than the things -/
theorem zct_inj {P : Nat → Bool} {R : Nat → Nat} {N : Nat} : ∀ {n : Nat}, (∀ i, i < n → R i < N) → (∀ a b, a < b → b < n → R a ≠ R b) → fb_ct (fun i => P (R i)) n ≤ fb_ct P N := by
  intro n
  induction n generalizing P with
  | zero => intro _ _; exact Nat.zero_le _
  | succ n ih =>
    intro h1 h2
    have h3 := ih (P := fun x => if x = R n then false else P x) (fun i hi => h1 i (by omega)) (fun a b hab hb => h2 a b hab (by omega))
    have h4 := fb_ct_upd P false (h1 n (by omega))
    have h5 : fb_ct (fun i => (fun x => if x = R n then false else P x) (R i)) n = fb_ct (fun i => P (R i)) n := fb_ct_cong (fun i hi => if_neg (h2 i n hi (by omega)))
    rw [h5] at h3
    rw [fb_ct_succ]
    have h6 : (if false = true then 1 else 0 : Nat) = 0 := rfl
    rw [h6] at h4
    omega
theorem zPc_lt {m : Nat} {L : Nat → Nat} {R : Nat → Nat → Nat} {j s : Nat} (h1 : ∀ i, i < L j → R j i < 10) (h2 : ∀ a b, a < b → b < L j → R j a ≠ R j b) (hs : s < 10) (hm : m.testBit s = true) : (fa_first (fun i => decide (R j i = s)) (L j) < L j → zPc m L R j s < zpc m) ∧ (¬ fa_first (fun i => decide (R j i = s)) (L j) < L j → zPc m L R j s = zpc m) := by
  refine ⟨fun h => ?_, fun h => ?_⟩
  · unfold zPc
    rw [if_pos h]
    have h3 := zct_inj (P := fun x => if x = s then false else m.testBit x) (R := R j) (N := 10) (n := fa_first (fun i => decide (R j i = s)) (L j)) (fun i hi => h1 i (by omega)) (fun a b hab hb => h2 a b hab (by omega))
    have h4 := fb_ct_upd (fun x => m.testBit x) false hs
    have h5 : fb_ct (fun i => (fun x => if x = s then false else m.testBit x) (R j i)) (fa_first (fun i => decide (R j i = s)) (L j)) = fb_ct (fun i => m.testBit (R j i)) (fa_first (fun i => decide (R j i = s)) (L j)) := fb_ct_cong (fun i hi => if_neg (by
      have := fa_first_no (fun i => decide (R j i = s)) (L j) i hi
      exact of_decide_eq_false this))
    rw [h5] at h3
    have h6 : (if false = true then 1 else 0 : Nat) = 0 := rfl
    rw [h6, if_pos hm] at h4
    unfold zpc
    omega
  · unfold zPc
    rw [if_neg h]
theorem zPc_le {m : Nat} {L : Nat → Nat} {R : Nat → Nat → Nat} {j s : Nat} (h : L j ≤ 10) : zPc m L R j s ≤ 10 := by
  unfold zPc
  split
  · have := fb_ct_le (fun i => m.testBit (R j i)) (fa_first (fun i => decide (R j i = s)) (L j))
    omega
  · exact zpc_le m
theorem X6_has {σ : zM} {r m s : Nat} {L : Nat → Nat} {R : Nat → Nat → Nat} (hk : zRk σ r m L R) (hs : s < 10) : f_X6_has σ r (nI s) = some (if m.testBit s then 1 else 0) := by
  unfold f_X6_has
  rw [if_neg (zlt0 (by omega)), if_neg (by rw [zq10, nI_leI (by omega) (by omega)]; omega), zix_n hs (by omega), Option.bind_some, hk.2.2.1 s hs]
  cases m.testBit s <;> rfl
theorem X6_len {σ : zM} {r m j : Nat} {L : Nat → Nat} {R : Nat → Nat → Nat} (hk : zRk σ r m L R) (hj : j < 7) : f_X6_lengthOf σ r (nI j) = some (nI (L j)) := by
  unfold f_X6_lengthOf
  rw [if_neg (zlt0 (by omega)), if_neg (by rw [zq7, nI_leI (by omega) (by omega)]; omega), zix_n hj (by omega), Option.bind_some, (hk.2.2.2.2 j hj).2.1]
theorem X6_markAt {σ : zM} {r m j i : Nat} {L : Nat → Nat} {R : Nat → Nat → Nat} (hk : zRk σ r m L R) (hj : j < 7) (hi : i < L j) : f_X6_markAt σ r (nI j) (nI i) = some (nI (R j i)) := by
  obtain ⟨h1, h2, h3, h4⟩ := hk.2.2.2.2 j hj
  unfold f_X6_markAt
  rw [zq10, zmulI, nI_add, Nat.mul_comm j 10, if_neg (zlt0 (by omega)), if_neg (by rw [show (70 : Int32) = nI 70 from rfl, nI_leI (by omega) (by omega)]; omega), zix_n (show 10 * j + i < 70 by omega) (by omega), Option.bind_some, (h4 i hi).2]
theorem zsI01 {b : Bool} {n : Nat} : nI n + (if b then 1 else 0 : Int32) = nI (n + if b then 1 else 0) := by
  cases b
  · exact Int32.add_zero _
  · exact nI_1 n
theorem X6_placeIn {σ : zM} {r m j s : Nat} {L : Nat → Nat} {R : Nat → Nat → Nat} (hk : zRk σ r m L R) (hj : j < 7) (hs : s < 10) : f_X6_placeIn σ r (nI j) (nI s) = some (nI (zPc m L R j s)) := by
  obtain ⟨h1, h2, h3, h4⟩ := hk.2.2.2.2 j hj
  have hz : ∃ t, zwh (fun (q : (Int32 × Int32)) => f_X6_placeIn_L5 σ r (nI j) (nI s) q.1 q.2) zFu (0, 0) = some t ∧ ((∃ i, i < L j ∧ R j i = s ∧ (∀ a, a < i → R j a ≠ s) ∧ t = .inl (nI (fb_ct (fun i => m.testBit (R j i)) i))) ∨ ((∀ a, a < L j → R j a ≠ s) ∧ t = .inr ())) := by
    refine zwh_ex (fun (i : Nat) (q : Int32 × Int32) => q = (nI (fb_ct (fun i => m.testBit (R j i)) i), nI i) ∧ ∀ a, a < i → R j a ≠ s) _ (L j) ⟨rfl, fun a ha => absurd ha (Nat.not_lt_zero a)⟩ (fun i q hi hq => ?_) (fun q hq => ?_) (by omega)
    · obtain ⟨rfl, hq⟩ := hq
      have hR := (h4 i hi).1
      have hrun : f_X6_placeIn_L5 σ r (nI j) (nI s) (nI (fb_ct (fun i => m.testBit (R j i)) i)) (nI i) = if nI (R j i) = nI s then some (.inr (.inl (nI (fb_ct (fun i => m.testBit (R j i)) i)))) else some (.inl (nI (fb_ct (fun i => m.testBit (R j i)) (i + 1)), nI (i + 1))) := by
        unfold f_X6_placeIn_L5
        rw [X6_len hk hj, Option.bind_some, if_neg (by rw [nI_leI (by omega) (by omega)]; omega), X6_markAt hk hj hi, Option.bind_some, X6_has hk hR, Option.bind_some, nI_1, fb_ct_succ, ← zsI01]
        cases m.testBit (R j i) <;> rfl
      by_cases hc : R j i = s
      · refine Or.inr ⟨.inl (nI (fb_ct (fun i => m.testBit (R j i)) i)), ?_, Or.inl ⟨i, hi, hc, hq, rfl⟩⟩
        refine hrun.trans ?_
        rw [if_pos (by rw [hc])]
      · refine Or.inl ⟨(nI (fb_ct (fun i => m.testBit (R j i)) (i + 1)), nI (i + 1)), ?_, rfl, fun a ha => ?_⟩
        · refine hrun.trans ?_
          rw [if_neg (by rw [nI_eq (by omega) (by omega)]; exact hc)]
        · by_cases e : a = i
          · rw [e]; exact hc
          · exact hq a (by omega)
    · obtain ⟨rfl, hq⟩ := hq
      refine ⟨.inr (), ?_, Or.inr ⟨hq, rfl⟩⟩
      show f_X6_placeIn_L5 σ r (nI j) (nI s) _ (nI (L j)) = _
      unfold f_X6_placeIn_L5
      rw [X6_len hk hj, Option.bind_some, if_pos (nI_le (Nat.le_refl _) (by omega))]
  obtain ⟨t, w, ht⟩ := hz
  unfold f_X6_placeIn
  rw [w, Option.bind_some]
  rcases ht with ⟨i, hi, hc, hb, rfl⟩ | ⟨hb, rfl⟩
  · have e : fa_first (fun i => decide (R j i = s)) (L j) = i := zfirst_at hi (decide_eq_true hc) (fun a ha => decide_eq_false (hb a ha))
    unfold zPc
    rw [e, if_pos hi]
    rfl
  · have e : fa_first (fun i => decide (R j i = s)) (L j) = L j := zfirst_n (fun a ha => decide_eq_false (hb a ha))
    unfold zPc
    rw [e, if_neg (Nat.lt_irrefl _)]
    show some (zI σ 6 r 6) = _
    rw [hk.2.2.2.1]
theorem X6_counts {σ : zM} {r j : Nat} {V : Nat → Bool} (hv : zRvo σ r V) (hj : j < 7) : f_X6_counts σ r (nI j) = some (if V j then 1 else 0) := by
  unfold f_X6_counts
  rw [if_neg (zlt0 (by omega)), if_neg (by rw [zq7, nI_leI (by omega) (by omega)]; omega), zix_n hj (by omega), Option.bind_some, hv j hj]
  cases V j <;> rfl
theorem zif01 {α : Type} (b : Bool) (X Y : α) : (if (if b = true then 1 else 0 : Int32) = 0 then X else Y) = if b = true then Y else X := by cases b <;> rfl
/-! points -/
def zS32 (f : Nat → Int32) : Nat → Int32
  | 0 => 0
  | n + 1 => zS32 f n + f n
theorem zS32_ext {f : Nat → Int32} {a : Nat} : ∀ {b : Nat}, a ≤ b → (∀ i, a ≤ i → i < b → f i = 0) → zS32 f b = zS32 f a
  | 0, h, _ => by rw [show a = 0 by omega]
  | b + 1, h, h0 => by
    by_cases e : a = b + 1
    · rw [e]
    · show zS32 f b + f b = _
      rw [h0 b (by omega) (by omega), Int32.add_zero, zS32_ext (by omega) (fun i h1 h2 => h0 i h1 (by omega))]
theorem zS32_cong {f g : Nat → Int32} : ∀ {n : Nat}, (∀ i, i < n → f i = g i) → zS32 f n = zS32 g n
  | 0, _ => rfl
  | n + 1, h => by
    show zS32 f n + f n = zS32 g n + g n
    rw [zS32_cong (fun i hi => h i (by omega)), h n (by omega)]
def zc3 (a b : Nat) : Int32 := if b ≤ a then (if a = b then 0 else 1) else -1
theorem zc3_e {a b : Nat} (ha : a < 2147483648) (hb : b < 2147483648) : f_J6_compare_7cf53 (nI a) (nI b) = zc3 a b := by
  unfold f_J6_compare_7cf53 zc3
  by_cases h : b ≤ a
  · rw [if_pos ((nI_leI hb ha).mpr h), if_pos h]
    by_cases h2 : a = b
    · rw [if_pos (by rw [h2]), if_pos h2]
    · rw [if_neg (mt (nI_eq ha hb).mp h2), if_neg h2]
  · rw [if_neg (fun h2 => h ((nI_leI hb ha).mp h2)), if_neg h]
def zd1 (m : Nat) (L : Nat → Nat) (R : Nat → Nat → Nat) (V : Nat → Bool) (s o j : Nat) : Int32 := if V j then zc3 (zPc m L R j o) (zPc m L R j s) else 0
def zp2 (x : Int32) : Int32 := if x ≤ 0 then (if x = 0 then 1 else 0) else 2
def zt0 (m : Nat) (L : Nat → Nat) (R : Nat → Nat → Nat) (V : Nat → Bool) (s j : Nat) : Int32 := if V j then (if zPc m L R j s = 0 then 1 else 0) else 0
def zt1 (m : Nat) (L : Nat → Nat) (R : Nat → Nat → Nat) (V : Nat → Bool) (s j : Nat) : Int32 := if V j then nI (zpc m) - nI (zPc m L R j s) else 0
def zt2 (m : Nat) (L : Nat → Nat) (R : Nat → Nat → Nat) (V : Nat → Bool) (s o : Nat) : Int32 := if o ≠ s ∧ m.testBit o = true then zp2 (zS32 (zd1 m L R V s o) 7) else 0
def zPts (m : Nat) (L : Nat → Nat) (R : Nat → Nat → Nat) (V : Nat → Bool) (q s : Nat) : Int32 := if q = 0 then zS32 (zt0 m L R V s) 7 else if q = 1 then zS32 (zt1 m L R V s) 7 else zS32 (zt2 m L R V s) 10
theorem X6_pair {σ : zM} {r m s o : Nat} {L : Nat → Nat} {R : Nat → Nat → Nat} {V : Nat → Bool} (hk : zRk σ r m L R) (hv : zRvo σ r V) (hs : s < 10) (ho : o < 10) : f_X6_pairPoints σ r (nI s) (nI o) = some (zp2 (zS32 (zd1 m L R V s o) 7)) := by
  unfold f_X6_pairPoints
  have hw := zwh_up (f := fun (q : (Int32 × Int32)) => f_X6_pairPoints_L5 σ r (nI s) (nI o) q.1 q.2) (fun j => (zS32 (zd1 m L R V s o) j, nI j)) 7 (t := zS32 (zd1 m L R V s o) 7) ?_ ?_ (by omega)
  · rw [show ((0 : Int32), (0 : Int32)) = (fun j => (zS32 (zd1 m L R V s o) j, nI j)) 0 from rfl, hw, Option.bind_some]
    unfold f_X6_pairPoints_B50 zp2
    split
    · split <;> rfl
    · rfl
  · intro j hj
    have hL := (hk.2.2.2.2 j hj).1
    have b1 := zPc_le (m := m) (R := R) (s := s) hL
    have b2 := zPc_le (m := m) (R := R) (s := o) hL
    show f_X6_pairPoints_L5 σ r (nI s) (nI o) (zS32 (zd1 m L R V s o) j) (nI j) = some (.inl (zS32 (zd1 m L R V s o) j + zd1 m L R V s o j, nI (j + 1)))
    unfold f_X6_pairPoints_L5 f_X6_pairPoints_B44_5
    rw [if_neg (by rw [zq7, nI_leI (by omega) (by omega)]; omega), X6_counts hv hj, Option.bind_some, X6_placeIn hk hj ho, Option.bind_some, X6_placeIn hk hj hs, Option.bind_some, zc3_e (by omega) (by omega), nI_1, zif01]
    by_cases hV : V j = true
    · rw [if_pos hV, show zd1 m L R V s o j = zc3 (zPc m L R j o) (zPc m L R j s) from if_pos hV]
    · rw [if_neg hV, show zd1 m L R V s o j = 0 from if_neg hV, Int32.add_zero]
  · show f_X6_pairPoints_L5 σ r (nI s) (nI o) _ (nI 7) = _
    unfold f_X6_pairPoints_L5
    rw [if_pos (show (7 : Int32) ≤ nI 7 by decide)]
theorem X6_points {σ : zM} {r m s q : Nat} {L : Nat → Nat} {R : Nat → Nat → Nat} {V : Nat → Bool} (hk : zRk σ r m L R) (hv : zRvo σ r V) (hs : s < 10) (hq : q < 3) : f_X6_pointsBy σ r (nI q) (nI s) = some (zPts m L R V q s) := by
  unfold f_X6_pointsBy zPts
  have : q = 0 ∨ q = 1 ∨ q = 2 := by omega
  rcases this with rfl | rfl | rfl
  · rw [if_pos (show nI 0 = 0 from rfl), if_pos rfl]
    have hw := zwh_up (f := fun (q : (Int32 × Int32)) => f_X6_pointsBy_L31 σ r (nI 0) (nI s) q.1 q.2) (fun j => (zS32 (zt0 m L R V s) j, nI j)) 7 (t := zS32 (zt0 m L R V s) 7) ?_ ?_ (by omega)
    · rw [show ((0 : Int32), (0 : Int32)) = (fun j => (zS32 (zt0 m L R V s) j, nI j)) 0 from rfl, hw, Option.bind_some]
    · intro j hj
      have hL := (hk.2.2.2.2 j hj).1
      have b1 := zPc_le (m := m) (R := R) (s := s) hL
      show f_X6_pointsBy_L31 σ r (nI 0) (nI s) (zS32 (zt0 m L R V s) j) (nI j) = some (.inl (zS32 (zt0 m L R V s) j + zt0 m L R V s j, nI (j + 1)))
      unfold f_X6_pointsBy_L31 f_X6_pointsBy_B65_31 f_X6_pointsBy_B66_31
      rw [if_neg (by rw [zq7, nI_leI (by omega) (by omega)]; omega), X6_counts hv hj, Option.bind_some, X6_placeIn hk hj hs, Option.bind_some, nI_1]
      rw [zif01]
      by_cases hV : V j = true
      · rw [if_pos hV, show zt0 m L R V s j = if zPc m L R j s = 0 then 1 else 0 from if_pos hV]
        by_cases h0 : zPc m L R j s = 0
        · rw [if_pos (show nI (zPc m L R j s) = 0 by rw [h0]; rfl), if_pos h0]
        · rw [if_neg (show ¬ nI (zPc m L R j s) = 0 by rw [show (0 : Int32) = nI 0 from rfl, nI_eq (by omega) (by omega)]; exact h0), if_neg h0]
      · rw [if_neg hV, show zt0 m L R V s j = 0 from if_neg hV]
    · show f_X6_pointsBy_L31 σ r (nI 0) (nI s) _ (nI 7) = _
      unfold f_X6_pointsBy_L31
      rw [if_pos (show (7 : Int32) ≤ nI 7 by decide)]
  · rw [if_neg (show ¬ nI 1 = 0 from z10), if_pos (show nI 1 = 1 from rfl), if_neg (by omega), if_pos rfl]
    have hw := zwh_up (f := fun (q : (Int32 × Int32)) => f_X6_pointsBy_L79 σ r (nI 1) (nI s) q.1 q.2) (fun j => (zS32 (zt1 m L R V s) j, nI j)) 7 (t := zS32 (zt1 m L R V s) 7) ?_ ?_ (by omega)
    · rw [show ((0 : Int32), (0 : Int32)) = (fun j => (zS32 (zt1 m L R V s) j, nI j)) 0 from rfl, hw, Option.bind_some]
    · intro j hj
      show f_X6_pointsBy_L79 σ r (nI 1) (nI s) (zS32 (zt1 m L R V s) j) (nI j) = some (.inl (zS32 (zt1 m L R V s) j + zt1 m L R V s j, nI (j + 1)))
      unfold f_X6_pointsBy_L79 f_X6_pointsBy_B115_79
      rw [if_neg (by rw [zq7, nI_leI (by omega) (by omega)]; omega), X6_counts hv hj, Option.bind_some, X6_placeIn hk hj hs, Option.bind_some, nI_1, hk.2.2.2.1]
      rw [zif01]
      by_cases hV : V j = true
      · rw [if_pos hV, show zt1 m L R V s j = nI (zpc m) - nI (zPc m L R j s) from if_pos hV]
      · rw [if_neg hV, show zt1 m L R V s j = 0 from if_neg hV]
    · show f_X6_pointsBy_L79 σ r (nI 1) (nI s) _ (nI 7) = _
      unfold f_X6_pointsBy_L79
      rw [if_pos (show (7 : Int32) ≤ nI 7 by decide)]
  · rw [if_neg (show ¬ nI 2 = 0 by decide), if_neg (show ¬ nI 2 = 1 by decide), if_neg (by omega), if_neg (by omega)]
    have hw := zwh_up (f := fun (q : (Int32 × Int32)) => f_X6_pointsBy_L128 σ r (nI 2) (nI s) q.1 q.2) (fun o => (zS32 (zt2 m L R V s) o, nI o)) 10 (t := zS32 (zt2 m L R V s) 10) ?_ ?_ (by omega)
    · rw [show ((0 : Int32), (0 : Int32)) = (fun o => (zS32 (zt2 m L R V s) o, nI o)) 0 from rfl, hw, Option.bind_some]
    · intro o ho
      show f_X6_pointsBy_L128 σ r (nI 2) (nI s) (zS32 (zt2 m L R V s) o) (nI o) = some (.inl (zS32 (zt2 m L R V s) o + zt2 m L R V s o, nI (o + 1)))
      unfold f_X6_pointsBy_L128 f_X6_pointsBy_B165_128 f_X6_pointsBy_B166_128
      rw [if_neg (by rw [zq10, nI_leI (by omega) (by omega)]; omega), zix_n ho (by omega), Option.bind_some, hk.2.2.1 o ho, X6_pair hk hv hs ho, Option.bind_some, nI_1]
      rw [zif01]
      by_cases h1 : o = s
      · rw [if_pos (show nI o = nI s by rw [h1]), show zt2 m L R V s o = 0 from if_neg (fun h => h.1 h1)]
      · rw [if_neg (mt (nI_eq (by omega) (by omega)).mp h1)]
        by_cases hm : m.testBit o = true
        · rw [if_pos hm, show zt2 m L R V s o = zp2 (zS32 (zd1 m L R V s o) 7) from if_pos ⟨h1, hm⟩]
        · rw [if_neg hm, show zt2 m L R V s o = 0 from if_neg (fun h => hm h.2)]
    · show f_X6_pointsBy_L128 σ r (nI 2) (nI s) _ (nI 10) = _
      unfold f_X6_pointsBy_L128
      rw [if_pos (show (10 : Int32) ≤ nI 10 by decide)]
