/-! statements: a brief while it grows; the class's part of one memory beside the reference's of another -/
def zMix (σ σ' : zM) : zM := (fun c i k => if c = 12 then σ'.1 c i k else σ.1 c i k, fun c i k => if c = 12 then σ'.2.1 c i k else σ.2.1 c i k, fun c i k => if c = 12 then σ'.2.2.1 c i k else σ.2.2.1 c i k, fun c i k => if c = 12 then σ'.2.2.2.1 c i k else σ.2.2.2.1 c i k, fun c i k => if c = 12 then σ'.2.2.2.2.1 c i k else σ.2.2.2.2.1 c i k, fun c i k => if c = 12 then σ'.2.2.2.2.2 c i k else σ.2.2.2.2.2 c i k)
theorem zMix_A0 {σ σ' : zM} {i k : Nat} : zA (zMix σ σ') 0 i k = zA σ 0 i k := rfl
theorem zMix_A12 {σ σ' : zM} {i k : Nat} : zA (zMix σ σ') 12 i k = zA σ' 12 i k := rfl
theorem zMix_nd {σ σ' : zM} : znd (zMix σ σ') = znd σ' := rfl
theorem zTlS_c {S S' F1 F1' F2 F2' F3 F3' : Nat → Int32} {w : Nat} : ∀ q, (∀ i, i < q → S' i = S i ∧ F1' i = F1 i ∧ F2' i = F2 i ∧ F3' i = F3 i) → zTlS S' F1' F2' F3' w q = zTlS S F1 F2 F3 w q
  | 0, _ => rfl
  | q + 1, h => by
    obtain ⟨h1, h2, h3, h4⟩ := h q (Nat.lt_succ_self q)
    show (if S' q = 8 ∧ w = 10 then F3' q else if S' q = 8 ∧ w = 9 then F2' q else if S' q = 15 ∧ w = 3 ∧ F2' q ≠ -1 then F2' q else if S' q = nI w then F1' q else zTlS S' F1' F2' F3' w q) = (if S q = 8 ∧ w = 10 then F3 q else if S q = 8 ∧ w = 9 then F2 q else if S q = 15 ∧ w = 3 ∧ F2 q ≠ -1 then F2 q else if S q = nI w then F1 q else zTlS S F1 F2 F3 w q)
    rw [h1, h2, h3, h4, zTlS_c q (fun i hi => h i (by omega))]
theorem zRtS_c {S S' F1 F1' F2 F2' : Nat → Int32} {r : Nat} : ∀ q, (∀ i, i < q → S' i = S i ∧ F1' i = F1 i ∧ F2' i = F2 i) → zRtS S' F1' F2' r q = zRtS S F1 F2 r q
  | 0, _ => rfl
  | q + 1, h => by
    obtain ⟨h1, h2, h3⟩ := h q (Nat.lt_succ_self q)
    show (if S' q = 14 ∧ F1' q = nI r then F2' q else zRtS S' F1' F2' r q) = (if S q = 14 ∧ F1 q = nI r then F2 q else zRtS S F1 F2 r q)
    rw [h1, h2, h3, zRtS_c q (fun i hi => h i (by omega))]
/-- the i-th statement is the same -/
def zSame (τ τ' : zM) (j i : Nat) : Prop := (∀ k, k = 27 ∨ k = 28 ∨ k = 29 ∨ k = 30 → zA τ' 12 0 k (40 * j + i) = zA τ 12 0 k (40 * j + i)) ∧ ∀ k, k < 4 → zA τ' 0 j k i = zA τ 0 j k i
theorem zSt1_tr {τ τ' : zM} {M M' j i c : Nat} (hM : M ≤ M') (hs : zSame τ τ' j i) (hb : zBel (znd τ) (znd τ') M) (hc : ∀ x, x < c → zA τ' 0 j 4 x = zA τ 0 j 4 x) (h8 : zA τ 0 j 0 i = 8 → ∃ b, zA τ 0 j 2 i = nI b ∧ b ≤ c) (hc3 : c ≤ 300) (h : zSt1 τ M j i) : zSt1 τ' M' j i := by
  have e27 := hs.1 27 (by omega)
  have e28 := hs.1 28 (by omega)
  have e29 := hs.1 29 (by omega)
  have e30 := hs.1 30 (by omega)
  have c0 := hs.2 0 (by omega)
  have c1 := hs.2 1 (by omega)
  have c2 := hs.2 2 (by omega)
  have c3 := hs.2 3 (by omega)
  unfold zSt1 at h ⊢
  simp only [e27, e28, e29, e30, c0, c1, c2, c3]
  rcases h with h | h | h | ⟨h1, h2, node, a, b, V, D, g1, g2, g3, g4, g5, g6, g7, g8⟩ | h
  · exact Or.inl h
  · exact Or.inr (Or.inl h)
  · exact Or.inr (Or.inr (Or.inl h))
  · refine Or.inr (Or.inr (Or.inr (Or.inl ⟨h1, h2, node, a, b, V, D, g1, g2, g3, g4, g5, zNo_bel hM hb g6, g7, ?_⟩)))
    obtain ⟨b', q1, q2⟩ := h8 h2
    rw [g3, nI_eq (by omega) (by omega)] at q1
    rw [zseg_c (code := zA τ 0 j 4) (code' := zA τ' 0 j 4) (fun x _ hx => hc x (by omega))]
    exact g8
  · exact Or.inr (Or.inr (Or.inr (Or.inr h)))
/-- a brief of q statements, its code of c operations, nodes below M -/
def zBrP (τ : zM) (M j q c : Nat) : Prop := (∀ w, w < 11 → zA τ 0 j 5 w = zTlS (zfrom (zA τ 12 0 27) (40 * j)) (zfrom (zA τ 12 0 28) (40 * j)) (zfrom (zA τ 12 0 29) (40 * j)) (zfrom (zA τ 12 0 30) (40 * j)) w q ∧ zNm (zA τ 0 j 5 w) (zbnd w)) ∧ zA τ 0 j 5 5 ≠ 0 ∧ (∀ r, 1 ≤ r → r ≤ 12 → zA τ 0 j 6 r = zRtS (zfrom (zA τ 12 0 27) (40 * j)) (zfrom (zA τ 12 0 28) (40 * j)) (zfrom (zA τ 12 0 29) (40 * j)) r q ∧ zNm (zA τ 0 j 6 r) 9999) ∧ ∀ i, i < q → zSt1 τ M j i ∧ (zA τ 0 j 0 i = 8 → ∃ b, zA τ 0 j 2 i = nI b ∧ b ≤ c)
/-- one more statement -/
theorem zBrP_add {τ τ' : zM} {M M' j q c c' : Nat} (h : zBrP τ M j q c) (hM : M ≤ M') (hc : c ≤ c') (hc3 : c ≤ 300) (hs : ∀ i, i < q → zSame τ τ' j i) (hb : zBel (znd τ) (znd τ') M) (hcode : ∀ x, x < c → zA τ' 0 j 4 x = zA τ 0 j 4 x)
    (hT : ∀ w, w < 11 → zA τ' 0 j 5 w = (if zA τ' 12 0 27 (40 * j + q) = 8 ∧ w = 10 then zA τ' 12 0 30 (40 * j + q) else if zA τ' 12 0 27 (40 * j + q) = 8 ∧ w = 9 then zA τ' 12 0 29 (40 * j + q) else if zA τ' 12 0 27 (40 * j + q) = 15 ∧ w = 3 ∧ zA τ' 12 0 29 (40 * j + q) ≠ -1 then zA τ' 12 0 29 (40 * j + q) else if zA τ' 12 0 27 (40 * j + q) = nI w then zA τ' 12 0 28 (40 * j + q) else zA τ 0 j 5 w) ∧ zNm (zA τ' 0 j 5 w) (zbnd w)) (h5 : zA τ' 0 j 5 5 ≠ 0)
    (hR : ∀ r, 1 ≤ r → r ≤ 12 → zA τ' 0 j 6 r = (if zA τ' 12 0 27 (40 * j + q) = 14 ∧ zA τ' 12 0 28 (40 * j + q) = nI r then zA τ' 12 0 29 (40 * j + q) else zA τ 0 j 6 r) ∧ zNm (zA τ' 0 j 6 r) 9999)
    (hn : zSt1 τ' M' j q) (hn8 : zA τ' 0 j 0 q = 8 → ∃ b, zA τ' 0 j 2 q = nI b ∧ b ≤ c') : zBrP τ' M' j (q + 1) c' := by
  obtain ⟨g1, g2, g3, g4⟩ := h
  refine ⟨fun w hw => ⟨?_, (hT w hw).2⟩, h5, fun r h1 h2 => ⟨?_, (hR r h1 h2).2⟩, fun i hi => ?_⟩
  · rw [(hT w hw).1, (g1 w hw).1, ← zTlS_c (S := zfrom (zA τ 12 0 27) (40 * j)) (F1 := zfrom (zA τ 12 0 28) (40 * j)) (F2 := zfrom (zA τ 12 0 29) (40 * j)) (F3 := zfrom (zA τ 12 0 30) (40 * j)) (S' := zfrom (zA τ' 12 0 27) (40 * j)) (F1' := zfrom (zA τ' 12 0 28) (40 * j)) (F2' := zfrom (zA τ' 12 0 29) (40 * j)) (F3' := zfrom (zA τ' 12 0 30) (40 * j)) q (fun i hi => ⟨(hs i hi).1 27 (by omega), (hs i hi).1 28 (by omega), (hs i hi).1 29 (by omega), (hs i hi).1 30 (by omega)⟩)]
    rfl
  · rw [(hR r h1 h2).1, (g3 r h1 h2).1, ← zRtS_c (S := zfrom (zA τ 12 0 27) (40 * j)) (F1 := zfrom (zA τ 12 0 28) (40 * j)) (F2 := zfrom (zA τ 12 0 29) (40 * j)) (S' := zfrom (zA τ' 12 0 27) (40 * j)) (F1' := zfrom (zA τ' 12 0 28) (40 * j)) (F2' := zfrom (zA τ' 12 0 29) (40 * j)) q (fun i hi => ⟨(hs i hi).1 27 (by omega), (hs i hi).1 28 (by omega), (hs i hi).1 29 (by omega)⟩)]
    rfl
  · by_cases e : i = q
    · rw [e]
      exact ⟨hn, hn8⟩
    · obtain ⟨a1, a2⟩ := g4 i (by omega)
      have hsi := hs i (by omega)
      refine ⟨zSt1_tr hM hsi hb hcode a2 hc3 a1, fun h8 => ?_⟩
      rw [hsi.2 0 (by omega)] at h8
      obtain ⟨b, b1, b2⟩ := a2 h8
      exact ⟨b, by rw [hsi.2 2 (by omega)]; exact b1, by omega⟩
