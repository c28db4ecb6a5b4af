/-! a brief's text: the two side by side -/
def zIsU (T : Nat → Nat) (n N i : Nat) : Bool := decide (i < N) && zcL T (zTs T n i) && decide (zTe T n (zTs T n i) - zTs T n i ≤ 8) && decide (zCd (zW5 T (zTs T n i) (zTe T n (zTs T n i) - zTs T n i)) = -1)
def zRl (T : Nat → Nat) (n i : Nat) : List Nat := zRv T (zTs T n i) (zTe T n (zTs T n i) - zTs T n i)
/-- rooms that were told in this text -/
def zToC (σ : zM) (t : Nat) : Prop := ∀ q, q < 13 → zA σ 4 0 6 q = if t.testBit q then 1 else 0
def zPT (W : Nat → List Nat) (k t : Nat) : Prop := t < 8192 ∧ ∀ q, t.testBit q = true → 1 ≤ q ∧ q ≤ k ∧ zCd (lN (zQn 32 0 (W (q - 1)))) = -1
def zPC (σ : zM) (T : Nat → Nat) (n N i : Nat) (W : Nat → List Nat) (k0 pd t : Nat) : Prop := zCP σ T n N i ∧ zNmL σ W k0 pd ∧ zToC σ t ∧ zPT W (k0 + pd) t
def zPR (σ : zM) (T : Nat → Nat) (n i : Nat) (W : Nat → List Nat) (k t : Nat) : Prop := zRP σ T n i ∧ zNmS σ W k ∧ zI σ 12 0 23 = nI t
def zPX (σ : zM) (T : Nat → Nat) (n i : Nat) (W : Nat → List Nat) (k t : Nat) : Prop := zRN σ T n i ∧ zNmS σ W k ∧ zI σ 12 0 23 = nI t
theorem zPX_R {σ : zM} {T : Nat → Nat} {n i : Nat} {W : Nat → List Nat} {k t : Nat} (h : zPX σ T n i W k t) : zPR σ T n i W k t := ⟨zRN_P h.1, h.2⟩
theorem zPC_x {F : List (Nat × Nat)} {σ σ' : zM} {T : Nat → Nat} {n N i : Nat} {W : Nat → List Nat} {k0 pd t : Nat} (h : zPC σ T n N i W k0 pd t) (hE : zEx F σ σ') (hF : ([(4, 3), (4, 4), (4, 5), (4, 8), (4, 6), (5, 0), (5, 1), (5, 2)] : List (Nat × Nat)).all (fun q => !F.contains q) = true) : zPC σ' T n N i W k0 pd t := by
  have hd := zFe_of hE hF
  obtain ⟨h1, h2, h3, h4⟩ := h
  have e1 : zA σ' 4 0 3 = zA σ 4 0 3 := (hd (4, 3) (by simp)).2.2.2.1 0
  have e2 : zA σ' 4 0 4 = zA σ 4 0 4 := (hd (4, 4) (by simp)).2.2.2.1 0
  have e3 : zL σ' 4 0 5 = zL σ 4 0 5 := (hd (4, 5) (by simp)).2.2.2.2.1 0
  have e4 : zI σ' 4 0 8 = zI σ 4 0 8 := (hd (4, 8) (by simp)).1 0
  have e5 : zA σ' 4 0 6 = zA σ 4 0 6 := (hd (4, 6) (by simp)).2.2.2.1 0
  have e6 : zL σ' 5 0 0 = zL σ 5 0 0 := (hd (5, 0) (by simp)).2.2.2.2.1 0
  have e7 : zI σ' 5 0 1 = zI σ 5 0 1 := (hd (5, 1) (by simp)).1 0
  have e8 : zI σ' 5 0 2 = zI σ 5 0 2 := (hd (5, 2) (by simp)).1 0
  refine ⟨?_, ?_, ?_, h4⟩
  · unfold zCP zTks
    rw [e1, e2, e3, e4]
    exact h1
  · unfold zNmL
    rw [e6, e7, e8]
    exact h2
  · unfold zToC
    rw [e5]
    exact h3
theorem zPC_go {σ : zM} {T : Nat → Nat} {n N i j : Nat} {W : Nat → List Nat} {k0 pd t : Nat} (h : zPC σ T n N i W k0 pd t) (hj : j ≤ N) : zPC (zsI σ 4 0 8 (nI j)) T n N j W k0 pd t := ⟨zCP_go h.1 hj, h.2.1, h.2.2.1, h.2.2.2⟩
theorem zNmS_x {F : List (Nat × Nat)} {σ σ' : zM} {W : Nat → List Nat} {k : Nat} (h : zNmS σ W k) (hE : zEx F σ σ') (h1 : (12, 17) ∉ F) (h2 : (12, 37) ∉ F) : zNmS σ' W k := by
  unfold zNmS
  rw [hE.1 12 0 17 h1, hE.2.2.2.2.1 12 0 37 h2]
  exact h
theorem zPR_x {F : List (Nat × Nat)} {σ σ' : zM} {T : Nat → Nat} {n i : Nat} {W : Nat → List Nat} {k t : Nat} (h : zPR σ T n i W k t) (hE : zEx F σ σ') (hF : ([(12, 20), (12, 39), (12, 21), (12, 17), (12, 37), (12, 23)] : List (Nat × Nat)).all (fun q => !F.contains q) = true) : zPR σ' T n i W k t := by
  have hm : ∀ q ∈ ([(12, 20), (12, 39), (12, 21), (12, 17), (12, 37), (12, 23)] : List (Nat × Nat)), q ∉ F := fun q hq hm => by
    have h1 := List.all_eq_true.mp hF q hq
    rw [Bool.not_eq_true', List.contains_eq_mem, decide_eq_false_iff_not] at h1
    exact h1 hm
  exact ⟨zRP_x h.1 hE (hm _ (by simp)) (hm _ (by simp)) (hm _ (by simp)), zNmS_x h.2.1 hE (hm _ (by simp)) (hm _ (by simp)), (hE.1 12 0 23 (hm _ (by simp))).trans h.2.2⟩
theorem zPX_x {F : List (Nat × Nat)} {σ σ' : zM} {T : Nat → Nat} {n i : Nat} {W : Nat → List Nat} {k t : Nat} (h : zPX σ T n i W k t) (hE : zEx F σ σ') (hF : ([(12, 20), (12, 39), (12, 21), (12, 17), (12, 37), (12, 23)] : List (Nat × Nat)).all (fun q => !F.contains q) = true) : zPX σ' T n i W k t := by
  have hm : ∀ q ∈ ([(12, 20), (12, 39), (12, 21), (12, 17), (12, 37), (12, 23)] : List (Nat × Nat)), q ∉ F := fun q hq hm => by
    have h1 := List.all_eq_true.mp hF q hq
    rw [Bool.not_eq_true', List.contains_eq_mem, decide_eq_false_iff_not] at h1
    exact h1 hm
  exact ⟨zRN_x h.1 hE (hm _ (by simp)) (hm _ (by simp)) (hm _ (by simp)), zNmS_x h.2.1 hE (hm _ (by simp)) (hm _ (by simp)), (hE.1 12 0 23 (hm _ (by simp))).trans h.2.2⟩
theorem zEx_r (σ σ' : zM) (a b : zM) (F : List (Nat × Nat)) (h : zEx F a b) : zEx F a b := h
theorem zJ_w {σ σ' : zM} {T : Nat → Nat} {n N i c : Nat} {W : Nat → List Nat} {k0 pd t : Nat} (hc : c < 36) (h : zPC σ T n N i W k0 pd t) (h' : zPR σ' T n i W (k0 + pd) t) : ∃ σ1', zEx [(12, 21), (12, 40)] σ' σ1' ∧ ((zIsW T n N i c = true ∧ i < N ∧ f_X4_takeWord σ (nI c) = some (1, zsI σ 4 0 8 (nI (i + 1))) ∧ f_X12_takes σ' (zW8t c) = some (1, σ1') ∧ zPC (zsI σ 4 0 8 (nI (i + 1))) T n N (i + 1) W k0 pd t ∧ zPR σ1' T n (i + 1) W (k0 + pd) t ∧ zTs T n i + (zLq c).length ≤ zTs T n (i + 1)) ∨ (zIsW T n N i c = false ∧ f_X4_takeWord σ (nI c) = some (0, zsI σ 4 0 8 (nI i)) ∧ f_X12_takes σ' (zW8t c) = some (0, σ1') ∧ zPC (zsI σ 4 0 8 (nI i)) T n N i W k0 pd t ∧ zPX σ1' T n i W (k0 + pd) t)) := by
  have hN := zTks_N h.1.1
  obtain ⟨σ1', w1, w2, w3, w4⟩ := X12_tk hc hN h.1.2.1 h'.1
  have hw := X4_word hc h.1
  have hn := zNmS_x h'.2.1 w2 (by decide) (by decide)
  have ht : zI σ1' 12 0 23 = nI t := (w2.1 12 0 23 (by decide)).trans h'.2.2
  refine ⟨σ1', w2, ?_⟩
  cases e : zIsW T n N i c with
  | true =>
    rw [e] at w1 hw
    obtain ⟨l1, l2, l3⟩ := zIsW_l hc hN e
    have hS := (zTs_s (hN.2 i l1)).2
    exact Or.inl ⟨rfl, l1, hw, w1, zPC_go h l1, ⟨w3 e, hn, ht⟩, by omega⟩
  | false =>
    rw [e] at w1 hw
    exact Or.inr ⟨rfl, hw, w1, zPC_go h h.1.2.1, ⟨w4 e, hn, ht⟩⟩
theorem zJ_s {σ σ' : zM} {T : Nat → Nat} {n N i b : Nat} {W : Nat → List Nat} {k0 pd t : Nat} (hb : zksg b = true) (hb2 : b < 128) (h : zPC σ T n N i W k0 pd t) (h' : zPR σ' T n i W (k0 + pd) t) : ∃ σ1', zEx [(12, 21)] σ' σ1' ∧ ((zIsS T n N i b = true ∧ i < N ∧ f_X4_takeSign σ (nI b) = some (1, zsI σ 4 0 8 (nI (i + 1))) ∧ f_X12_takesSign σ' (nI b) = some (1, σ1') ∧ zPC (zsI σ 4 0 8 (nI (i + 1))) T n N (i + 1) W k0 pd t ∧ zPR σ1' T n (i + 1) W (k0 + pd) t ∧ zTs T n i + 1 ≤ zTs T n (i + 1)) ∨ (zIsS T n N i b = false ∧ f_X4_takeSign σ (nI b) = some (0, zsI σ 4 0 8 (nI i)) ∧ f_X12_takesSign σ' (nI b) = some (0, σ1') ∧ zPC (zsI σ 4 0 8 (nI i)) T n N i W k0 pd t ∧ zPX σ1' T n i W (k0 + pd) t)) := by
  have hN := zTks_N h.1.1
  obtain ⟨σ1', w1, w2, w3, w4⟩ := X12_sg hb hb2 hN h.1.2.1 h'.1
  have hw := X4_sign hb hb2 (zTr_T h'.1.1) h.1
  have hn := zNmS_x h'.2.1 w2 (by decide) (by decide)
  have ht : zI σ1' 12 0 23 = nI t := (w2.1 12 0 23 (by decide)).trans h'.2.2
  refine ⟨σ1', w2, ?_⟩
  cases e : zIsS T n N i b with
  | true =>
    rw [e] at w1 hw
    obtain ⟨l1, l2, l3⟩ := zIsS_l hb hN e
    have hS := (zTs_s (hN.2 i l1)).2
    exact Or.inl ⟨rfl, l1, hw, w1, zPC_go h l1, ⟨w3 e, hn, ht⟩, by omega⟩
  | false =>
    rw [e] at w1 hw
    exact Or.inr ⟨rfl, hw, w1, zPC_go h h.1.2.1, ⟨w4 e, hn, ht⟩⟩
theorem zIsN_l {T : Nat → Nat} {n N i lo hi : Nat} (hN : zTs T n N = n ∧ ∀ i, i < N → zTs T n i < n) (h : zIsN T n N i lo hi = true) : i < N ∧ lo ≤ zNv T n i ∧ zNv T n i ≤ hi ∧ zTs T n i + 1 ≤ zTs T n (i + 1) := by
  unfold zIsN at h
  rw [Bool.and_eq_true, Bool.and_eq_true, Bool.and_eq_true, Bool.and_eq_true, decide_eq_true_eq, decide_eq_true_eq, decide_eq_true_eq, decide_eq_true_eq] at h
  obtain ⟨⟨⟨⟨h1, h2⟩, h3⟩, h4⟩, h5⟩ := h
  have hS := (zTs_s (hN.2 i h1)).2
  have hE := zTe_b (T := T) (hN.2 i h1)
  exact ⟨h1, h4, h5, by omega⟩
theorem zJ_n {σ σ' : zM} {T : Nat → Nat} {n N i lo hi : Nat} {W : Nat → List Nat} {k0 pd t : Nat} (hhi : hi < 1000000) (hlo : lo < 1000000) (h : zPC σ T n N i W k0 pd t) (h' : zPR σ' T n i W (k0 + pd) t) : ∃ σ1', zEx [(12, 21), (12, 41)] σ' σ1' ∧ ((∃ v σ1, lo ≤ v ∧ v ≤ hi ∧ i < N ∧ f_X4_takeNumber σ (nI lo) (nI hi) = some (1, σ1) ∧ zEx [(4, 8), (4, 9)] σ σ1 ∧ zI σ1 4 0 9 = nI v ∧ f_X12_takesNumber σ' (nI lo) (nI hi) = some (1, σ1') ∧ zI σ1' 12 0 41 = nI v ∧ zPC σ1 T n N (i + 1) W k0 pd t ∧ zPR σ1' T n (i + 1) W (k0 + pd) t ∧ zTs T n i + 1 ≤ zTs T n (i + 1)) ∨ (f_X4_takeNumber σ (nI lo) (nI hi) = some (0, σ) ∧ f_X12_takesNumber σ' (nI lo) (nI hi) = some (0, σ1') ∧ zPX σ1' T n i W (k0 + pd) t)) := by
  have hN := zTks_N h.1.1
  obtain ⟨σ1', w1, w2, w3, w4⟩ := X12_num hhi hlo hN h.1.2.1 h'.1
  have hw := X4_num hhi hlo h.1
  have hn := zNmS_x h'.2.1 w2 (by decide) (by decide)
  have ht : zI σ1' 12 0 23 = nI t := (w2.1 12 0 23 (by decide)).trans h'.2.2
  refine ⟨σ1', w2, ?_⟩
  cases e : zIsN T n N i lo hi with
  | true =>
    rw [e] at w1 hw
    obtain ⟨l1, l2, l3, l4⟩ := zIsN_l hN e
    exact Or.inl ⟨zNv T n i, _, l2, l3, l1, hw, (zEx_sI (by decide)).tr (zEx_sI (by decide)), rfl, w1, (w3 e).2, zPC_go (zPC_x h (zEx_sI (F := [(4, 9)]) (by decide)) (by decide)) l1, ⟨(w3 e).1, hn, ht⟩, l4⟩
  | false =>
    rw [e] at w1 hw
    exact Or.inr ⟨hw, w1, ⟨w4 e, hn, ht⟩⟩
