/-! statements: within one of them -/
def zFtC : List (Nat × Nat) := [(4, 6), (4, 8), (4, 9), (5, 0), (5, 2)]
def zFtR : List (Nat × Nat) := [(12, 17), (12, 37), (12, 41), (12, 23), (12, 21), (12, 40)]
theorem zFt0 {k : Nat} : (0, k) ∉ zFtC := by simp [zFtC]
/-- what is written as yet: the class's terms TT and rates RR, the reference's row ρ -/
def zMiV (σ σ1 σ1' : zM) (o q c c1 m1 : Nat) (TT RR ρ : Nat → Int32) : Prop := zI σ1 0 o 7 = nI q ∧ zI σ1 0 o 8 = nI c1 ∧ zI σ1' 12 0 18 = nI m1 ∧ (∀ k, k < 4 → zA σ1 0 o k = zA σ 0 o k) ∧ (∀ x, x < c → zA σ1 0 o 4 x = zA σ 0 o 4 x) ∧ zA σ1 0 o 5 = TT ∧ zA σ1 0 o 6 = RR ∧ ∀ k, k = 27 ∨ k = 28 ∨ k = 29 ∨ k = 30 → zA σ1' 12 0 k (40 * o + q) = ρ k
def zMiF (σ σ' σ1 σ1' : zM) (o q m : Nat) : Prop := zEx zFsC σ σ1 ∧ zEx zFsR σ' σ1' ∧ zOt σ σ1 o ∧ zRws σ' σ1' (40 * o + q) ∧ zBel (znd σ') (znd σ1') m
def zMid (σ σ' σ1 σ1' : zM) (T : Nat → Nat) (n N i : Nat) (W : Nat → List Nat) (k0 o q c m i1 : Nat) (W1 : Nat → List Nat) (pd1 t1 c1 m1 : Nat) (TT RR ρ : Nat → Int32) : Prop := zMiF σ σ' σ1 σ1' o q m ∧ zMiV σ σ1 σ1' o q c c1 m1 TT RR ρ ∧ zPC σ1 T n N i1 W1 k0 pd1 t1 ∧ zPR σ1' T n i1 W1 (k0 + pd1) t1 ∧ (∀ j, j < k0 → W1 j = W j) ∧ i ≤ i1 ∧ c ≤ c1 ∧ 3 * c1 + zTs T n i ≤ 3 * c + zTs T n i1 ∧ (m1 = m ∨ (m ≤ m1 ∧ m1 + 8 + zTs T n i ≤ m + zTs T n i1))
theorem zRws_x {F : List (Nat × Nat)} {σ σ' : zM} {R : Nat} (h : zEx F σ σ') (hF : ([(12, 27), (12, 28), (12, 29), (12, 30)] : List (Nat × Nat)).all (fun q => !F.contains q) = true) : zRws σ σ' R := fun k hk x _ => by
  have hd := zFe_of h hF
  rcases hk with rfl | rfl | rfl | rfl
  · exact congrFun ((hd (12, 27) (by simp)).2.2.2.1 0) x
  · exact congrFun ((hd (12, 28) (by simp)).2.2.2.1 0) x
  · exact congrFun ((hd (12, 29) (by simp)).2.2.2.1 0) x
  · exact congrFun ((hd (12, 30) (by simp)).2.2.2.1 0) x
theorem zMid_step {σ σ' σ1 σ1' σ2 σ2' : zM} {T : Nat → Nat} {n N i i1 i2 : Nat} {W W1 W2 : Nat → List Nat} {k0 o q c m pd1 t1 pd2 t2 c1 m1 : Nat} {TT RR ρ : Nat → Int32} (M : zMid σ σ' σ1 σ1' T n N i W k0 o q c m i1 W1 pd1 t1 c1 m1 TT RR ρ) (hC : zEx zFtC σ1 σ2) (hR : zEx zFtR σ1' σ2') (hi : i1 ≤ i2) (hP : zPC σ2 T n N i2 W2 k0 pd2 t2) (hP' : zPR σ2' T n i2 W2 (k0 + pd2) t2) (hW : ∀ j, j < k0 → W2 j = W1 j) : zMid σ σ' σ2 σ2' T n N i W k0 o q c m i2 W2 pd2 t2 c1 m1 TT RR ρ := by
  obtain ⟨⟨f1, f2, f3, f4, f5⟩, ⟨v1, v2, v3, v4, v5, v6, v7, v8⟩, p1, p2, p3, p4, p5, p6, p7⟩ := M
  have hm := zTs_mono (T := T) (n := n) hi
  have e4 : ∀ k, zA σ2 0 o k = zA σ1 0 o k := fun k => hC.2.2.2.1 0 o k zFt0
  refine ⟨⟨f1.tr (hC.mo (by decide)), f2.tr (hR.mo (by decide)), f3.tr (zOt_x hC (by decide)), f4.tr (zRws_x hR (by decide)), f5.tr (zbel_x hR (by decide)) (Nat.le_refl _)⟩, ⟨(hC.1 0 o 7 zFt0).trans v1, (hC.1 0 o 8 zFt0).trans v2, (hR.1 12 0 18 (by decide)).trans v3, fun k hk => (e4 k).trans (v4 k hk), fun x hx => ?_, (e4 5).trans v6, (e4 6).trans v7, fun k hk => ?_⟩, hP, hP', fun j hj => (hW j hj).trans (p3 j hj), by omega, p5, by omega, by omega⟩
  · rw [e4 4]
    exact v5 x hx
  · rw [hR.2.2.2.1 12 0 k (by rcases hk with rfl | rfl | rfl | rfl <;> decide)]
    exact v8 k hk
theorem zMid_0 {σ σ' : zM} {T : Nat → Nat} {n N i : Nat} {W : Nat → List Nat} {k0 o q c m pd t : Nat} (S : zSP σ σ' T n N i W k0 pd t o q c m) : zMid σ σ' σ σ' T n N i W k0 o q c m i W pd t c m (zA σ 0 o 5) (zA σ 0 o 6) (fun k => zA σ' 12 0 k (40 * o + q)) := by
  obtain ⟨s1, s2, s3, s4, s5, s6, s7⟩ := S
  exact ⟨⟨zEx.rf, zEx.rf, zOt.rf, zRws.rf, zBel.rf⟩, ⟨s4, s5, s6, fun _ _ => rfl, fun _ _ => rfl, rfl, rfl, fun _ _ => rfl⟩, s1, s2, fun _ _ => rfl, Nat.le_refl _, Nat.le_refl _, Nat.le_refl _, Or.inl rfl⟩
/-- the head is taken -/
theorem zMid_go {σ σ' σr : zM} {T : Nat → Nat} {n N i : Nat} {W : Nat → List Nat} {k0 o q c m pd t : Nat} (S : zSP σ σ' T n N i W k0 pd t o q c m) (hi : i < N) (hx : zEx [(12, 21), (12, 40)] σ' σr) (hr : zPR σr T n (i + 1) W (k0 + pd) t) : zMid σ σ' (zsI σ 4 0 8 (nI (i + 1))) σr T n N i W k0 o q c m (i + 1) W pd t c m (zA σ 0 o 5) (zA σ 0 o 6) (fun k => zA σ' 12 0 k (40 * o + q)) := zMid_step (zMid_0 S) (zEx_sI (by decide)) (hx.mo (by decide)) (Nat.le_succ _) (zPC_go S.1 hi) hr (fun _ _ => rfl)
theorem zMid_row {σ σ' σ1 σ1' : zM} {T : Nat → Nat} {n N i i1 : Nat} {W W1 : Nat → List Nat} {k0 o q c m pd1 t1 c1 m1 : Nat} {TT RR ρ : Nat → Int32} (M : zMid σ σ' σ1 σ1' T n N i W k0 o q c m i1 W1 pd1 t1 c1 m1 TT RR ρ) (k : Nat) (v : Int32) (hk : k = 27 ∨ k = 28 ∨ k = 29 ∨ k = 30) : zMid σ σ' σ1 (zsA σ1' 12 0 k (40 * o + q) v) T n N i W k0 o q c m i1 W1 pd1 t1 c1 m1 TT RR (zu ρ k v) := by
  obtain ⟨⟨f1, f2, f3, f4, f5⟩, ⟨v1, v2, v3, v4, v5, v6, v7, v8⟩, p1, p2, p3, p4, p5, p6, p7⟩ := M
  have hx : zEx [(12, 27), (12, 28), (12, 29), (12, 30)] σ1' (zsA σ1' 12 0 k (40 * o + q) v) := zEx_sA (by rcases hk with rfl | rfl | rfl | rfl <;> decide)
  refine ⟨⟨f1, f2.tr (hx.mo (by decide)), f3, f4.tr zRws_s, f5.tr (zbel_x hx (by decide)) (Nat.le_refl _)⟩, ⟨v1, v2, v3, v4, v5, v6, v7, fun k' hk' => ?_⟩, p1, zPR_x p2 hx (by decide), p3, p4, p5, p6, p7⟩
  rw [zA_sA]
  by_cases e : k' = k
  · rw [if_pos ⟨rfl, rfl, e⟩, zu_eq, e, zu_eq]
  · rw [if_neg (fun h => e h.2.2), zu_ne _ _ e]
    exact v8 k' hk'
theorem zMid_term {σ σ' σ1 σ1' : zM} {T : Nat → Nat} {n N i i1 : Nat} {W W1 : Nat → List Nat} {k0 o q c m pd1 t1 c1 m1 : Nat} {TT RR ρ : Nat → Int32} (M : zMid σ σ' σ1 σ1' T n N i W k0 o q c m i1 W1 pd1 t1 c1 m1 TT RR ρ) (w : Nat) (v : Int32) : zMid σ σ' (zsA σ1 0 o 5 w v) σ1' T n N i W k0 o q c m i1 W1 pd1 t1 c1 m1 (zu TT w v) RR ρ := by
  obtain ⟨⟨f1, f2, f3, f4, f5⟩, ⟨v1, v2, v3, v4, v5, v6, v7, v8⟩, p1, p2, p3, p4, p5, p6, p7⟩ := M
  have hx : zEx [(0, 5)] σ1 (zsA σ1 0 o 5 w v) := zEx_sA (by decide)
  refine ⟨⟨f1.tr (hx.mo (by decide)), f2, f3.tr (zOt_h zOth_A), f4, f5⟩, ⟨v1, v2, v3, fun k hk => ?_, fun x hx => ?_, ?_, ?_, v8⟩, zPC_x p1 hx (by decide), p2, p3, p4, p5, p6, p7⟩
  · rw [zA_sA, if_neg (by omega)]
    exact v4 k hk
  · rw [zA_sA, if_neg (by omega)]
    exact v5 x hx
  · rw [zA_sA, if_pos ⟨rfl, rfl, rfl⟩, v6]
  · rw [zA_sA, if_neg (by omega)]
    exact v7
theorem zMid_rate {σ σ' σ1 σ1' : zM} {T : Nat → Nat} {n N i i1 : Nat} {W W1 : Nat → List Nat} {k0 o q c m pd1 t1 c1 m1 : Nat} {TT RR ρ : Nat → Int32} (M : zMid σ σ' σ1 σ1' T n N i W k0 o q c m i1 W1 pd1 t1 c1 m1 TT RR ρ) (w : Nat) (v : Int32) : zMid σ σ' (zsA σ1 0 o 6 w v) σ1' T n N i W k0 o q c m i1 W1 pd1 t1 c1 m1 TT (zu RR w v) ρ := by
  obtain ⟨⟨f1, f2, f3, f4, f5⟩, ⟨v1, v2, v3, v4, v5, v6, v7, v8⟩, p1, p2, p3, p4, p5, p6, p7⟩ := M
  have hx : zEx [(0, 6)] σ1 (zsA σ1 0 o 6 w v) := zEx_sA (by decide)
  refine ⟨⟨f1.tr (hx.mo (by decide)), f2, f3.tr (zOt_h zOth_A), f4, f5⟩, ⟨v1, v2, v3, fun k hk => ?_, fun x hx => ?_, ?_, ?_, v8⟩, zPC_x p1 hx (by decide), p2, p3, p4, p5, p6, p7⟩
  · rw [zA_sA, if_neg (by omega)]
    exact v4 k hk
  · rw [zA_sA, if_neg (by omega)]
    exact v5 x hx
  · rw [zA_sA, if_neg (by omega)]
    exact v6
  · rw [zA_sA, if_pos ⟨rfl, rfl, rfl⟩, v7]
theorem zMid_fail {σ σ' σ1 σ1' : zM} {T : Nat → Nat} {n N i i1 : Nat} {W W1 : Nat → List Nat} {k0 o q c m pd1 t1 c1 m1 : Nat} {TT RR ρ : Nat → Int32} (M : zMid σ σ' σ1 σ1' T n N i W k0 o q c m i1 W1 pd1 t1 c1 m1 TT RR ρ) (hX : zPX σ1' T n i1 W1 (k0 + pd1) t1) : zSR (some (0, σ1)) (some (0, σ1')) σ σ' T n N i W k0 o q c m := Or.inr ⟨σ1, σ1', i1, W1, pd1, t1, rfl, rfl, M.1.1, M.1.2.1, M.1.2.2.1, M.1.2.2.2.1, M.1.2.2.2.2, M.2.2.2.2.1, M.2.2.1, hX⟩
theorem zM_w {σ σ' σ1 σ1' : zM} {T : Nat → Nat} {n N i i1 : Nat} {W W1 : Nat → List Nat} {k0 o q c m pd1 t1 c1 m1 w : Nat} {TT RR ρ : Nat → Int32} {a : Int32} {b : Int64} (hw : w < 36) (ha : a = nI w) (hb : b = zW8t w) (M : zMid σ σ' σ1 σ1' T n N i W k0 o q c m i1 W1 pd1 t1 c1 m1 TT RR ρ) : ∃ σ2 σ2', (f_X4_takeWord σ1 a = some (1, σ2) ∧ f_X12_takes σ1' b = some (1, σ2') ∧ zTs T n i1 + (zLq w).length ≤ zTs T n (i1 + 1) ∧ zMid σ σ' σ2 σ2' T n N i W k0 o q c m (i1 + 1) W1 pd1 t1 c1 m1 TT RR ρ) ∨ (f_X4_takeWord σ1 a = some (0, σ2) ∧ f_X12_takes σ1' b = some (0, σ2') ∧ zMid σ σ' σ2 σ2' T n N i W k0 o q c m i1 W1 pd1 t1 c1 m1 TT RR ρ ∧ zPX σ2' T n i1 W1 (k0 + pd1) t1) := by
  subst ha hb
  obtain ⟨σ2', w1, w2⟩ := zJ_w hw M.2.2.1 M.2.2.2.1
  rcases w2 with ⟨g1, g2, g3, g4, g5, g6, g7⟩ | ⟨g1, g3, g4, g5, g6⟩
  · exact ⟨_, σ2', Or.inl ⟨g3, g4, g7, zMid_step M (zEx_sI (by decide)) (w1.mo (by decide)) (Nat.le_succ _) g5 g6 (fun _ _ => rfl)⟩⟩
  · exact ⟨_, σ2', Or.inr ⟨g3, g4, zMid_step M (zEx_sI (by decide)) (w1.mo (by decide)) (Nat.le_refl _) g5 (zPX_R g6) (fun _ _ => rfl), g6⟩⟩
theorem zM_n {σ σ' σ1 σ1' : zM} {T : Nat → Nat} {n N i i1 : Nat} {W W1 : Nat → List Nat} {k0 o q c m pd1 t1 c1 m1 lo hi : Nat} {TT RR ρ : Nat → Int32} {a b : Int32} (hhi : hi < 1000000) (hlo : lo < 1000000) (ha : a = nI lo) (hb : b = nI hi) (M : zMid σ σ' σ1 σ1' T n N i W k0 o q c m i1 W1 pd1 t1 c1 m1 TT RR ρ) : ∃ σ2 σ2', (∃ v, lo ≤ v ∧ v ≤ hi ∧ f_X4_takeNumber σ1 a b = some (1, σ2) ∧ zI σ2 4 0 9 = nI v ∧ f_X12_takesNumber σ1' a b = some (1, σ2') ∧ zI σ2' 12 0 41 = nI v ∧ zMid σ σ' σ2 σ2' T n N i W k0 o q c m (i1 + 1) W1 pd1 t1 c1 m1 TT RR ρ) ∨ (f_X4_takeNumber σ1 a b = some (0, σ2) ∧ f_X12_takesNumber σ1' a b = some (0, σ2') ∧ zMid σ σ' σ2 σ2' T n N i W k0 o q c m i1 W1 pd1 t1 c1 m1 TT RR ρ ∧ zPX σ2' T n i1 W1 (k0 + pd1) t1) := by
  subst ha hb
  obtain ⟨σ2', w1, w2⟩ := zJ_n hhi hlo M.2.2.1 M.2.2.2.1
  rcases w2 with ⟨v, σ2, l1, l2, l3, g1, g2, g3, g4, g5, g6, g7, g8⟩ | ⟨g1, g2, g3⟩
  · exact ⟨σ2, σ2', Or.inl ⟨v, l1, l2, g1, g3, g4, g5, zMid_step M (g2.mo (by decide)) (w1.mo (by decide)) (Nat.le_succ _) g6 g7 (fun _ _ => rfl)⟩⟩
  · exact ⟨σ1, σ2', Or.inr ⟨g1, g2, zMid_step M zEx.rf (w1.mo (by decide)) (Nat.le_refl _) M.2.2.1 (zPX_R g3) (fun _ _ => rfl), g3⟩⟩
theorem zM_new {σ σ' σ1 σ1' : zM} {T : Nat → Nat} {n N i i1 : Nat} {W W1 : Nat → List Nat} {k0 o q c m pd1 t1 c1 m1 : Nat} {TT RR ρ : Nat → Int32} (M : zMid σ σ' σ1 σ1' T n N i W k0 o q c m i1 W1 pd1 t1 c1 m1 TT RR ρ) : ∃ σ2 σ2', (∃ r W2 pd2 t2, 1 ≤ r ∧ r ≤ 12 ∧ f_X4_takeNewName σ1 = some (1, σ2) ∧ zI σ2 4 0 9 = nI r ∧ f_X12_takesNew σ1' = some (1, σ2') ∧ zI σ2' 12 0 41 = nI r ∧ zMid σ σ' σ2 σ2' T n N i W k0 o q c m (i1 + 1) W2 pd2 t2 c1 m1 TT RR ρ) ∨ (f_X4_takeNewName σ1 = some (0, σ2) ∧ f_X12_takesNew σ1' = some (0, σ2') ∧ zMid σ σ' σ2 σ2' T n N i W k0 o q c m i1 W1 pd1 t1 c1 m1 TT RR ρ ∧ zPX σ2' T n i1 W1 (k0 + pd1) t1) := by
  rcases zJ_new M.2.2.1 M.2.2.2.1 with ⟨σ2, σ2', r, W2, pd2, t2, g1, g2, g3, g4, g5, g6, g7, g8, g9, g10, g11, g12⟩ | ⟨σ2', g1, g2, g3, g4⟩
  · exact ⟨σ2, σ2', Or.inl ⟨r, W2, pd2, t2, g5, g6, g1, g7, g2, g8, zMid_step M (g3.mo (by decide)) (g4.mo (by decide)) (Nat.le_succ _) g10 g11 g12⟩⟩
  · exact ⟨σ1, σ2', Or.inr ⟨g1, g2, zMid_step M zEx.rf (g3.mo (by decide)) (Nat.le_refl _) M.2.2.1 (zPX_R g4) (fun _ _ => rfl), g4⟩⟩
theorem zM_told {σ σ' σ1 σ1' : zM} {T : Nat → Nat} {n N i i1 : Nat} {W W1 : Nat → List Nat} {k0 o q c m pd1 t1 c1 m1 : Nat} {TT RR ρ : Nat → Int32} (M : zMid σ σ' σ1 σ1' T n N i W k0 o q c m i1 W1 pd1 t1 c1 m1 TT RR ρ) : ∃ σ2 σ2', (∃ r, 1 ≤ r ∧ r ≤ 12 ∧ f_X4_takeToldName σ1 = some (1, σ2) ∧ zI σ2 4 0 9 = nI r ∧ f_X12_takesName σ1' = some (1, σ2') ∧ zI σ2' 12 0 41 = nI r ∧ zMid σ σ' σ2 σ2' T n N i W k0 o q c m (i1 + 1) W1 pd1 t1 c1 m1 TT RR ρ) ∨ (f_X4_takeToldName σ1 = some (0, σ2) ∧ f_X12_takesName σ1' = some (0, σ2') ∧ zMid σ σ' σ2 σ2' T n N i W k0 o q c m i1 W1 pd1 t1 c1 m1 TT RR ρ ∧ zPX σ2' T n i1 W1 (k0 + pd1) t1) := by
  rcases zJ_told M.2.2.1 M.2.2.2.1 with ⟨σ2, σ2', r, g1, g2, g3, g4, g5, g6, g7, g8, g9, g10, g11⟩ | ⟨σ2', g1, g2, g3, g4⟩
  · exact ⟨σ2, σ2', Or.inl ⟨r, g5, g6, g1, g7, g2, g8, zMid_step M (g3.mo (by decide)) (g4.mo (by decide)) (Nat.le_succ _) g10 g11 (fun _ _ => rfl)⟩⟩
  · exact ⟨σ1, σ2', Or.inr ⟨g1, g2, zMid_step M zEx.rf (g3.mo (by decide)) (Nat.le_refl _) M.2.2.1 (zPX_R g4) (fun _ _ => rfl), g4⟩⟩
/-- what a new statement means to both -/
def zSt1V (ND : zND) (M : Nat) (code : Nat → Int32) (S F1 F2 F3 K f1 f2 f3 : Int32) : Prop :=
  (S = 11 ∧ K = 0 ∧ zRm F1 ∧ f1 = F1 ∧ zNm F2 999999 ∧ f2 = F2 ∧ zNm F3 999999 ∧ f3 = F3) ∨
  (((S = 12 ∧ K = 1) ∨ (S = 13 ∧ K = 2)) ∧ zRm F1 ∧ f1 = F1 ∧ zRm F2 ∧ f2 = F2 ∧ zNm F3 999999 ∧ f3 = F3) ∨
  (S = 15 ∧ K = 7 ∧ zNm F1 999999 ∧ f1 = F1) ∨
  (S = 16 ∧ K = 8 ∧ ∃ node a b V D, F1 = nI node ∧ f1 = nI a ∧ f2 = nI b ∧ a ≤ b ∧ b ≤ 300 ∧ zNo ND M 26 node V ∧ D ≤ 40 ∧ zCo (zseg code a b) V D) ∨
  ((S = 14 ∨ (zNm S 8 ∧ S ≠ 3)) ∧ zNm K 13 ∧ K ≠ 0 ∧ K ≠ 1 ∧ K ≠ 2 ∧ K ≠ 7 ∧ K ≠ 8)
theorem zSt1_e {σ : zM} {M j i : Nat} : zSt1 σ M j i = zSt1V (znd σ) M (zA σ 0 j 4) (zA σ 12 0 27 (40 * j + i)) (zA σ 12 0 28 (40 * j + i)) (zA σ 12 0 29 (40 * j + i)) (zA σ 12 0 30 (40 * j + i)) (zA σ 0 j 0 i) (zA σ 0 j 1 i) (zA σ 0 j 2 i) (zA σ 0 j 3 i) := rfl
/-- the end of a statement -/
theorem zM_end {σ σ' σ1 σ1' : zM} {T : Nat → Nat} {n N i i1 : Nat} {W W1 : Nat → List Nat} {k0 o q c m pd1 t1 c1 m1 : Nat} {TT RR ρ : Nat → Int32} {x1 x2 x3 x4 S F1 F2 F3 : Int32} (M : zMid σ σ' σ1 σ1' T n N i W k0 o q c m i1 W1 pd1 t1 c1 m1 TT RR ρ) (ho : o < 7) (hq : q < 40) (hc3 : c ≤ 300) (hR : zR σ 4 0 7 = some o) (hB : zBrP (zMix σ σ') m o q c) (hρ : ρ 27 = S ∧ ρ 28 = F1 ∧ ρ 29 = F2 ∧ ρ 30 = F3)
    (hT : ∀ w, w < 11 → TT w = (if S = 8 ∧ w = 10 then F3 else if S = 8 ∧ w = 9 then F2 else if S = 15 ∧ w = 3 ∧ F2 ≠ -1 then F2 else if S = nI w then F1 else zA σ 0 o 5 w) ∧ zNm (TT w) (zbnd w)) (h5 : TT 5 ≠ 0)
    (hRR : ∀ r, 1 ≤ r → r ≤ 12 → RR r = (if S = 14 ∧ F1 = nI r then F2 else zA σ 0 o 6 r) ∧ zNm (RR r) 9999)
    (hn : zSt1V (znd σ1') m1 (zA σ1 0 o 4) S F1 F2 F3 x1 x2 x3 x4) (hn8 : x1 = 8 → ∃ b, x3 = nI b ∧ b ≤ c1) : zSR (f_X4_endOf σ1 x1 x2 x3 x4) (f_X12_takesSign σ1' 59) σ σ' T n N i W k0 o q c m := by
  have M0 := M
  obtain ⟨⟨f1, f2, f3, f4, f5⟩, ⟨v1, v2, v3, v4, v5, v6, v7, v8⟩, p1, p2, p3, p4, p5, p6, p7⟩ := M
  have hR1 : zR σ1 4 0 7 = some o := (f1.2.2.1 4 0 7 (by decide)).trans hR
  have hE := X4_endOf (x1 := x1) (x2 := x2) (x3 := x3) (x4 := x4) (zTr_T p2.1.1) p1 ho hR1 v1 hq
  obtain ⟨σ2', w1, w2⟩ := zJ_s (b := 59) (by decide) (by decide) p1 p2
  rcases w2 with ⟨g1, g2, g3, g4, g5, g6, g7⟩ | ⟨g1, g3, g4, g5, g6⟩
  · rw [g1, if_pos rfl] at hE
    obtain ⟨σ2, hσ2⟩ : ∃ x, x = zsI (zsA (zsA (zsA (zsA (zsI σ1 4 0 8 (nI (i1 + 1))) 0 o 0 q x1) 0 o 1 q x2) 0 o 2 q x3) 0 o 3 q x4) 0 o 7 (nI (q + 1)) := ⟨_, rfl⟩
    rw [← hσ2] at hE
    have xx : zEx [(0, 0), (0, 1), (0, 2), (0, 3), (0, 7)] (zsI σ1 4 0 8 (nI (i1 + 1))) σ2 := by
      rw [hσ2]
      exact ((((zEx_sA (by decide)).tr (zEx_sA (by decide))).tr (zEx_sA (by decide))).tr (zEx_sA (by decide))).tr (zEx_sI (by decide))
    have x2f : zEx zFsC σ1 σ2 := (zEx_sI (by decide)).tr (xx.mo (by decide))
    have ot : zOt σ1 σ2 o := by
      rw [hσ2]
      exact (zOt_x (F := [(4, 8)]) (zEx_sI (by decide)) (by decide)).tr (zOt_h ((((zOth_A.tr zOth_A).tr zOth_A).tr zOth_A).tr zOth_I))
    have a0 : zA σ2 0 o 0 = zu (zA σ1 0 o 0) q x1 := by
      rw [hσ2, zA_sI, zA_sA, if_neg (by omega), zA_sA, if_neg (by omega), zA_sA, if_neg (by omega), zA_sA, if_pos ⟨rfl, rfl, rfl⟩, zA_sI]
    have a1 : zA σ2 0 o 1 = zu (zA σ1 0 o 1) q x2 := by
      rw [hσ2, zA_sI, zA_sA, if_neg (by omega), zA_sA, if_neg (by omega), zA_sA, if_pos ⟨rfl, rfl, rfl⟩, zA_sA, if_neg (by omega), zA_sI]
    have a2 : zA σ2 0 o 2 = zu (zA σ1 0 o 2) q x3 := by
      rw [hσ2, zA_sI, zA_sA, if_neg (by omega), zA_sA, if_pos ⟨rfl, rfl, rfl⟩, zA_sA, if_neg (by omega), zA_sA, if_neg (by omega), zA_sI]
    have a3 : zA σ2 0 o 3 = zu (zA σ1 0 o 3) q x4 := by
      rw [hσ2, zA_sI, zA_sA, if_pos ⟨rfl, rfl, rfl⟩, zA_sA, if_neg (by omega), zA_sA, if_neg (by omega), zA_sA, if_neg (by omega), zA_sI]
    have a4 : zA σ2 0 o 4 = zA σ1 0 o 4 := (xx.2.2.2.1 0 o 4 (by decide)).trans (by rw [zA_sI])
    have a5 : zA σ2 0 o 5 = TT := (xx.2.2.2.1 0 o 5 (by decide)).trans (by rw [zA_sI]; exact v6)
    have a6 : zA σ2 0 o 6 = RR := (xx.2.2.2.1 0 o 6 (by decide)).trans (by rw [zA_sI]; exact v7)
    have i7 : zI σ2 0 o 7 = nI (q + 1) := by rw [hσ2, zI_sI, if_pos ⟨rfl, rfl, rfl⟩]
    have i8 : zI σ2 0 o 8 = nI c1 := (xx.1 0 o 8 (by decide)).trans (by rw [zI_sI, if_neg (by omega)]; exact v2)
    have hz : ∀ k, k = 27 ∨ k = 28 ∨ k = 29 ∨ k = 30 → zA σ2' 12 0 k (40 * o + q) = ρ k := fun k hk => by
      rw [w1.2.2.2.1 12 0 k (by rcases hk with rfl | rfl | rfl | rfl <;> decide)]
      exact v8 k hk
    have r27 : zA (zMix σ2 σ2') 12 0 27 (40 * o + q) = S := (hz 27 (by omega)).trans hρ.1
    have r28 : zA (zMix σ2 σ2') 12 0 28 (40 * o + q) = F1 := (hz 28 (by omega)).trans hρ.2.1
    have r29 : zA (zMix σ2 σ2') 12 0 29 (40 * o + q) = F2 := (hz 29 (by omega)).trans hρ.2.2.1
    have r30 : zA (zMix σ2 σ2') 12 0 30 (40 * o + q) = F3 := (hz 30 (by omega)).trans hρ.2.2.2
    have k0' : zA (zMix σ2 σ2') 0 o 0 q = x1 := by rw [zMix_A0, a0, zu_eq]
    have k1' : zA (zMix σ2 σ2') 0 o 1 q = x2 := by rw [zMix_A0, a1, zu_eq]
    have k2' : zA (zMix σ2 σ2') 0 o 2 q = x3 := by rw [zMix_A0, a2, zu_eq]
    have k3' : zA (zMix σ2 σ2') 0 o 3 q = x4 := by rw [zMix_A0, a3, zu_eq]
    have k4' : zA (zMix σ2 σ2') 0 o 4 = zA σ1 0 o 4 := by rw [zMix_A0, a4]
    have k5' : zA (zMix σ2 σ2') 0 o 5 = TT := by rw [zMix_A0, a5]
    have k6' : zA (zMix σ2 σ2') 0 o 6 = RR := by rw [zMix_A0, a6]
    have nd' : znd (zMix σ2 σ2') = znd σ1' := by
      rw [zMix_nd]
      exact znd_fr (zFe_of w1 (by decide))
    have fR : zRws σ' σ2' (40 * o + q) := f4.tr (zRws_x w1 (by decide))
    have fB : zBel (znd σ') (znd σ2') m := f5.tr (zbel_x w1 (by decide)) (Nat.le_refl _)
    refine Or.inl ⟨σ2, σ2', i1 + 1, W1, pd1, t1, c1, m1, hE, g4, f1.tr x2f, f2.tr (w1.mo (by decide)), f3.tr ot, fR, fB, p3, ⟨zPC_x g5 xx (by decide), g6, (xx.2.2.1 4 0 7 (by decide)).trans hR1, i7, i8, (w1.1 12 0 18 (by decide)).trans v3, ?_⟩, by omega, p5, by omega, by omega⟩
    refine zBrP_add hB (by omega) p5 hc3 (fun j hj => ⟨fun k hk => fR k hk (40 * o + j) (by omega), fun k hk => ?_⟩) fB (fun x hx => ?_) (fun w hw => ?_) ?_ (fun r h1 h2 => ?_) ?_ (fun h8 => ?_)
    · show zA σ2 0 o k j = zA σ 0 o k j
      rw [← v4 k hk]
      rcases (by omega : k = 0 ∨ k = 1 ∨ k = 2 ∨ k = 3) with rfl | rfl | rfl | rfl
      · rw [a0, zu_ne _ _ (by omega)]
      · rw [a1, zu_ne _ _ (by omega)]
      · rw [a2, zu_ne _ _ (by omega)]
      · rw [a3, zu_ne _ _ (by omega)]
    · show zA σ2 0 o 4 x = zA σ 0 o 4 x
      rw [a4]
      exact v5 x hx
    · rw [r27, r28, r29, r30, k5']
      exact hT w hw
    · rw [k5']
      exact h5
    · rw [r27, r28, r29, k6']
      exact hRR r h1 h2
    · rw [zSt1_e, nd', k4', r27, r28, r29, r30, k0', k1', k2', k3']
      exact hn
    · rw [k0'] at h8
      rw [k2']
      exact hn8 h8
  · rw [g1, if_neg (by decide)] at hE
    rw [hE, show f_X12_takesSign σ1' 59 = some (0, σ2') from g4]
    exact zMid_fail (zMid_step M0 (zEx_sI (by decide)) (w1.mo (by decide)) (Nat.le_refl _) g5 (zPX_R g6) (fun _ _ => rfl)) g6
