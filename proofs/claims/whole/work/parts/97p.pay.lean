/-! the winner -/
def zwn (cl f m : Nat) (ah : Nat → Nat → Bool) : Int32 := if cl = 2 then zat ah m (nI f) else -1
/-- what the class wants for a winner -/
def zWC (σ : zM) (cl f m q : Nat) (L : Nat → Nat) (R : Nat → Nat → Nat) (V : Nat → Bool) (tie : Int32) : Prop := cl ≤ 2 ∧ f ≤ 10 ∧ zI σ 11 0 15 = nI cl ∧ zI σ 11 0 16 = nI f ∧ (cl = 2 → zRk σ 1 m L R ∧ zRvo σ 1 V ∧ zI σ 6 1 8 = tie ∧ zI σ 6 1 7 = nI q ∧ q < 3)
/-- what the reference wants for a winner -/
def zWR (σ : zM) (cl f m q J k v : Nat) (L : Nat → Nat) (R : Nat → Nat → Nat) (tie : Int32) : Prop := cl ≤ 2 ∧ f ≤ 10 ∧ zI σ 12 0 50 = nI cl ∧ zI σ 12 0 51 = nI f ∧ (cl = 2 → zRef σ 1 m J k L R ∧ v < 128 ∧ zA σ 12 0 59 1 = nI v ∧ (∀ j, J ≤ j → v.testBit j = false) ∧ zA σ 12 0 61 1 = tie ∧ zA σ 12 0 60 1 = nI q ∧ q < 3)
theorem X11_win {σ : zM} {cl f m q : Nat} {L : Nat → Nat} {R : Nat → Nat → Nat} {V : Nat → Bool} {tie : Int32} (h : zWC σ cl f m q L R V tie) : ∃ σ1, f_X11_winner σ = some (zwn cl f m (zah (zPts m L R V q) tie (zPc m L R 0)), σ1) ∧ zEx [(6, 4), (6, 5)] σ σ1 := by
  obtain ⟨h1, h2, h3, h4, h5⟩ := h
  unfold f_X11_winner zwn
  rw [h3]
  by_cases hc : cl = 2
  · obtain ⟨hk, hv, ht, h7, hq⟩ := h5 hc
    obtain ⟨σ1, w1, w2⟩ := X6_rankedAt hk hv ht hq (nI f)
    rw [if_pos (by rw [zq2]; exact nI_le (by omega) (by omega)), if_pos hc, h7, h4, w1, Option.bind_some]
    exact ⟨σ1, rfl, w2⟩
  · rw [if_neg (by rw [zq2, nI_leI (by omega) (by omega)]; omega), if_neg hc]
    exact ⟨σ, rfl, zEx.rf⟩
theorem X12_win {σ : zM} {cl f m q J k v : Nat} {L : Nat → Nat} {R : Nat → Nat → Nat} {tie : Int32} (h : zWR σ cl f m q J k v L R tie) : ∃ σ1, f_X12_winnerNow σ = some (zwn cl f m (zah (zPts m L R (fun j => v.testBit j) q) tie (zPc m L R 0)), σ1) ∧ zEx [(12, 62), (12, 63), (12, 64)] σ σ1 := by
  obtain ⟨h1, h2, h3, h4, h5⟩ := h
  unfold f_X12_winnerNow zwn
  rw [h3]
  by_cases hc : cl = 2
  · obtain ⟨hf, hv, h59, hV0, ht, h60, hq⟩ := h5 hc
    have hJ := hf.2.2.1
    obtain ⟨σ1, w1, w2⟩ := X12_rankedAt (V := fun j => v.testBit j) (x := nI f) hf (fun σ' hσ' j hj => X12_cnt (by rw [hσ'.1 12 0 50 (by decide)]; exact h3) (show 1 < cl by omega) h1 (by rw [hσ'.2.2.2.1 12 0 59 (by decide)]; exact h59) hv (by omega)) hV0 ht hq (zlt0 (by omega))
    have er : f_X12_ranks σ 1 (nI q) = f_X12_ranks σ (nI 1) (nI q) := congrArg (fun x => f_X12_ranks σ x (nI q)) zq1
    have hrk : ∀ τ, f_X12_ranks σ (nI 1) (nI q) = some τ → zI τ 12 0 51 = nI f := fun τ hτ => by
      obtain ⟨τ', t1, t2, -⟩ := X12_rank (V := fun j => v.testBit j) (tie := tie) hf (fun σ' hσ' j hj => X12_cnt (by rw [hσ'.1 12 0 50 (by decide)]; exact h3) (show 1 < cl by omega) h1 (by rw [hσ'.2.2.2.1 12 0 59 (by decide)]; exact h59) hv (by omega)) hV0 ht hq
      have e : some τ = some τ' := hτ.symm.trans t1
      injection e with e
      rw [e, t2.1 12 0 51 (by decide)]
      exact h4
    have hz12 : zix 1 2 = some 1 := by decide
    rw [if_pos (by rw [zq2]; exact nI_le (by omega) (by omega)), if_pos hc, hz12, Option.bind_some, h60, er]
    refine ⟨σ1, ?_, w2⟩
    rw [← w1]
    cases e : f_X12_ranks σ (nI 1) (nI q) with
    | none => rw [e] at w1; cases w1
    | some τ =>
      rw [Option.bind_some, Option.bind_some, hrk τ e]
  · rw [if_neg (by rw [zq2, nI_leI (by omega) (by omega)]; omega), if_neg hc]
    exact ⟨σ, rfl, zEx.rf⟩
theorem zWC_x {F : List (Nat × Nat)} {σ σ' : zM} {cl f f' m q : Nat} {L : Nat → Nat} {R : Nat → Nat → Nat} {V : Nat → Bool} {tie : Int32} (h : zWC σ cl f m q L R V tie) (hE : zEx F σ σ') (hF : ([(6, 0), (6, 1), (6, 2), (6, 6), (6, 3), (6, 7), (6, 8), (11, 15)] : List (Nat × Nat)).all (fun q => !F.contains q) = true) (hf : f' ≤ 10) (e : zI σ' 11 0 16 = nI f') : zWC σ' cl f' m q L R V tie := by
  have hd := zFe_of hE hF
  obtain ⟨h1, h2, h3, h4, h5⟩ := h
  refine ⟨h1, hf, by rw [(hd (11, 15) (by simp)).1 0]; exact h3, e, fun hc => ?_⟩
  obtain ⟨g1, g2, g3, g4, g5⟩ := h5 hc
  have e3 : zA σ' 6 1 3 = zA σ 6 1 3 := (hd (6, 3) (by simp)).2.2.2.1 1
  refine ⟨?_, ?_, by rw [(hd (6, 8) (by simp)).1 1]; exact g3, by rw [(hd (6, 7) (by simp)).1 1]; exact g4, g5⟩
  · have e0 : zA σ' 6 1 0 = zA σ 6 1 0 := (hd (6, 0) (by simp)).2.2.2.1 1
    have e1 : zA σ' 6 1 1 = zA σ 6 1 1 := (hd (6, 1) (by simp)).2.2.2.1 1
    have e2 : zA σ' 6 1 2 = zA σ 6 1 2 := (hd (6, 2) (by simp)).2.2.2.1 1
    have e6 : zI σ' 6 1 6 = zI σ 6 1 6 := (hd (6, 6) (by simp)).1 1
    unfold zRk
    rw [e0, e1, e2, e6]
    exact g1
  · unfold zRvo
    rw [e3]
    exact g2
theorem zWR_x {F : List (Nat × Nat)} {σ σ' : zM} {cl f f' m q J k v : Nat} {L : Nat → Nat} {R : Nat → Nat → Nat} {tie : Int32} (h : zWR σ cl f m q J k v L R tie) (hE : zEx F σ σ') (hF : ([(12, 48), (12, 1), (12, 58), (12, 57), (12, 56), (12, 50), (12, 59), (12, 60), (12, 61)] : List (Nat × Nat)).all (fun q => !F.contains q) = true) (hf : f' ≤ 10) (e : zI σ' 12 0 51 = nI f') : zWR σ' cl f' m q J k v L R tie := by
  have hd := zFe_of hE hF
  obtain ⟨h1, h2, h3, h4, h5⟩ := h
  refine ⟨h1, hf, by rw [(hd (12, 50) (by simp)).1 0]; exact h3, e, fun hc => ?_⟩
  obtain ⟨g1, g2, g3, g4, g5, g6, g7⟩ := h5 hc
  refine ⟨?_, g2, by rw [(hd (12, 59) (by simp)).2.2.2.1 0]; exact g3, g4, by rw [(hd (12, 61) (by simp)).2.2.2.1 0]; exact g5, by rw [(hd (12, 60) (by simp)).2.2.2.1 0]; exact g6, g7⟩
  have e0 : zI σ' 12 0 48 = zI σ 12 0 48 := (hd (12, 48) (by simp)).1 0
  have e1 : zI σ' 12 0 1 = zI σ 12 0 1 := (hd (12, 1) (by simp)).1 0
  have e2 : zA σ' 12 0 58 = zA σ 12 0 58 := (hd (12, 58) (by simp)).2.2.2.1 0
  have e3 : zA σ' 12 0 57 = zA σ 12 0 57 := (hd (12, 57) (by simp)).2.2.2.1 0
  have e4 : zA σ' 12 0 56 = zA σ 12 0 56 := (hd (12, 56) (by simp)).2.2.2.1 0
  unfold zRef
  rw [e0, e1, e2, e3, e4]
  exact g1
theorem zWin {n : Nat} {σ : zM} (hI : zInv n σ) : ∃ cl f m q J k v st, zWC σ cl f m q (zLL σ 1) (zRR σ 1) (fun j => v.testBit j) (zA σ 12 0 61 1) ∧ zWR σ cl f m q J k v (zLL σ 1) (zRR σ 1) (zA σ 12 0 61 1) ∧ k ≤ 10 ∧ zI σ 12 0 1 = nI k ∧ (∀ s, m.testBit s = true → s < k) ∧ zI σ 11 0 17 = nI st ∧ zI σ 12 0 52 = nI st ∧ st ≤ 3 ∧ zI σ 11 0 18 = zI σ 12 0 53 := by
  obtain ⟨hDay, hFlt, hTap, hNam, hSun, hSch, hPai, hQue, hPan, hWds, hBri, hMen, hRnd⟩ := hI
  obtain ⟨k, k1, k2, k3, k4, k5⟩ := hSch
  obtain ⟨⟨J, J1, J2, J3⟩, hp⟩ := hPan
  unfold iRnd at hRnd
  rw [k3] at hRnd
  obtain ⟨cl, op, m0, m1, m2, f, st, c1, c2, c3, e50, e54, e49, e15, e14, o0, o1, b0, b1, e58, z0, n0, e65, z1, n1, e581, z2, z3, hc, e16, e51, f10, e17, e52, st3, e18⟩ := hRnd
  have hb1 : ∀ s, m1.testBit s = true → s < k := fun s hs => by
    have h := b0 s (b1 s hs)
    have hs10 : s < 10 := by
      rcases Nat.lt_or_ge s 10 with h | h
      · exact h
      · have := ztb_hi (m := m1) (a := 10) (s := s) o1.1 h
        rw [this] at hs
        cases hs
    rw [nI_ltI (by omega) (by omega)] at h
    exact h
  by_cases h2 : cl = 2
  · obtain ⟨⟨v, v1, v2, v3⟩, g7, ⟨q, hq, g72⟩, g8, -⟩ := hc 1 (by omega)
    refine ⟨cl, f, m1, q, J, k, v, st, ⟨c1, f10, e15, e16, fun _ => ⟨zRk_of (by decide) k1 o1, fun j hj => (v3 j hj).1, g8, by rw [g7, g72], by omega⟩⟩, ⟨c1, f10, e50, e51, fun _ => ⟨zRef_of (by decide) k1 J1 o1 J3 k3 (by rw [e581, z2 (by omega)]) hb1, v1, v2, fun j hj => ?_, rfl, g72, by omega⟩⟩, k1, k3, hb1, e17, e52, st3, e18⟩
    rcases Nat.lt_or_ge j 7 with hj7 | hj7
    · exact (v3 j hj7).2 (by rw [J3]; exact nI_le hj (by omega))
    · exact ztb_hi (a := 7) v1 hj7
  · exact ⟨cl, f, m1, 0, J, k, 0, st, ⟨c1, f10, e15, e16, fun h => absurd h h2⟩, ⟨c1, f10, e50, e51, fun h => absurd h h2⟩, k1, k3, hb1, e17, e52, st3, e18⟩
theorem ob_winner : zOb zInv (fun σ => f_X11_winner σ) (fun σ => f_X12_winner σ) := by
  intro n σ hn hI
  obtain ⟨cl, f, m, q, J, k, v, st, hC, hR, -⟩ := zWin hI
  obtain ⟨hDay, hFlt, hTap, hNam, hSun, hSch, hPai, hQue, hPan, hWds, hBri, hMen, hRnd⟩ := hI
  obtain ⟨σ1, w1, w2⟩ := X11_win hC
  obtain ⟨σ2, v1, v2⟩ := X12_win (zWR_x hR w2 (by decide) hR.2.1 (by rw [w2.1 12 0 51 (by decide)]; exact hR.2.2.2.1))
  have hEx : zEx [(6, 4), (6, 5), (12, 62), (12, 63), (12, 64)] σ σ2 := (w2.mo (by decide)).tr (v2.mo (by decide))
  obtain ⟨s1, s2⟩ := zsame2 hEx (by decide)
  refine ⟨_, σ1, σ2, w1, ?_, ⟨iDay_fr hEx (by decide) hDay, iFlt_fr hEx (by decide) hFlt, iTap_fr hEx (by decide) hTap, iNam_fr hEx (by decide) hNam, iSun_fr hEx (by decide) hSun, iSch_fr hEx (by decide) hSch, iPai_fr hEx (by decide) hPai, iQue_fr hEx (by decide) hQue, iPan_fr hEx (by decide) hPan, iWds_fr hEx (by decide) hWds, iBri_fr hEx (by decide) hBri, iMen_mo (iMen_fr hEx (by decide) hMen), iRnd_fr hEx (by decide) hRnd⟩, s1, s2⟩
  show f_X12_winner σ1 = _
  unfold f_X12_winner
  rw [v1, Option.bind_some]
theorem iRnd_st {σ σ' : zM} {f st : Nat} (h : zEx [(6, 4), (6, 5), (12, 62), (12, 63), (12, 64), (11, 16), (11, 17), (11, 18), (12, 51), (12, 52), (12, 53)] σ σ') (hR : iRnd σ) (e1 : zI σ' 11 0 16 = nI f) (e2 : zI σ' 12 0 51 = nI f) (hf : f ≤ 10) (e3 : zI σ' 11 0 17 = nI st) (e4 : zI σ' 12 0 52 = nI st) (hst : st ≤ 3) (e5 : zI σ' 11 0 18 = zI σ' 12 0 53) : iRnd σ' := by
  unfold iRnd at hR ⊢
  obtain ⟨cl, op, m0, m1, m2, f', st', c1, c2, c3, e50, e54, e49, e15, e14, o0, o1, b0, b1, e58, z0, n0, e65, z1, n1, e581, z2, z3, hc, -⟩ := hR
  have q0 := h.1
  have q1 := h.2.2.2.1
  have ex : zI σ' 12 0 1 = zI σ 12 0 1 := q0 12 0 1 (by decide)
  have ro : ∀ r m X, iRo1 σ X r m → iRo1 σ' X r m := fun r m X hh => by
    unfold iRo1 at hh ⊢
    rw [q1 6 r 0 (by simp), q0 6 r 6 (by simp), q1 6 r 1 (by simp), q1 6 r 2 (by simp), q1 12 0 57 (by simp), q1 12 0 56 (by simp), q0 12 0 48 (by simp)]
    exact hh
  rw [ex]
  refine ⟨cl, op, m0, m1, m2, f, st, c1, c2, c3, (q0 12 0 50 (by simp)).trans e50, (q0 12 0 54 (by simp)).trans e54, (q0 12 0 49 (by simp)).trans e49, (q0 11 0 15 (by simp)).trans e15, (q0 11 0 14 (by simp)).trans e14, ro _ _ _ o0, ro _ _ _ o1, b0, b1, by rw [q1 12 0 58 (by simp)]; exact e58, z0, n0, (q0 12 0 65 (by simp)).trans e65, z1, n1, by rw [q1 12 0 58 (by simp)]; exact e581, z2, z3, fun r' hr' => ?_, e1, e2, hf, e3, e4, hst, e5⟩
  have := hc r' hr'
  unfold iRoC at this ⊢
  rw [q1 6 r' 3 (by simp), q1 12 0 59 (by simp), q0 12 0 48 (by simp), q0 6 r' 7 (by simp), q1 12 0 60 (by simp), q0 6 r' 8 (by simp), q1 12 0 61 (by simp)]
  exact this
theorem zwn_s {cl f m k : Nat} {ah : Nat → Nat → Bool} (hf : f ≤ 10) (hb : ∀ s, m.testBit s = true → s < k) (hk : k ≤ 10) : zwn cl f m ah = -1 ∨ ∃ s, s < k ∧ zwn cl f m ah = nI s ∧ ¬ nI s = -1 ∧ f < 10 := by
  unfold zwn
  by_cases hc : cl = 2
  · rw [if_pos hc]
    unfold zat
    have h10 := zpc_le m
    rw [if_neg (zlt0 (by omega))]
    by_cases h1 : nI (zpc m) ≤ nI f
    · rw [if_pos h1]
      exact Or.inl rfl
    · rw [if_neg h1, nI_clamp (by omega)]
      rw [nI_leI (by omega) (by omega)] at h1
      have he := (zrk_e (ah := ah) (m := m) 10).1 f (by rw [zrk_zpc]; omega)
      have := hb _ he.2
      exact Or.inr ⟨_, this, rfl, znI_m1 (by omega), by omega⟩
  · rw [if_neg hc]
    exact Or.inl rfl
theorem ob_fail : zOb zInv (fun σ => f_X11_fail σ) (fun σ => f_X12_fail σ) := by
  intro n σ hn hI
  obtain ⟨cl, f, m, q, J, k, v, st, hC, hR, hk10, -, hb, -, -, -, e18⟩ := zWin hI
  obtain ⟨hDay, hFlt, hTap, hNam, hSun, hSch, hPai, hQue, hPan, hWds, hBri, hMen, hRnd⟩ := hI
  obtain ⟨σ1, w1, w2⟩ := X11_win hC
  rcases zwn_s (cl := cl) (ah := zah (zPts m (zLL σ 1) (zRR σ 1) (fun j => v.testBit j) q) (zA σ 12 0 61 1) (zPc m (zLL σ 1) (zRR σ 1) 0)) hC.2.1 hb hk10 with hw | ⟨s, hs, hw, hne, hf10⟩
  · rw [hw] at w1
    obtain ⟨σ2, v1, v2⟩ := X12_win (zWR_x hR w2 (by decide) hR.2.1 (by rw [w2.1 12 0 51 (by decide)]; exact hR.2.2.2.1))
    rw [hw] at v1
    have hEx : zEx [(6, 4), (6, 5), (12, 62), (12, 63), (12, 64)] σ σ2 := (w2.mo (by decide)).tr (v2.mo (by decide))
    obtain ⟨s1, s2⟩ := zsame2 hEx (by decide)
    refine ⟨-2, σ1, σ2, ?_, ?_, ⟨iDay_fr hEx (by decide) hDay, iFlt_fr hEx (by decide) hFlt, iTap_fr hEx (by decide) hTap, iNam_fr hEx (by decide) hNam, iSun_fr hEx (by decide) hSun, iSch_fr hEx (by decide) hSch, iPai_fr hEx (by decide) hPai, iQue_fr hEx (by decide) hQue, iPan_fr hEx (by decide) hPan, iWds_fr hEx (by decide) hWds, iBri_fr hEx (by decide) hBri, iMen_mo (iMen_fr hEx (by decide) hMen), iRnd_fr hEx (by decide) hRnd⟩, s1, s2⟩
    · show f_X11_fail σ = _
      unfold f_X11_fail
      rw [w1, Option.bind_some, if_pos rfl]
    · show f_X12_fail σ1 = _
      unfold f_X12_fail
      rw [v1, Option.bind_some, if_pos rfl]
  · rw [hw] at w1
    obtain ⟨σ1b, hb1⟩ : ∃ x, x = zsI (zsI σ1 11 0 16 (nI (f + 1))) 11 0 17 0 := ⟨_, rfl⟩
    have x1 : zEx [(6, 4), (6, 5), (11, 16), (11, 17)] σ σ1b := by
      rw [hb1]
      exact (w2.mo (by decide)).tr ((zEx_sI (by decide)).tr (zEx_sI (by decide)))
    have hC2 : zWC σ1b cl (f + 1) m q (zLL σ 1) (zRR σ 1) (fun j => v.testBit j) (zA σ 12 0 61 1) := zWC_x hC x1 (by decide) (by omega) (by rw [hb1]; rfl)
    obtain ⟨σ2, u1, u2⟩ := X11_win hC2
    have x2 : zEx [(6, 4), (6, 5), (11, 16), (11, 17)] σ σ2 := x1.tr (u2.mo (by decide))
    have hR2 : zWR σ2 cl f m q J k v (zLL σ 1) (zRR σ 1) (zA σ 12 0 61 1) := zWR_x hR x2 (by decide) hR.2.1 (by rw [x2.1 12 0 51 (by decide)]; exact hR.2.2.2.1)
    obtain ⟨σ3, v1, v2⟩ := X12_win hR2
    rw [hw] at v1
    obtain ⟨σ3b, hb3⟩ : ∃ x, x = zsI (zsI σ3 12 0 51 (nI (f + 1))) 12 0 52 0 := ⟨_, rfl⟩
    have x3 : zEx [(12, 62), (12, 63), (12, 64), (12, 51), (12, 52)] σ2 σ3b := by
      rw [hb3]
      exact (v2.mo (by decide)).tr ((zEx_sI (by decide)).tr (zEx_sI (by decide)))
    have hR3 : zWR σ3b cl (f + 1) m q J k v (zLL σ 1) (zRR σ 1) (zA σ 12 0 61 1) := zWR_x hR2 x3 (by decide) (by omega) (by rw [hb3]; rfl)
    obtain ⟨σ4, t1, t2⟩ := X12_win hR3
    have x4 : zEx [(12, 62), (12, 63), (12, 64), (12, 51), (12, 52)] σ2 σ4 := x3.tr (t2.mo (by decide))
    have hEx : zEx [(6, 4), (6, 5), (12, 62), (12, 63), (12, 64), (11, 16), (11, 17), (11, 18), (12, 51), (12, 52), (12, 53)] σ σ4 := (x2.mo (by decide)).tr (x4.mo (by decide))
    obtain ⟨s1, s2⟩ := zsame2 hEx (by decide)
    have g16 : zI σ4 11 0 16 = nI (f + 1) := by rw [x4.1 11 0 16 (by decide)]; exact (u2.1 11 0 16 (by decide)).trans (by rw [hb1]; rfl)
    have g17 : zI σ4 11 0 17 = nI 0 := by rw [x4.1 11 0 17 (by decide)]; exact (u2.1 11 0 17 (by decide)).trans (by rw [hb1]; rfl)
    have g51 : zI σ4 12 0 51 = nI (f + 1) := by rw [t2.1 12 0 51 (by decide), hb3]; rfl
    have g52 : zI σ4 12 0 52 = nI 0 := by rw [t2.1 12 0 52 (by decide), hb3]; rfl
    have g18 : zI σ4 11 0 18 = zI σ4 12 0 53 := by
      rw [x4.1 11 0 18 (by decide), x2.1 11 0 18 (by decide), x4.1 12 0 53 (by decide), x2.1 12 0 53 (by decide)]
      exact e18
    obtain ⟨W, hW⟩ : ∃ W, W = zwn cl (f + 1) m (zah (zPts m (zLL σ 1) (zRR σ 1) (fun j => v.testBit j) q) (zA σ 12 0 61 1) (zPc m (zLL σ 1) (zRR σ 1) 0)) := ⟨_, rfl⟩
    rw [← hW] at u1 t1
    refine ⟨W, σ2, σ4, ?_, ?_, ⟨iDay_fr hEx (by decide) hDay, iFlt_fr hEx (by decide) hFlt, iTap_fr hEx (by decide) hTap, iNam_fr hEx (by decide) hNam, iSun_fr hEx (by decide) hSun, iSch_fr hEx (by decide) hSch, iPai_fr hEx (by decide) hPai, iQue_fr hEx (by decide) hQue, iPan_fr hEx (by decide) hPan, iWds_fr hEx (by decide) hWds, iBri_fr hEx (by decide) hBri, iMen_mo (iMen_fr hEx (by decide) hMen), iRnd_st hEx hRnd g16 g51 (by omega) g17 g52 (by omega) g18⟩, s1, s2⟩
    rotate_left
    · show f_X12_fail σ2 = _
      unfold f_X12_fail
      rw [v1, Option.bind_some, if_neg hne]
      have f51 : zI σ3 12 0 51 = nI f := by rw [v2.1 12 0 51 (by decide)]; exact hR2.2.2.2.1
      rw [show zI (nI s, σ3).2 12 0 51 = nI f from f51, nI_1]
      show (f_X12_winnerNow (zsI (zsI σ3 12 0 51 (nI (f + 1))) 12 0 52 0)).bind _ = _
      rw [← hb3, t1, Option.bind_some]
    · show f_X11_fail σ = _
      unfold f_X11_fail
      rw [w1, Option.bind_some, if_neg hne]
      have f16 : zI σ1 11 0 16 = nI f := by rw [w2.1 11 0 16 (by decide)]; exact hC.2.2.2.1
      rw [show zI (nI s, σ1).2 11 0 16 = nI f from f16, nI_1]
      show (f_X11_winner (zsI (zsI σ1 11 0 16 (nI (f + 1))) 11 0 17 0)).bind _ = _
      rw [← hb1, u1, Option.bind_some]
