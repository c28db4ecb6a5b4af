/-! a brief's text: how it is begun, what other briefs keep -/
def zE0 (F : List (Nat × Nat)) (σ σ' : zM) : Prop := ∀ q : Nat × Nat, q.1 ≠ 0 → q ∉ F → zFe q σ σ'
theorem zE0.tr {F : List (Nat × Nat)} {σ σ1 σ2 : zM} (h : zE0 F σ σ1) (g : zE0 F σ1 σ2) : zE0 F σ σ2 := fun q h0 hF => (h q h0 hF).tr (g q h0 hF)
theorem zE0.mo {F F' : List (Nat × Nat)} {σ σ1 : zM} (h : zE0 F σ σ1) (hs : ∀ q ∈ F, q ∈ F') : zE0 F' σ σ1 := fun q h0 hF => h q h0 (fun hm => hF (hs q hm))
theorem zE0_x {F F' : List (Nat × Nat)} {σ σ' : zM} (h : zEx F σ σ') (hs : ∀ q ∈ F, q.1 ≠ 0 → q ∈ F') : zE0 F' σ σ' := fun q h0 hF => by
  have hk : (q.1, q.2) ∉ F := fun hm => hF (hs q hm h0)
  exact ⟨fun i => h.1 q.1 i q.2 hk, fun i => h.2.1 q.1 i q.2 hk, fun i => h.2.2.1 q.1 i q.2 hk, fun i => h.2.2.2.1 q.1 i q.2 hk, fun i => h.2.2.2.2.1 q.1 i q.2 hk, fun i => h.2.2.2.2.2 q.1 i q.2 hk⟩
theorem zE0_of {F L : List (Nat × Nat)} {σ σ' : zM} (h : zE0 F σ σ') (hd : L.all (fun q => decide (q.1 ≠ 0) && !F.contains q) = true) : ∀ q ∈ L, zFe q σ σ' := fun q hq => by
  have h1 := List.all_eq_true.mp hd q hq
  rw [Bool.and_eq_true, decide_eq_true_eq, Bool.not_eq_true', List.contains_eq_mem, decide_eq_false_iff_not] at h1
  exact h q h1.1 h1.2
theorem zE0_clr {F : List (Nat × Nat)} {σ : zM} {o : Nat} : zE0 F σ (zclr σ 0 o) := fun q h0 _ => ⟨fun i => if_neg (fun e => h0 e.1), fun i => if_neg (fun e => h0 e.1), fun i => if_neg (fun e => h0 e.1), fun _ => rfl, fun _ => rfl, fun _ => rfl⟩
theorem zE0_clA {F : List (Nat × Nat)} {σ : zM} {o k : Nat} : zE0 F σ (zclA σ 0 o k) := fun q h0 _ => ⟨fun _ => rfl, fun _ => rfl, fun _ => rfl, fun i => if_neg (fun e => h0 e.1), fun i => if_neg (fun e => h0 e.1), fun i => if_neg (fun e => h0 e.1)⟩
theorem X1_draft2 {σ : zM} {nb o' : Nat} (h : zR σ 1 0 3 = none ∨ zR σ 1 0 3 = some nb) (ho : zR σ 1 0 3 = none → o' = nb) : ∃ σ', f_X1_draft σ o' = some (nb, σ') ∧ zR σ' 1 0 3 = some nb ∧ zOth σ σ' nb ∧ zE0 [(1, 3)] σ σ' := by
  rcases h with h | h
  · rw [ho h]
    obtain ⟨σa, ha⟩ : ∃ x, x = zclA (zclA (zclA (zclA (zclA (zsI (zsI (zsI (zclA (zclA (zclr σ 0 nb) 0 nb 5) 0 nb 6) 0 nb 7 0) 0 nb 8 0) 0 nb 9 0) 0 nb 0) 0 nb 1) 0 nb 2) 0 nb 3) 0 nb 4 := ⟨_, rfl⟩
    obtain ⟨σb, w1, w2, w3, w4, w5, w6, w7⟩ := X0_wipe (σ := σa) (o := nb)
    have hi : f_X0_initB (zclr σ 0 nb) nb = some σb := by
      unfold f_X0_initB
      simp only [zlt_e]
      rw [← ha, w1, Option.bind_some]
    have oa : zOth σ σa nb := by
      rw [ha]
      exact zOth_cl.tr (zOth_cA.tr (zOth_cA.tr (zOth_I.tr (zOth_I.tr (zOth_I.tr (zOth_cA.tr (zOth_cA.tr (zOth_cA.tr (zOth_cA.tr zOth_cA)))))))))
    have hI : ∀ {s : zM} {k : Nat} {v : Int32}, zE0 [(1, 3)] s (zsI s 0 nb k v) := fun {s k v} => zE0_x (zEx_sI (F := [(0, k)]) (by simp)) (fun q hq h0 => absurd (by rw [List.mem_singleton.mp hq]) h0)
    have ea : zE0 [(1, 3)] σ σa := by
      rw [ha]
      exact zE0_clr.tr (zE0_clA.tr (zE0_clA.tr (hI.tr (hI.tr (hI.tr (zE0_clA.tr (zE0_clA.tr (zE0_clA.tr (zE0_clA.tr zE0_clA)))))))))
    obtain ⟨σc, hc⟩ : ∃ x, x = zsR σb 1 0 3 (some nb) := ⟨_, rfl⟩
    have R3 : zR σc 1 0 3 = some nb := by rw [hc]; rfl
    refine ⟨σc, ?_, R3, (oa.tr w7).tr (fun o' k _ => by rw [hc]; exact ⟨rfl, rfl⟩), ea.tr ((zE0_x w2 (by decide)).tr (by rw [hc]; exact zE0_x (zEx_sR (F := [(1, 3)]) (by decide)) (by decide)))⟩
    unfold f_X1_draft
    rw [h]
    rw [znu_e0, zlt_e, hi, Option.bind_some, zlt_e, ← hc, R3, znu_e1]
  · refine ⟨σ, ?_, h, zOth.rf, zE0_x (F := []) zEx.rf (fun q hq => absurd hq (by simp))⟩
    unfold f_X1_draft
    rw [h, znu_e1, znu_e1]
theorem X4_begin {σ : zM} {T : Nat → Nat} {n o k0 : Nat} {W : Nat → List Nat} (hW : iWds σ) (hT : zTc σ T n) (hn : n ≤ 900) (hN : zNmL σ W k0 0) : ∃ σc N, f_X4_read σ (nI n) o = f_X4_read_B46 σc (nI n) o ∧ zE0 [(4, 7), (4, 3), (4, 4), (4, 5), (4, 8), (4, 6)] σ σc ∧ zOt σ σc o ∧ zPC σc T n N 0 W k0 0 0 ∧ zR σc 4 0 7 = some o ∧ zI σc 0 o 7 = nI 0 ∧ zI σc 0 o 8 = nI 0 ∧ (∀ w, w < 11 → zA σc 0 o 5 w = nI (zels w)) ∧ ∀ r, r < 13 → zA σc 0 o 6 r = 100 := by
  obtain ⟨σ1, h1⟩ : ∃ x, x = zsR σ 4 0 7 (some o) := ⟨_, rfl⟩
  have x1 : zEx [(4, 7)] σ σ1 := by rw [h1]; exact zEx_sR (by decide)
  have R1 : zR σ1 4 0 7 = some o := by rw [h1]; rfl
  obtain ⟨σ2, w1, w2, w3, w4, w5, w6, w7⟩ := X0_wipe (σ := σ1) (o := o)
  have x2 : zEx [(4, 7), (0, 5), (0, 6), (0, 7), (0, 8)] σ σ2 := (x1.mo (by decide)).tr (w2.mo (by decide))
  obtain ⟨σ3, N, s1, s2, s3⟩ := X4_split (iWds_fr x2 (by decide) hW) (zTc_fr hT x2 (by decide) (by decide)) hn
  obtain ⟨σ4, h4⟩ : ∃ x, x = zsI σ3 4 0 8 0 := ⟨_, rfl⟩
  have x4 : zEx [(4, 8)] σ3 σ4 := by rw [h4]; exact zEx_sI (by decide)
  obtain ⟨σ5, c1, c2, c3⟩ := X4_clr (σ := σ4) (x1 := nI n) (x2 := o)
  have P4 : zCP σ4 T n N 0 := by
    rw [h4]
    exact ⟨s3, Nat.zero_le _, rfl⟩
  have P5 : zCP σ5 T n N 0 := zCP_x P4 c2 (by decide)
  have xx : zEx [(4, 3), (4, 4), (4, 5), (4, 8), (4, 6)] σ2 σ5 := (s2.mo (by decide)).tr ((x4.mo (by decide)).tr (c2.mo (by decide)))
  have xa : zEx [(4, 7), (0, 5), (0, 6), (0, 7), (0, 8), (4, 3), (4, 4), (4, 5), (4, 8), (4, 6)] σ σ5 := (x2.mo (by decide)).tr (xx.mo (by decide))
  refine ⟨σ5, N, ?_, zE0_x xa (by decide), (zOt_x x1 (by decide)).tr ((zOt_h w7).tr (zOt_x xx (by decide))), ⟨P5, ?_, fun q hq => ?_, ⟨by decide, fun q hq => ?_⟩⟩, ?_, ?_, ?_, fun w hw => ?_, fun r hr => ?_⟩
  · unfold f_X4_read
    rw [zlt_e, ← h1, R1, znu_e1, w1, Option.bind_some, s1, Option.bind_some, zlt_e, ← h4, c1, Option.bind_some]
  · unfold zNmL at hN ⊢
    rw [xa.1 5 0 1 (by decide), xa.1 5 0 2 (by decide), xa.2.2.2.2.1 5 0 0 (by decide)]
    exact hN
  · rw [c3 q hq, Nat.zero_testBit]
    rfl
  · rw [Nat.zero_testBit] at hq
    cases hq
  · exact (xx.2.2.1 4 0 7 (by decide)).trans ((w2.2.2.1 4 0 7 (by decide)).trans R1)
  · exact (xx.1 0 o 7 (by decide)).trans w3
  · exact (xx.1 0 o 8 (by decide)).trans w4
  · rw [xx.2.2.2.1 0 o 5 (by decide)]
    exact w5 w hw
  · rw [xx.2.2.2.1 0 o 6 (by decide)]
    exact w6 r hr
theorem X12_begin {σ σ0 : zM} {n o : Nat} (hn : n ≤ 900) (hb : ∀ i, i < 900 → zBy (zA σ 9 0 0 i) (zA σ 12 0 38 i)) (h38 : zA σ0 12 0 38 = zA σ 12 0 38) (hin : f_X12_isIn (nI n) 0 (zI σ0 12 0 19) = 1) (h16 : zI σ0 12 0 16 = nI o) (ho : o ≤ 5) : ∃ σr, f_X12_brief σ0 (nI n) = ((zwh (zLp (nI n) (zI σ0 12 0 18) (zI σ0 12 0 17)) zFu (1, σr)).bind fun q => f_X12_brief_B162 q.2 (nI n) (zI σ0 12 0 18) (zI σ0 12 0 17) q.1) ∧ zEx [(12, 39), (12, 20), (12, 19), (12, 21), (12, 23), (12, 25)] σ0 σr ∧ zRN σr (zTT σ) n 0 ∧ zI σr 12 0 23 = nI 0 ∧ zA σr 12 0 25 = zu (zA σ0 12 0 25) o 0 ∧ zI σr 12 0 19 = 0 := by
  obtain ⟨σ4, t1, t2, t3, t4, t5⟩ := X12_text hn hb h38
  obtain ⟨σ6, h6⟩ : ∃ x, x = zsA (zsI σ4 12 0 23 0) 12 0 25 o 0 := ⟨_, rfl⟩
  have x6 : zEx [(12, 23), (12, 25)] σ4 σ6 := by rw [h6]; exact (zEx_sI (by decide)).tr (zEx_sA (by decide))
  obtain ⟨σ9, b1, b2, b3⟩ := X12_blanks (p := 0) (zTr_fr t3 x6 (by decide) (by decide)) (Nat.zero_le _) ((x6.1 12 0 21 (by decide)).trans t5)
  have e18 : zI σ4 12 0 18 = zI σ0 12 0 18 := t2.1 12 0 18 (by decide)
  have e17 : zI σ4 12 0 17 = zI σ0 12 0 17 := t2.1 12 0 17 (by decide)
  have e16 : zI (zsI σ4 12 0 23 0) 12 0 16 = nI o := (t2.1 12 0 16 (by decide)).trans h16
  refine ⟨σ9, ?_, (t2.mo (by decide)).tr ((x6.mo (by decide)).tr (b2.mo (by decide))), ⟨zTr_fr (zTr_fr t3 x6 (by decide) (by decide)) b2 (by decide) (by decide), b3⟩, ?_, ?_, ?_⟩
  · unfold f_X12_brief
    rw [hin, if_neg z10, h16, if_neg (by rw [zq6, nI_eq (by omega) (by omega)]; omega), t1, Option.bind_some, zlt_e, e16, zix_n (show o < 7 by omega) (by omega), Option.bind_some, zlt_e, ← h6, b1, Option.bind_some, e18, e17]
    rfl
  · rw [b2.1 12 0 23 (by decide), h6]
    rfl
  · rw [b2.2.2.2.1 12 0 25 (by decide), h6, zA_sA, if_pos ⟨rfl, rfl, rfl⟩]
    exact congrArg (fun f => zu f o 0) (t2.2.2.2.1 12 0 25 (by decide))
  · rw [b2.1 12 0 19 (by decide), x6.1 12 0 19 (by decide)]
    exact t4
/-! what stays of the other briefs -/
theorem zSt1_8 {σ : zM} {M j i : Nat} (h : zSt1 σ M j i) (h8 : zA σ 0 j 0 i = 8) : ∃ b, zA σ 0 j 2 i = nI b ∧ b ≤ 300 := by
  rw [zSt1_e] at h
  unfold zSt1V at h
  rw [h8] at h
  rcases h with ⟨-, h, -⟩ | ⟨⟨-, h⟩ | ⟨-, h⟩, -⟩ | ⟨-, h, -⟩ | ⟨-, -, node, a, b, V, D, -, -, g3, -, g5, -⟩ | ⟨-, -, -, -, -, -, h⟩
  · exact absurd h (by decide)
  · exact absurd h (by decide)
  · exact absurd h (by decide)
  · exact absurd h (by decide)
  · exact ⟨b, g3, g5⟩
  · exact absurd rfl h
theorem iBr1_tr {σ σ2 : zM} {M M' j o : Nat} (hj : j < o) (hM : M ≤ M') (ot : zOt σ σ2 o) (hr : ∀ k, k = 27 ∨ k = 28 ∨ k = 29 ∨ k = 30 → ∀ x, x < 40 * o → zA σ2 12 0 k x = zA σ 12 0 k x) (h25 : zA σ2 12 0 25 j = zA σ 12 0 25 j) (h26 : zA σ2 12 0 26 j = zA σ 12 0 26 j) (hb : zBel (znd σ) (znd σ2) M) (h : iBr1 σ M j) : iBr1 σ2 M' j := by
  obtain ⟨n, h1, h2, h3, h4, h5, h6, h7, h8, h9⟩ := h
  have oj := ot j (by omega)
  refine ⟨n, h1, (oj.2 7 (by omega)).trans h2, h25.trans h3, by rw [h26, oj.2 9 (by omega)]; exact h4, by rw [h26]; exact h5, fun w hw => ?_, by rw [oj.1 5 (by omega)]; exact h7, fun r r1 r2 => ?_, fun i hi => ?_⟩
  · rw [oj.1 5 (by omega), zTlS_c (S := zfrom (zA σ 12 0 27) (40 * j)) (F1 := zfrom (zA σ 12 0 28) (40 * j)) (F2 := zfrom (zA σ 12 0 29) (40 * j)) (F3 := zfrom (zA σ 12 0 30) (40 * j)) (S' := zfrom (zA σ2 12 0 27) (40 * j)) (F1' := zfrom (zA σ2 12 0 28) (40 * j)) (F2' := zfrom (zA σ2 12 0 29) (40 * j)) (F3' := zfrom (zA σ2 12 0 30) (40 * j)) n (fun i hi => ⟨hr 27 (by omega) (40 * j + i) (by omega), hr 28 (by omega) (40 * j + i) (by omega), hr 29 (by omega) (40 * j + i) (by omega), hr 30 (by omega) (40 * j + i) (by omega)⟩)]
    exact h6 w hw
  · rw [oj.1 6 (by omega), zRtS_c (S := zfrom (zA σ 12 0 27) (40 * j)) (F1 := zfrom (zA σ 12 0 28) (40 * j)) (F2 := zfrom (zA σ 12 0 29) (40 * j)) (S' := zfrom (zA σ2 12 0 27) (40 * j)) (F1' := zfrom (zA σ2 12 0 28) (40 * j)) (F2' := zfrom (zA σ2 12 0 29) (40 * j)) n (fun i hi => ⟨hr 27 (by omega) (40 * j + i) (by omega), hr 28 (by omega) (40 * j + i) (by omega), hr 29 (by omega) (40 * j + i) (by omega)⟩)]
    exact h8 r r1 r2
  · exact zSt1_tr (c := 300) hM ⟨fun k hk => hr k hk (40 * j + i) (by omega), fun k hk => congrFun (oj.1 k (by omega)) i⟩ hb (fun x _ => congrFun (oj.1 4 (by omega)) x) (zSt1_8 (h9 i hi)) (Nat.le_refl _) (h9 i hi)
theorem iBar_tr {σ σ2 : zM} {o : Nat} (ho : o < 7) (ot : zOt σ σ2 o) (h : iBar σ) : iBar σ2 := by
  have o7 := ot 7 (by omega)
  unfold iBar at h ⊢
  rw [o7.2 7 (by omega), o7.1 5 (by omega), o7.1 6 (by omega)]
  exact h
theorem iMen_oth {σ σ' : zM} {n o : Nat} (hd : ∀ q ∈ ([(8, 4), (8, 3), (12, 1), (12, 2), (12, 10), (12, 11), (12, 12), (12, 13), (12, 3), (12, 5), (12, 6), (12, 0), (12, 16), (12, 26)] : List (Nat × Nat)), zFe q σ σ') (h16 : zI σ 12 0 16 = nI o) (ho : o ≤ 5) (ot : zOt σ σ' o) (hi : iMen n σ) : iMen n σ' := by
  have e0 : ∀ i, zI σ' 8 i 4 = zI σ 8 i 4 := (hd (8, 4) (by simp)).1
  have e1 : ∀ i, zA σ' 8 i 3 = zA σ 8 i 3 := (hd (8, 3) (by simp)).2.2.2.1
  have e2 : ∀ i, zI σ' 12 i 1 = zI σ 12 i 1 := (hd (12, 1) (by simp)).1
  have e3 : ∀ i, zI σ' 12 i 2 = zI σ 12 i 2 := (hd (12, 2) (by simp)).1
  have e4 : ∀ i, zA σ' 12 i 10 = zA σ 12 i 10 := (hd (12, 10) (by simp)).2.2.2.1
  have e5 : ∀ i, zA σ' 12 i 11 = zA σ 12 i 11 := (hd (12, 11) (by simp)).2.2.2.1
  have e6 : ∀ i, zA σ' 12 i 12 = zA σ 12 i 12 := (hd (12, 12) (by simp)).2.2.2.1
  have e7 : ∀ i, zA σ' 12 i 13 = zA σ 12 i 13 := (hd (12, 13) (by simp)).2.2.2.1
  have g_zCl := zCl_fr (fun q hq => hd q (zsb (by decide) hq))
  have g_zOn := zOn_fr (fun q hq => hd q (zsb (by decide) hq))
  have g_zdt := zdt_fr (fun q hq => hd q (zsb (by decide) hq))
  have g_zSn := zSn_fr (fun q hq => hd q (zsb (by decide) hq))
  have g_zMs : zMs σ' = zMs σ := by
    funext s
    have hj : zOn σ (zdt σ s) ≠ o := by
      rw [zOn_e h16 (by omega)]
      rcases zonN_lt (zA σ 12 0 26) (zdt σ s) o with h | h <;> omega
    have oj := ot _ hj
    unfold zMs
    rw [g_zCl, g_zOn, g_zdt, g_zSn]
    unfold zbv zns
    rw [oj.1 0 (by omega), oj.1 1 (by omega), oj.1 2 (by omega), oj.1 3 (by omega), oj.1 4 (by omega), oj.1 5 (by omega), oj.1 6 (by omega), oj.2 7 (by omega)]
  simp only [iMen, g_zMs, e0, e1, e2, e3, e4, e5, e6, e7] at hi ⊢
  exact hi
theorem zNam {σ : zM} (h : iNam σ) : ∃ W k, zNmL σ W k 0 ∧ zNmS σ W k := by
  obtain ⟨k, h1, h2, h3, h4, h5⟩ := h
  have hc : ∀ j, ∃ r, j < k → zLr r ∧ zL σ 5 0 0 j = lN (zQn 32 0 r) ∧ zL σ 12 0 37 (j + 1) = lN (zQn 256 96 r) := fun j => by
    by_cases e : j < k
    · obtain ⟨r, g⟩ := zWd_r (h5 j e)
      exact ⟨r, fun _ => g⟩
    · exact ⟨[], fun g => absurd g e⟩
  refine ⟨fun j => Classical.choose (hc j), k, ⟨by omega, h2, h3, fun j hj => ?_⟩, ⟨h1, h4, fun j hj => ?_⟩⟩
  · have g := Classical.choose_spec (hc j) (by omega)
    exact ⟨g.1, g.2.1⟩
  · have g := Classical.choose_spec (hc j) hj
    exact ⟨g.1, g.2.2⟩
