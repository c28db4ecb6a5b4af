/-- a field is as it was, in every object -/
def zFe (q : Nat × Nat) (σ σ' : zM) : Prop := (∀ i, zI σ' q.1 i q.2 = zI σ q.1 i q.2) ∧ (∀ i, zJ σ' q.1 i q.2 = zJ σ q.1 i q.2) ∧ (∀ i, zR σ' q.1 i q.2 = zR σ q.1 i q.2) ∧ (∀ i, zA σ' q.1 i q.2 = zA σ q.1 i q.2) ∧ (∀ i, zL σ' q.1 i q.2 = zL σ q.1 i q.2) ∧ ∀ i, zO σ' q.1 i q.2 = zO σ q.1 i q.2
theorem zFe_of {F L : List (Nat × Nat)} {σ σ' : zM} (h : zEx F σ σ') (hd0 : L.all (fun q => !F.contains q) = true) : ∀ q ∈ L, zFe q σ σ' := fun q hq => by
  have hn : (q.1, q.2) ∉ F := fun hm => by
    have h1 := List.all_eq_true.mp hd0 q hq
    rw [List.contains_iff_mem.mpr hm] at h1
    cases h1
  exact ⟨fun i => h.1 _ i _ hn, fun i => h.2.1 _ i _ hn, fun i => h.2.2.1 _ i _ hn, fun i => h.2.2.2.1 _ i _ hn, fun i => h.2.2.2.2.1 _ i _ hn, fun i => h.2.2.2.2.2 _ i _ hn⟩
theorem zFe.tr {q : Nat × Nat} {σ σ1 σ2 : zM} (h : zFe q σ σ1) (g : zFe q σ1 σ2) : zFe q σ σ2 := ⟨fun i => (g.1 i).trans (h.1 i), fun i => (g.2.1 i).trans (h.2.1 i), fun i => (g.2.2.1 i).trans (h.2.2.1 i), fun i => (g.2.2.2.1 i).trans (h.2.2.2.1 i), fun i => (g.2.2.2.2.1 i).trans (h.2.2.2.2.1 i), fun i => (g.2.2.2.2.2 i).trans (h.2.2.2.2.2 i)⟩
theorem zsb {L M : List (Nat × Nat)} (h : L.all (fun q => M.contains q) = true) {q : Nat × Nat} (hq : q ∈ L) : q ∈ M := List.contains_iff_mem.mp (List.all_eq_true.mp h q hq)
theorem zCl_fr {σ σ' : zM} (hd : ∀ q ∈ ([(12, 3)] : List (Nat × Nat)), zFe q σ σ') : zCl σ' = zCl σ := by
  have e0 : ∀ i, zA σ' 12 i 3 = zA σ 12 i 3 := (hd (12, 3) (by simp)).2.2.2.1
  funext s k
  simp only [zCl, e0]
theorem zbv_fr {σ σ' : zM} (hd : ∀ q ∈ ([(0, 0), (0, 1), (0, 2), (0, 3), (0, 4), (0, 5), (0, 6)] : List (Nat × Nat)), zFe q σ σ') : zbv σ' = zbv σ := by
  have e0 : ∀ i, zA σ' 0 i 0 = zA σ 0 i 0 := (hd (0, 0) (by simp)).2.2.2.1
  have e1 : ∀ i, zA σ' 0 i 1 = zA σ 0 i 1 := (hd (0, 1) (by simp)).2.2.2.1
  have e2 : ∀ i, zA σ' 0 i 2 = zA σ 0 i 2 := (hd (0, 2) (by simp)).2.2.2.1
  have e3 : ∀ i, zA σ' 0 i 3 = zA σ 0 i 3 := (hd (0, 3) (by simp)).2.2.2.1
  have e4 : ∀ i, zA σ' 0 i 4 = zA σ 0 i 4 := (hd (0, 4) (by simp)).2.2.2.1
  have e5 : ∀ i, zA σ' 0 i 5 = zA σ 0 i 5 := (hd (0, 5) (by simp)).2.2.2.1
  have e6 : ∀ i, zA σ' 0 i 6 = zA σ 0 i 6 := (hd (0, 6) (by simp)).2.2.2.1
  funext o
  simp only [zbv, e0, e1, e2, e3, e4, e5, e6]
theorem zOn_fr {σ σ' : zM} (hd : ∀ q ∈ ([(12, 26), (12, 16)] : List (Nat × Nat)), zFe q σ σ') : zOn σ' = zOn σ := by
  have e0 : ∀ i, zA σ' 12 i 26 = zA σ 12 i 26 := (hd (12, 26) (by simp)).2.2.2.1
  have e1 : ∀ i, zI σ' 12 i 16 = zI σ 12 i 16 := (hd (12, 16) (by simp)).1
  funext t
  simp only [zOn, e0, e1]
theorem zdt_fr {σ σ' : zM} (hd : ∀ q ∈ ([(12, 5), (12, 0)] : List (Nat × Nat)), zFe q σ σ') : zdt σ' = zdt σ := by
  have e0 : ∀ i, zA σ' 12 i 5 = zA σ 12 i 5 := (hd (12, 5) (by simp)).2.2.2.1
  have e1 : ∀ i, zI σ' 12 i 0 = zI σ 12 i 0 := (hd (12, 0) (by simp)).1
  funext s
  simp only [zdt, e0, e1]
theorem zSn_fr {σ σ' : zM} (hd : ∀ q ∈ ([(12, 6)] : List (Nat × Nat)), zFe q σ σ') : zSn σ' = zSn σ := by
  have e0 : ∀ i, zA σ' 12 i 6 = zA σ 12 i 6 := (hd (12, 6) (by simp)).2.2.2.1
  funext i
  simp only [zSn, e0]
theorem zns_fr {σ σ' : zM} (hd : ∀ q ∈ ([(0, 7)] : List (Nat × Nat)), zFe q σ σ') : zns σ' = zns σ := by
  have e0 : ∀ i, zI σ' 0 i 7 = zI σ 0 i 7 := (hd (0, 7) (by simp)).1
  funext o
  simp only [zns, e0]
theorem znd_fr {σ σ' : zM} (hd : ∀ q ∈ ([(12, 31), (12, 32), (12, 33), (12, 34), (12, 35), (12, 36)] : List (Nat × Nat)), zFe q σ σ') : znd σ' = znd σ := by
  have e0 : ∀ i, zA σ' 12 i 31 = zA σ 12 i 31 := (hd (12, 31) (by simp)).2.2.2.1
  have e1 : ∀ i, zA σ' 12 i 32 = zA σ 12 i 32 := (hd (12, 32) (by simp)).2.2.2.1
  have e2 : ∀ i, zA σ' 12 i 33 = zA σ 12 i 33 := (hd (12, 33) (by simp)).2.2.2.1
  have e3 : ∀ i, zA σ' 12 i 34 = zA σ 12 i 34 := (hd (12, 34) (by simp)).2.2.2.1
  have e4 : ∀ i, zA σ' 12 i 35 = zA σ 12 i 35 := (hd (12, 35) (by simp)).2.2.2.1
  have e5 : ∀ i, zA σ' 12 i 36 = zA σ 12 i 36 := (hd (12, 36) (by simp)).2.2.2.1
  unfold znd
  rw [e0, e1, e2, e3, e4, e5]
theorem zMs_fr {σ σ' : zM} (hd : ∀ q ∈ ([(12, 3), (0, 0), (0, 1), (0, 2), (0, 3), (0, 4), (0, 5), (0, 6), (12, 26), (12, 16), (12, 5), (12, 0), (12, 6), (0, 7)] : List (Nat × Nat)), zFe q σ σ') : zMs σ' = zMs σ := by
  funext s
  simp only [zMs, zCl_fr (fun q hq => hd q (zsb (by decide) hq)), zbv_fr (fun q hq => hd q (zsb (by decide) hq)), zOn_fr (fun q hq => hd q (zsb (by decide) hq)), zdt_fr (fun q hq => hd q (zsb (by decide) hq)), zSn_fr (fun q hq => hd q (zsb (by decide) hq)), zns_fr (fun q hq => hd q (zsb (by decide) hq))]
def fp_iDay : List (Nat × Nat) := [(11, 10), (12, 0)]
theorem iDay_fe {σ σ' : zM} (hd0 : ∀ q ∈ fp_iDay, zFe q σ σ') (hi : iDay σ) : iDay σ' := by
  have hd : ∀ q ∈ ([(11, 10), (12, 0)] : List (Nat × Nat)), zFe q σ σ' := hd0
  have e0 : ∀ i, zI σ' 11 i 10 = zI σ 11 i 10 := (hd (11, 10) (by simp)).1
  have e1 : ∀ i, zI σ' 12 i 0 = zI σ 12 i 0 := (hd (12, 0) (by simp)).1
  simp only [iDay, e0, e1] at hi ⊢
  exact hi
theorem iDay_fr {F : List (Nat × Nat)} {σ σ' : zM} (h : zEx F σ σ') (hd0 : fp_iDay.all (fun q => !F.contains q) = true) (hi : iDay σ) : iDay σ' := iDay_fe (zFe_of h hd0) hi
def fp_iFlt : List (Nat × Nat) := [(11, 11), (12, 24)]
theorem iFlt_fe {σ σ' : zM} (hd0 : ∀ q ∈ fp_iFlt, zFe q σ σ') (hi : iFlt σ) : iFlt σ' := by
  have hd : ∀ q ∈ ([(11, 11), (12, 24)] : List (Nat × Nat)), zFe q σ σ' := hd0
  have e0 : ∀ i, zI σ' 11 i 11 = zI σ 11 i 11 := (hd (11, 11) (by simp)).1
  have e1 : ∀ i, zI σ' 12 i 24 = zI σ 12 i 24 := (hd (12, 24) (by simp)).1
  simp only [iFlt, e0, e1] at hi ⊢
  exact hi
theorem iFlt_fr {F : List (Nat × Nat)} {σ σ' : zM} (h : zEx F σ σ') (hd0 : fp_iFlt.all (fun q => !F.contains q) = true) (hi : iFlt σ) : iFlt σ' := iFlt_fe (zFe_of h hd0) hi
def fp_iTap : List (Nat × Nat) := [(9, 1), (12, 19), (9, 0), (12, 38)]
theorem iTap_fe {σ σ' : zM} (hd0 : ∀ q ∈ fp_iTap, zFe q σ σ') (hi : iTap σ) : iTap σ' := by
  have hd : ∀ q ∈ ([(9, 1), (12, 19), (9, 0), (12, 38)] : List (Nat × Nat)), zFe q σ σ' := hd0
  have e0 : ∀ i, zI σ' 9 i 1 = zI σ 9 i 1 := (hd (9, 1) (by simp)).1
  have e1 : ∀ i, zI σ' 12 i 19 = zI σ 12 i 19 := (hd (12, 19) (by simp)).1
  have e2 : ∀ i, zA σ' 9 i 0 = zA σ 9 i 0 := (hd (9, 0) (by simp)).2.2.2.1
  have e3 : ∀ i, zA σ' 12 i 38 = zA σ 12 i 38 := (hd (12, 38) (by simp)).2.2.2.1
  simp only [iTap, e0, e1, e2, e3] at hi ⊢
  exact hi
theorem iTap_fr {F : List (Nat × Nat)} {σ σ' : zM} (h : zEx F σ σ') (hd0 : fp_iTap.all (fun q => !F.contains q) = true) (hi : iTap σ) : iTap σ' := iTap_fe (zFe_of h hd0) hi
def fp_iNam : List (Nat × Nat) := [(5, 1), (5, 2), (12, 17), (5, 0), (12, 37)]
theorem iNam_fe {σ σ' : zM} (hd0 : ∀ q ∈ fp_iNam, zFe q σ σ') (hi : iNam σ) : iNam σ' := by
  have hd : ∀ q ∈ ([(5, 1), (5, 2), (12, 17), (5, 0), (12, 37)] : List (Nat × Nat)), zFe q σ σ' := hd0
  have e0 : ∀ i, zI σ' 5 i 1 = zI σ 5 i 1 := (hd (5, 1) (by simp)).1
  have e1 : ∀ i, zI σ' 5 i 2 = zI σ 5 i 2 := (hd (5, 2) (by simp)).1
  have e2 : ∀ i, zI σ' 12 i 17 = zI σ 12 i 17 := (hd (12, 17) (by simp)).1
  have e3 : ∀ i, zL σ' 5 i 0 = zL σ 5 i 0 := (hd (5, 0) (by simp)).2.2.2.2.1
  have e4 : ∀ i, zL σ' 12 i 37 = zL σ 12 i 37 := (hd (12, 37) (by simp)).2.2.2.2.1
  simp only [iNam, e0, e1, e2, e3, e4] at hi ⊢
  exact hi
theorem iNam_fr {F : List (Nat × Nat)} {σ σ' : zM} (h : zEx F σ σ') (hd0 : fp_iNam.all (fun q => !F.contains q) = true) (hi : iNam σ) : iNam σ' := iNam_fe (zFe_of h hd0) hi
def fp_iSun : List (Nat × Nat) := [(8, 0), (12, 6)]
theorem iSun_fe {σ σ' : zM} (hd0 : ∀ q ∈ fp_iSun, zFe q σ σ') (hi : iSun σ) : iSun σ' := by
  have hd : ∀ q ∈ ([(8, 0), (12, 6)] : List (Nat × Nat)), zFe q σ σ' := hd0
  have e0 : ∀ i, zA σ' 8 i 0 = zA σ 8 i 0 := (hd (8, 0) (by simp)).2.2.2.1
  have e1 : ∀ i, zA σ' 12 i 6 = zA σ 12 i 6 := (hd (12, 6) (by simp)).2.2.2.1
  simp only [iSun, e0, e1] at hi ⊢
  exact hi
theorem iSun_fr {F : List (Nat × Nat)} {σ σ' : zM} (h : zEx F σ σ') (hd0 : fp_iSun.all (fun q => !F.contains q) = true) (hi : iSun σ) : iSun σ' := iSun_fe (zFe_of h hd0) hi
def fp_iSch : List (Nat × Nat) := [(11, 12), (12, 1), (11, 7), (7, 0), (12, 4), (7, 1), (12, 5), (12, 3), (7, 2), (7, 3), (7, 4), (7, 5)]
theorem iSch_fe {σ σ' : zM} (hd0 : ∀ q ∈ fp_iSch, zFe q σ σ') (hi : iSch σ) : iSch σ' := by
  have hd : ∀ q ∈ ([(11, 12), (12, 1), (11, 7), (7, 0), (12, 4), (7, 1), (12, 5), (12, 3), (7, 2), (7, 3), (7, 4), (7, 5)] : List (Nat × Nat)), zFe q σ σ' := hd0
  have e0 : ∀ i, zI σ' 11 i 12 = zI σ 11 i 12 := (hd (11, 12) (by simp)).1
  have e1 : ∀ i, zI σ' 12 i 1 = zI σ 12 i 1 := (hd (12, 1) (by simp)).1
  have e2 : ∀ i, zO σ' 11 i 7 = zO σ 11 i 7 := (hd (11, 7) (by simp)).2.2.2.2.2
  have e3 : ∀ i, zI σ' 7 i 0 = zI σ 7 i 0 := (hd (7, 0) (by simp)).1
  have e4 : ∀ i, zA σ' 12 i 4 = zA σ 12 i 4 := (hd (12, 4) (by simp)).2.2.2.1
  have e5 : ∀ i, zI σ' 7 i 1 = zI σ 7 i 1 := (hd (7, 1) (by simp)).1
  have e6 : ∀ i, zA σ' 12 i 5 = zA σ 12 i 5 := (hd (12, 5) (by simp)).2.2.2.1
  have e7 : ∀ i, zA σ' 12 i 3 = zA σ 12 i 3 := (hd (12, 3) (by simp)).2.2.2.1
  have e8 : ∀ i, zA σ' 7 i 2 = zA σ 7 i 2 := (hd (7, 2) (by simp)).2.2.2.1
  have e9 : ∀ i, zA σ' 7 i 3 = zA σ 7 i 3 := (hd (7, 3) (by simp)).2.2.2.1
  have e10 : ∀ i, zA σ' 7 i 4 = zA σ 7 i 4 := (hd (7, 4) (by simp)).2.2.2.1
  have e11 : ∀ i, zI σ' 7 i 5 = zI σ 7 i 5 := (hd (7, 5) (by simp)).1
  have g_zCl := zCl_fr (fun q hq => hd q (zsb (by decide) hq))
  simp only [iSch, iSch1, zCR, g_zCl, e0, e1, e2, e3, e4, e5, e6, e7, e8, e9, e10, e11] at hi ⊢
  exact hi
theorem iSch_fr {F : List (Nat × Nat)} {σ σ' : zM} (h : zEx F σ σ') (hd0 : fp_iSch.all (fun q => !F.contains q) = true) (hi : iSch σ) : iSch σ' := iSch_fe (zFe_of h hd0) hi
def fp_iPai : List (Nat × Nat) := [(11, 13), (12, 14), (12, 15)]
theorem iPai_fe {σ σ' : zM} (hd0 : ∀ q ∈ fp_iPai, zFe q σ σ') (hi : iPai σ) : iPai σ' := by
  have hd : ∀ q ∈ ([(11, 13), (12, 14), (12, 15)] : List (Nat × Nat)), zFe q σ σ' := hd0
  have e0 : ∀ i, zJ σ' 11 i 13 = zJ σ 11 i 13 := (hd (11, 13) (by simp)).2.1
  have e1 : ∀ i, zA σ' 12 i 14 = zA σ 12 i 14 := (hd (12, 14) (by simp)).2.2.2.1
  have e2 : ∀ i, zI σ' 12 i 15 = zI σ 12 i 15 := (hd (12, 15) (by simp)).1
  simp only [iPai, e0, e1, e2] at hi ⊢
  exact hi
theorem iPai_fr {F : List (Nat × Nat)} {σ σ' : zM} (h : zEx F σ σ') (hd0 : fp_iPai.all (fun q => !F.contains q) = true) (hi : iPai σ) : iPai σ' := iPai_fe (zFe_of h hd0) hi
def fp_iQue : List (Nat × Nat) := [(3, 0), (12, 42), (3, 4), (12, 43), (3, 5), (12, 44), (3, 1), (12, 45), (3, 2), (12, 46), (3, 3), (12, 47)]
theorem iQue_fe {σ σ' : zM} (hd0 : ∀ q ∈ fp_iQue, zFe q σ σ') (hi : iQue σ) : iQue σ' := by
  have hd : ∀ q ∈ ([(3, 0), (12, 42), (3, 4), (12, 43), (3, 5), (12, 44), (3, 1), (12, 45), (3, 2), (12, 46), (3, 3), (12, 47)] : List (Nat × Nat)), zFe q σ σ' := hd0
  have e0 : ∀ i, zL σ' 3 i 0 = zL σ 3 i 0 := (hd (3, 0) (by simp)).2.2.2.2.1
  have e1 : ∀ i, zL σ' 12 i 42 = zL σ 12 i 42 := (hd (12, 42) (by simp)).2.2.2.2.1
  have e2 : ∀ i, zI σ' 3 i 4 = zI σ 3 i 4 := (hd (3, 4) (by simp)).1
  have e3 : ∀ i, zI σ' 12 i 43 = zI σ 12 i 43 := (hd (12, 43) (by simp)).1
  have e4 : ∀ i, zI σ' 3 i 5 = zI σ 3 i 5 := (hd (3, 5) (by simp)).1
  have e5 : ∀ i, zI σ' 12 i 44 = zI σ 12 i 44 := (hd (12, 44) (by simp)).1
  have e6 : ∀ i, zA σ' 3 i 1 = zA σ 3 i 1 := (hd (3, 1) (by simp)).2.2.2.1
  have e7 : ∀ i, zA σ' 12 i 45 = zA σ 12 i 45 := (hd (12, 45) (by simp)).2.2.2.1
  have e8 : ∀ i, zA σ' 3 i 2 = zA σ 3 i 2 := (hd (3, 2) (by simp)).2.2.2.1
  have e9 : ∀ i, zA σ' 12 i 46 = zA σ 12 i 46 := (hd (12, 46) (by simp)).2.2.2.1
  have e10 : ∀ i, zA σ' 3 i 3 = zA σ 3 i 3 := (hd (3, 3) (by simp)).2.2.2.1
  have e11 : ∀ i, zA σ' 12 i 47 = zA σ 12 i 47 := (hd (12, 47) (by simp)).2.2.2.1
  simp only [iQue, e0, e1, e2, e3, e4, e5, e6, e7, e8, e9, e10, e11] at hi ⊢
  exact hi
theorem iQue_fr {F : List (Nat × Nat)} {σ σ' : zM} (h : zEx F σ σ') (hd0 : fp_iQue.all (fun q => !F.contains q) = true) (hi : iQue σ) : iQue σ' := iQue_fe (zFe_of h hd0) hi
def fp_iPan : List (Nat × Nat) := [(2, 1), (12, 48), (2, 0), (12, 55)]
theorem iPan_fe {σ σ' : zM} (hd0 : ∀ q ∈ fp_iPan, zFe q σ σ') (hi : iPan σ) : iPan σ' := by
  have hd : ∀ q ∈ ([(2, 1), (12, 48), (2, 0), (12, 55)] : List (Nat × Nat)), zFe q σ σ' := hd0
  have e0 : ∀ i, zI σ' 2 i 1 = zI σ 2 i 1 := (hd (2, 1) (by simp)).1
  have e1 : ∀ i, zI σ' 12 i 48 = zI σ 12 i 48 := (hd (12, 48) (by simp)).1
  have e2 : ∀ i, zA σ' 2 i 0 = zA σ 2 i 0 := (hd (2, 0) (by simp)).2.2.2.1
  have e3 : ∀ i, zA σ' 12 i 55 = zA σ 12 i 55 := (hd (12, 55) (by simp)).2.2.2.1
  simp only [iPan, e0, e1, e2, e3] at hi ⊢
  exact hi
theorem iPan_fr {F : List (Nat × Nat)} {σ σ' : zM} (h : zEx F σ σ') (hd0 : fp_iPan.all (fun q => !F.contains q) = true) (hi : iPan σ) : iPan σ' := iPan_fe (zFe_of h hd0) hi
def fp_iWds : List (Nat × Nat) := [(10, 0)]
theorem iWds_fe {σ σ' : zM} (hd0 : ∀ q ∈ fp_iWds, zFe q σ σ') (hi : iWds σ) : iWds σ' := by
  have hd : ∀ q ∈ ([(10, 0)] : List (Nat × Nat)), zFe q σ σ' := hd0
  have e0 : ∀ i, zL σ' 10 i 0 = zL σ 10 i 0 := (hd (10, 0) (by simp)).2.2.2.2.1
  simp only [iWds, e0] at hi ⊢
  exact hi
theorem iWds_fr {F : List (Nat × Nat)} {σ σ' : zM} (h : zEx F σ σ') (hd0 : fp_iWds.all (fun q => !F.contains q) = true) (hi : iWds σ) : iWds σ' := iWds_fe (zFe_of h hd0) hi
def fp_iBri : List (Nat × Nat) := [(0, 7), (0, 9), (0, 0), (0, 1), (0, 2), (0, 3), (0, 4), (0, 5), (0, 6), (1, 2), (1, 3), (1, 0), (12, 16), (12, 18), (12, 25), (12, 26), (12, 27), (12, 28), (12, 29), (12, 30), (12, 31), (12, 32), (12, 33), (12, 34), (12, 35), (12, 36)]
theorem iBri_fe {σ σ' : zM} (hd0 : ∀ q ∈ fp_iBri, zFe q σ σ') (hi : iBri σ) : iBri σ' := by
  have hd : ∀ q ∈ ([(0, 7), (0, 9), (0, 0), (0, 1), (0, 2), (0, 3), (0, 4), (0, 5), (0, 6), (1, 2), (1, 3), (1, 0), (12, 16), (12, 18), (12, 25), (12, 26), (12, 27), (12, 28), (12, 29), (12, 30), (12, 31), (12, 32), (12, 33), (12, 34), (12, 35), (12, 36)] : List (Nat × Nat)), zFe q σ σ' := hd0
  have e0 : ∀ i, zI σ' 0 i 7 = zI σ 0 i 7 := (hd (0, 7) (by simp)).1
  have e1 : ∀ i, zI σ' 0 i 9 = zI σ 0 i 9 := (hd (0, 9) (by simp)).1
  have e2 : ∀ i, zA σ' 0 i 0 = zA σ 0 i 0 := (hd (0, 0) (by simp)).2.2.2.1
  have e3 : ∀ i, zA σ' 0 i 1 = zA σ 0 i 1 := (hd (0, 1) (by simp)).2.2.2.1
  have e4 : ∀ i, zA σ' 0 i 2 = zA σ 0 i 2 := (hd (0, 2) (by simp)).2.2.2.1
  have e5 : ∀ i, zA σ' 0 i 3 = zA σ 0 i 3 := (hd (0, 3) (by simp)).2.2.2.1
  have e6 : ∀ i, zA σ' 0 i 4 = zA σ 0 i 4 := (hd (0, 4) (by simp)).2.2.2.1
  have e7 : ∀ i, zA σ' 0 i 5 = zA σ 0 i 5 := (hd (0, 5) (by simp)).2.2.2.1
  have e8 : ∀ i, zA σ' 0 i 6 = zA σ 0 i 6 := (hd (0, 6) (by simp)).2.2.2.1
  have e9 : ∀ i, zI σ' 1 i 2 = zI σ 1 i 2 := (hd (1, 2) (by simp)).1
  have e10 : ∀ i, zR σ' 1 i 3 = zR σ 1 i 3 := (hd (1, 3) (by simp)).2.2.1
  have e11 : ∀ i, zO σ' 1 i 0 = zO σ 1 i 0 := (hd (1, 0) (by simp)).2.2.2.2.2
  have e12 : ∀ i, zI σ' 12 i 16 = zI σ 12 i 16 := (hd (12, 16) (by simp)).1
  have e13 : ∀ i, zI σ' 12 i 18 = zI σ 12 i 18 := (hd (12, 18) (by simp)).1
  have e14 : ∀ i, zA σ' 12 i 25 = zA σ 12 i 25 := (hd (12, 25) (by simp)).2.2.2.1
  have e15 : ∀ i, zA σ' 12 i 26 = zA σ 12 i 26 := (hd (12, 26) (by simp)).2.2.2.1
  have e16 : ∀ i, zA σ' 12 i 27 = zA σ 12 i 27 := (hd (12, 27) (by simp)).2.2.2.1
  have e17 : ∀ i, zA σ' 12 i 28 = zA σ 12 i 28 := (hd (12, 28) (by simp)).2.2.2.1
  have e18 : ∀ i, zA σ' 12 i 29 = zA σ 12 i 29 := (hd (12, 29) (by simp)).2.2.2.1
  have e19 : ∀ i, zA σ' 12 i 30 = zA σ 12 i 30 := (hd (12, 30) (by simp)).2.2.2.1
  have e20 : ∀ i, zA σ' 12 i 31 = zA σ 12 i 31 := (hd (12, 31) (by simp)).2.2.2.1
  have e21 : ∀ i, zA σ' 12 i 32 = zA σ 12 i 32 := (hd (12, 32) (by simp)).2.2.2.1
  have e22 : ∀ i, zA σ' 12 i 33 = zA σ 12 i 33 := (hd (12, 33) (by simp)).2.2.2.1
  have e23 : ∀ i, zA σ' 12 i 34 = zA σ 12 i 34 := (hd (12, 34) (by simp)).2.2.2.1
  have e24 : ∀ i, zA σ' 12 i 35 = zA σ 12 i 35 := (hd (12, 35) (by simp)).2.2.2.1
  have e25 : ∀ i, zA σ' 12 i 36 = zA σ 12 i 36 := (hd (12, 36) (by simp)).2.2.2.1
  have g_znd := znd_fr (fun q hq => hd q (zsb (by decide) hq))
  simp only [iBri, iBr1, zSt1, iBar, g_znd, e0, e1, e2, e3, e4, e5, e6, e7, e8, e9, e10, e11, e12, e13, e14, e15, e16, e17, e18, e19, e20, e21, e22, e23, e24, e25] at hi ⊢
  exact hi
theorem iBri_fr {F : List (Nat × Nat)} {σ σ' : zM} (h : zEx F σ σ') (hd0 : fp_iBri.all (fun q => !F.contains q) = true) (hi : iBri σ) : iBri σ' := iBri_fe (zFe_of h hd0) hi
def fp_iMen : List (Nat × Nat) := [(8, 4), (8, 3), (12, 1), (12, 2), (12, 10), (12, 11), (12, 12), (12, 13), (12, 3), (12, 5), (12, 6), (12, 0), (12, 16), (12, 26), (0, 7), (0, 0), (0, 1), (0, 2), (0, 3), (0, 4), (0, 5), (0, 6)]
theorem iMen_fe {σ σ' : zM} {n : Nat} (hd0 : ∀ q ∈ fp_iMen, zFe q σ σ') (hi : iMen n σ) : iMen n σ' := by
  have hd : ∀ q ∈ ([(8, 4), (8, 3), (12, 1), (12, 2), (12, 10), (12, 11), (12, 12), (12, 13), (12, 3), (12, 5), (12, 6), (12, 0), (12, 16), (12, 26), (0, 7), (0, 0), (0, 1), (0, 2), (0, 3), (0, 4), (0, 5), (0, 6)] : List (Nat × Nat)), zFe q σ σ' := hd0
  have e0 : ∀ i, zI σ' 8 i 4 = zI σ 8 i 4 := (hd (8, 4) (by simp)).1
  have e1 : ∀ i, zA σ' 8 i 3 = zA σ 8 i 3 := (hd (8, 3) (by simp)).2.2.2.1
  have e2 : ∀ i, zI σ' 12 i 1 = zI σ 12 i 1 := (hd (12, 1) (by simp)).1
  have e3 : ∀ i, zI σ' 12 i 2 = zI σ 12 i 2 := (hd (12, 2) (by simp)).1
  have e4 : ∀ i, zA σ' 12 i 10 = zA σ 12 i 10 := (hd (12, 10) (by simp)).2.2.2.1
  have e5 : ∀ i, zA σ' 12 i 11 = zA σ 12 i 11 := (hd (12, 11) (by simp)).2.2.2.1
  have e6 : ∀ i, zA σ' 12 i 12 = zA σ 12 i 12 := (hd (12, 12) (by simp)).2.2.2.1
  have e7 : ∀ i, zA σ' 12 i 13 = zA σ 12 i 13 := (hd (12, 13) (by simp)).2.2.2.1
  have e8 : ∀ i, zA σ' 12 i 3 = zA σ 12 i 3 := (hd (12, 3) (by simp)).2.2.2.1
  have e9 : ∀ i, zA σ' 12 i 5 = zA σ 12 i 5 := (hd (12, 5) (by simp)).2.2.2.1
  have e10 : ∀ i, zA σ' 12 i 6 = zA σ 12 i 6 := (hd (12, 6) (by simp)).2.2.2.1
  have e11 : ∀ i, zI σ' 12 i 0 = zI σ 12 i 0 := (hd (12, 0) (by simp)).1
  have e12 : ∀ i, zI σ' 12 i 16 = zI σ 12 i 16 := (hd (12, 16) (by simp)).1
  have e13 : ∀ i, zA σ' 12 i 26 = zA σ 12 i 26 := (hd (12, 26) (by simp)).2.2.2.1
  have e14 : ∀ i, zI σ' 0 i 7 = zI σ 0 i 7 := (hd (0, 7) (by simp)).1
  have e15 : ∀ i, zA σ' 0 i 0 = zA σ 0 i 0 := (hd (0, 0) (by simp)).2.2.2.1
  have e16 : ∀ i, zA σ' 0 i 1 = zA σ 0 i 1 := (hd (0, 1) (by simp)).2.2.2.1
  have e17 : ∀ i, zA σ' 0 i 2 = zA σ 0 i 2 := (hd (0, 2) (by simp)).2.2.2.1
  have e18 : ∀ i, zA σ' 0 i 3 = zA σ 0 i 3 := (hd (0, 3) (by simp)).2.2.2.1
  have e19 : ∀ i, zA σ' 0 i 4 = zA σ 0 i 4 := (hd (0, 4) (by simp)).2.2.2.1
  have e20 : ∀ i, zA σ' 0 i 5 = zA σ 0 i 5 := (hd (0, 5) (by simp)).2.2.2.1
  have e21 : ∀ i, zA σ' 0 i 6 = zA σ 0 i 6 := (hd (0, 6) (by simp)).2.2.2.1
  have g_zCl := zCl_fr (fun q hq => hd q (zsb (by decide) hq))
  have g_zbv := zbv_fr (fun q hq => hd q (zsb (by decide) hq))
  have g_zOn := zOn_fr (fun q hq => hd q (zsb (by decide) hq))
  have g_zdt := zdt_fr (fun q hq => hd q (zsb (by decide) hq))
  have g_zSn := zSn_fr (fun q hq => hd q (zsb (by decide) hq))
  have g_zns := zns_fr (fun q hq => hd q (zsb (by decide) hq))
  have g_zMs := zMs_fr (fun q hq => hd q (zsb (by decide) hq))
  simp only [iMen, g_zCl, g_zbv, g_zOn, g_zdt, g_zSn, g_zns, g_zMs, e0, e1, e2, e3, e4, e5, e6, e7, e8, e9, e10, e11, e12, e13, e14, e15, e16, e17, e18, e19, e20, e21] at hi ⊢
  exact hi
theorem iMen_fr {F : List (Nat × Nat)} {σ σ' : zM} {n : Nat} (h : zEx F σ σ') (hd0 : fp_iMen.all (fun q => !F.contains q) = true) (hi : iMen n σ) : iMen n σ' := iMen_fe (zFe_of h hd0) hi
def fp_iRnd : List (Nat × Nat) := [(12, 50), (12, 54), (12, 49), (12, 65), (12, 51), (12, 52), (12, 53), (12, 48), (12, 1), (11, 14), (11, 15), (11, 16), (11, 17), (11, 18), (6, 0), (6, 6), (6, 2), (12, 57), (6, 1), (12, 56), (12, 58), (12, 59), (6, 3), (6, 7), (12, 60), (6, 8), (12, 61)]
theorem iRnd_fe {σ σ' : zM} (hd0 : ∀ q ∈ fp_iRnd, zFe q σ σ') (hi : iRnd σ) : iRnd σ' := by
  have hd : ∀ q ∈ ([(12, 50), (12, 54), (12, 49), (12, 65), (12, 51), (12, 52), (12, 53), (12, 48), (12, 1), (11, 14), (11, 15), (11, 16), (11, 17), (11, 18), (6, 0), (6, 6), (6, 2), (12, 57), (6, 1), (12, 56), (12, 58), (12, 59), (6, 3), (6, 7), (12, 60), (6, 8), (12, 61)] : List (Nat × Nat)), zFe q σ σ' := hd0
  have e0 : ∀ i, zI σ' 12 i 50 = zI σ 12 i 50 := (hd (12, 50) (by simp)).1
  have e1 : ∀ i, zI σ' 12 i 54 = zI σ 12 i 54 := (hd (12, 54) (by simp)).1
  have e2 : ∀ i, zI σ' 12 i 49 = zI σ 12 i 49 := (hd (12, 49) (by simp)).1
  have e3 : ∀ i, zI σ' 12 i 65 = zI σ 12 i 65 := (hd (12, 65) (by simp)).1
  have e4 : ∀ i, zI σ' 12 i 51 = zI σ 12 i 51 := (hd (12, 51) (by simp)).1
  have e5 : ∀ i, zI σ' 12 i 52 = zI σ 12 i 52 := (hd (12, 52) (by simp)).1
  have e6 : ∀ i, zI σ' 12 i 53 = zI σ 12 i 53 := (hd (12, 53) (by simp)).1
  have e7 : ∀ i, zI σ' 12 i 48 = zI σ 12 i 48 := (hd (12, 48) (by simp)).1
  have e8 : ∀ i, zI σ' 12 i 1 = zI σ 12 i 1 := (hd (12, 1) (by simp)).1
  have e9 : ∀ i, zI σ' 11 i 14 = zI σ 11 i 14 := (hd (11, 14) (by simp)).1
  have e10 : ∀ i, zI σ' 11 i 15 = zI σ 11 i 15 := (hd (11, 15) (by simp)).1
  have e11 : ∀ i, zI σ' 11 i 16 = zI σ 11 i 16 := (hd (11, 16) (by simp)).1
  have e12 : ∀ i, zI σ' 11 i 17 = zI σ 11 i 17 := (hd (11, 17) (by simp)).1
  have e13 : ∀ i, zI σ' 11 i 18 = zI σ 11 i 18 := (hd (11, 18) (by simp)).1
  have e14 : ∀ i, zA σ' 6 i 0 = zA σ 6 i 0 := (hd (6, 0) (by simp)).2.2.2.1
  have e15 : ∀ i, zI σ' 6 i 6 = zI σ 6 i 6 := (hd (6, 6) (by simp)).1
  have e16 : ∀ i, zA σ' 6 i 2 = zA σ 6 i 2 := (hd (6, 2) (by simp)).2.2.2.1
  have e17 : ∀ i, zA σ' 12 i 57 = zA σ 12 i 57 := (hd (12, 57) (by simp)).2.2.2.1
  have e18 : ∀ i, zA σ' 6 i 1 = zA σ 6 i 1 := (hd (6, 1) (by simp)).2.2.2.1
  have e19 : ∀ i, zA σ' 12 i 56 = zA σ 12 i 56 := (hd (12, 56) (by simp)).2.2.2.1
  have e20 : ∀ i, zA σ' 12 i 58 = zA σ 12 i 58 := (hd (12, 58) (by simp)).2.2.2.1
  have e21 : ∀ i, zA σ' 12 i 59 = zA σ 12 i 59 := (hd (12, 59) (by simp)).2.2.2.1
  have e22 : ∀ i, zA σ' 6 i 3 = zA σ 6 i 3 := (hd (6, 3) (by simp)).2.2.2.1
  have e23 : ∀ i, zI σ' 6 i 7 = zI σ 6 i 7 := (hd (6, 7) (by simp)).1
  have e24 : ∀ i, zA σ' 12 i 60 = zA σ 12 i 60 := (hd (12, 60) (by simp)).2.2.2.1
  have e25 : ∀ i, zI σ' 6 i 8 = zI σ 6 i 8 := (hd (6, 8) (by simp)).1
  have e26 : ∀ i, zA σ' 12 i 61 = zA σ 12 i 61 := (hd (12, 61) (by simp)).2.2.2.1
  simp only [iRnd, iRnX, iRo1, iRoC, e0, e1, e2, e3, e4, e5, e6, e7, e8, e9, e10, e11, e12, e13, e14, e15, e16, e17, e18, e19, e20, e21, e22, e23, e24, e25, e26] at hi ⊢
  exact hi
theorem iRnd_fr {F : List (Nat × Nat)} {σ σ' : zM} (h : zEx F σ σ') (hd0 : fp_iRnd.all (fun q => !F.contains q) = true) (hi : iRnd σ) : iRnd σ' := iRnd_fe (zFe_of h hd0) hi
def fp_iRnX : List (Nat × Nat) := [(12, 50), (12, 54), (12, 49), (12, 65), (12, 51), (12, 52), (12, 53), (12, 48), (11, 14), (11, 15), (11, 16), (11, 17), (11, 18), (6, 0), (6, 6), (6, 2), (12, 57), (6, 1), (12, 56), (12, 58), (12, 59), (6, 3), (6, 7), (12, 60), (6, 8), (12, 61)]
theorem iRnX_fe {σ σ' : zM} {X : Int32} (hd0 : ∀ q ∈ fp_iRnX, zFe q σ σ') (hi : iRnX σ X) : iRnX σ' X := by
  have hd : ∀ q ∈ ([(12, 50), (12, 54), (12, 49), (12, 65), (12, 51), (12, 52), (12, 53), (12, 48), (11, 14), (11, 15), (11, 16), (11, 17), (11, 18), (6, 0), (6, 6), (6, 2), (12, 57), (6, 1), (12, 56), (12, 58), (12, 59), (6, 3), (6, 7), (12, 60), (6, 8), (12, 61)] : List (Nat × Nat)), zFe q σ σ' := hd0
  have e0 : ∀ i, zI σ' 12 i 50 = zI σ 12 i 50 := (hd (12, 50) (by simp)).1
  have e1 : ∀ i, zI σ' 12 i 54 = zI σ 12 i 54 := (hd (12, 54) (by simp)).1
  have e2 : ∀ i, zI σ' 12 i 49 = zI σ 12 i 49 := (hd (12, 49) (by simp)).1
  have e3 : ∀ i, zI σ' 12 i 65 = zI σ 12 i 65 := (hd (12, 65) (by simp)).1
  have e4 : ∀ i, zI σ' 12 i 51 = zI σ 12 i 51 := (hd (12, 51) (by simp)).1
  have e5 : ∀ i, zI σ' 12 i 52 = zI σ 12 i 52 := (hd (12, 52) (by simp)).1
  have e6 : ∀ i, zI σ' 12 i 53 = zI σ 12 i 53 := (hd (12, 53) (by simp)).1
  have e7 : ∀ i, zI σ' 12 i 48 = zI σ 12 i 48 := (hd (12, 48) (by simp)).1
  have e8 : ∀ i, zI σ' 11 i 14 = zI σ 11 i 14 := (hd (11, 14) (by simp)).1
  have e9 : ∀ i, zI σ' 11 i 15 = zI σ 11 i 15 := (hd (11, 15) (by simp)).1
  have e10 : ∀ i, zI σ' 11 i 16 = zI σ 11 i 16 := (hd (11, 16) (by simp)).1
  have e11 : ∀ i, zI σ' 11 i 17 = zI σ 11 i 17 := (hd (11, 17) (by simp)).1
  have e12 : ∀ i, zI σ' 11 i 18 = zI σ 11 i 18 := (hd (11, 18) (by simp)).1
  have e13 : ∀ i, zA σ' 6 i 0 = zA σ 6 i 0 := (hd (6, 0) (by simp)).2.2.2.1
  have e14 : ∀ i, zI σ' 6 i 6 = zI σ 6 i 6 := (hd (6, 6) (by simp)).1
  have e15 : ∀ i, zA σ' 6 i 2 = zA σ 6 i 2 := (hd (6, 2) (by simp)).2.2.2.1
  have e16 : ∀ i, zA σ' 12 i 57 = zA σ 12 i 57 := (hd (12, 57) (by simp)).2.2.2.1
  have e17 : ∀ i, zA σ' 6 i 1 = zA σ 6 i 1 := (hd (6, 1) (by simp)).2.2.2.1
  have e18 : ∀ i, zA σ' 12 i 56 = zA σ 12 i 56 := (hd (12, 56) (by simp)).2.2.2.1
  have e19 : ∀ i, zA σ' 12 i 58 = zA σ 12 i 58 := (hd (12, 58) (by simp)).2.2.2.1
  have e20 : ∀ i, zA σ' 12 i 59 = zA σ 12 i 59 := (hd (12, 59) (by simp)).2.2.2.1
  have e21 : ∀ i, zA σ' 6 i 3 = zA σ 6 i 3 := (hd (6, 3) (by simp)).2.2.2.1
  have e22 : ∀ i, zI σ' 6 i 7 = zI σ 6 i 7 := (hd (6, 7) (by simp)).1
  have e23 : ∀ i, zA σ' 12 i 60 = zA σ 12 i 60 := (hd (12, 60) (by simp)).2.2.2.1
  have e24 : ∀ i, zI σ' 6 i 8 = zI σ 6 i 8 := (hd (6, 8) (by simp)).1
  have e25 : ∀ i, zA σ' 12 i 61 = zA σ 12 i 61 := (hd (12, 61) (by simp)).2.2.2.1
  simp only [iRnX, iRo1, iRoC, e0, e1, e2, e3, e4, e5, e6, e7, e8, e9, e10, e11, e12, e13, e14, e15, e16, e17, e18, e19, e20, e21, e22, e23, e24, e25] at hi ⊢
  exact hi
