/-! schemes: made, handed in, a cell -/
theorem zI_clr (σ : zM) (c i c' i' k' : Nat) : zI (zclr σ c i) c' i' k' = if c' = c ∧ i' = i then 0 else zI σ c' i' k' := rfl
theorem zA_clA (σ : zM) (c i k c' i' k' : Nat) : zA (zclA σ c i k) c' i' k' = if c' = c ∧ i' = i ∧ k' = k then (fun _ => 0) else zA σ c' i' k' := rfl
theorem zEx_cA {F : List (Nat × Nat)} {σ : zM} {c i k : Nat} (h : (c, k) ∈ F) : zEx F σ (zclA σ c i k) := by
  refine ⟨fun _ _ _ _ => rfl, fun _ _ _ _ => rfl, fun _ _ _ _ => rfl, fun c' i' k' hk => ?_, fun c' i' k' hk => ?_, fun c' i' k' hk => ?_⟩
  · exact if_neg (fun e => hk (by rw [e.1, e.2.2]; exact h))
  · exact if_neg (fun e => hk (by rw [e.1, e.2.2]; exact h))
  · exact if_neg (fun e => hk (by rw [e.1, e.2.2]; exact h))
theorem zFe_clr {σ : zM} {c i : Nat} {q : Nat × Nat} (h : q.1 ≠ c) : zFe q σ (zclr σ c i) := ⟨fun _ => if_neg (fun e => h e.1), fun _ => if_neg (fun e => h e.1), fun _ => if_neg (fun e => h e.1), fun _ => rfl, fun _ => rfl, fun _ => rfl⟩
theorem zFe_x {F : List (Nat × Nat)} {σ σ' : zM} (h : zEx F σ σ') {q : Nat × Nat} (hq : q ∉ F) : zFe q σ σ' := ⟨fun i => h.1 _ i _ hq, fun i => h.2.1 _ i _ hq, fun i => h.2.2.1 _ i _ hq, fun i => h.2.2.2.1 _ i _ hq, fun i => h.2.2.2.2.1 _ i _ hq, fun i => h.2.2.2.2.2 _ i _ hq⟩
theorem zCl_c {σ σ' : zM} {s : Nat} (h : ∀ k, k < 160 → zA σ' 12 0 3 (160 * s + k) = zA σ 12 0 3 (160 * s + k)) : zCl σ' s = zCl σ s := by
  funext k
  unfold zCl
  split
  · rename_i hk
    rw [h k hk]
  · rfl
theorem iSch1_c {σ σ' : zM} {s : Nat} (h1 : zO σ' 11 0 7 s = zO σ 11 0 7 s) (h2 : zI σ' 7 s 0 = zI σ 7 s 0) (h3 : zA σ' 12 0 4 s = zA σ 12 0 4 s) (h4 : zI σ' 7 s 1 = zI σ 7 s 1) (h5 : zA σ' 12 0 5 s = zA σ 12 0 5 s) (h6 : ∀ k, k < 160 → zA σ' 12 0 3 (160 * s + k) = zA σ 12 0 3 (160 * s + k)) (h7 : zA σ' 7 s 2 = zA σ 7 s 2) (h8 : zA σ' 7 s 3 = zA σ 7 s 3) (h9 : zA σ' 7 s 4 = zA σ 7 s 4) (h10 : zI σ' 7 s 5 = zI σ 7 s 5) (h : iSch1 σ s) : iSch1 σ' s := by
  obtain ⟨g1, g2, g3, g4, g5, g6, g7, g8, g9⟩ := h
  have e := zCl_c h6
  refine ⟨by rw [h1]; exact g1, by rw [h2, h3]; exact g2, by rw [h4, h5]; exact g3, by rw [h5]; exact g4, ?_⟩
  refine ⟨fun k hk => ?_, ?_, ?_, ?_, ?_⟩
  · rw [e, h6 k hk]; exact g5 k hk
  · rw [e, h7]; exact g6
  · rw [e, h8]; exact g7
  · rw [e, h9]; exact g8
  · rw [e, h10]; exact g9
theorem zMs_at {σ σ' : zM} {s : Nat} (h1 : zCl σ' s = zCl σ s) (h2 : zSn σ' = zSn σ) (h3 : zbv σ' = zbv σ) (h4 : zOn σ' = zOn σ) (h5 : zdt σ' s = zdt σ s) (h6 : zns σ' = zns σ) : zMs σ' s = zMs σ s := by
  unfold zMs
  rw [h1, h2, h3, h4, h5, h6]
theorem iRnX_mo {σ : zM} {X Y : Int32} (hm : ∀ s, nI s < X → nI s < Y) (h : iRnX σ X) : iRnX σ Y := by
  obtain ⟨cl, op, m0, m1, m2, f, st, h1, h2, h3, h4, h5, h6, h7, h8, h9, h10, h11, h12, h13⟩ := h
  have hr : ∀ r m, iRo1 σ X r m → iRo1 σ Y r m := fun r m hh => ⟨hh.1, hh.2.1, hh.2.2.1, fun j hj => by
    obtain ⟨len, g1, g2, g3, g5, g6, g4⟩ := hh.2.2.2 j hj
    exact ⟨len, g1, g2, g3, g5, g6, fun i hi => by
      obtain ⟨s, s1, s2, s3⟩ := g4 i hi
      exact ⟨s, s1, hm s s2, s3⟩⟩⟩
  exact ⟨cl, op, m0, m1, m2, f, st, h1, h2, h3, h4, h5, h6, h7, h8, hr _ _ h9, hr _ _ h10, fun s hs => hm s (h11 s hs), h12, h13⟩
def zSchM (σ : zM) (n : Nat) (x : Int32) : zM := zsI (zsO (f_X7_init (zclr σ 7 n) n x) 11 0 7 n (some n)) 11 0 12 (nI (n + 1))
def zSchR (σ : zM) (n : Nat) (x : Int32) : zM := zsI (zsA (zsA (zSchM σ n x) 12 0 4 n x) 12 0 5 n (-1)) 12 0 1 (nI (n + 1))
theorem zSch_fe {σ : zM} {n : Nat} {x : Int32} {q : Nat × Nat} (h7 : q.1 ≠ 7) (hq : q ∉ [(11, 7), (11, 12), (12, 4), (12, 5), (12, 1)]) : zFe q σ (zSchR σ n x) := by
  refine (zFe_clr (c := 7) (i := n) h7).tr (zFe_x (F := [(7, 0), (7, 1), (7, 2), (7, 3), (7, 4), (7, 5), (11, 7), (11, 12), (12, 4), (12, 5), (12, 1)]) ?_ ?_)
  · exact (((((((((((zEx_sI (by decide)).tr (zEx_cA (by decide))).tr (zEx_cA (by decide))).tr (zEx_cA (by decide))).tr (zEx_sI (by decide))).tr (zEx_sI (by decide))).tr (zEx_sO (by decide))).tr (zEx_sI (by decide))).tr (zEx_sA (by decide))).tr (zEx_sA (by decide))).tr (zEx_sI (by decide)))
  · intro hm
    obtain ⟨a, b⟩ := q
    simp only [List.mem_cons, List.not_mem_nil, or_false, Prod.mk.injEq, not_or, ne_eq] at hm hq h7
    omega
theorem zSch_o {σ : zM} {n s : Nat} {x : Int32} (hs : s ≠ n) (k : Nat) (hk : k < 6) : zI (zSchR σ n x) 7 s k = zI σ 7 s k ∧ zA (zSchR σ n x) 7 s k = zA σ 7 s k := by
  have e : ∀ P : Prop, ¬ (7 = 7 ∧ s = n ∧ P) := fun P h => hs h.2.1
  have e2 : ¬ (7 = 7 ∧ s = n) := fun h => hs h.2
  refine ⟨?_, ?_⟩
  · simp [zSchR, zSchM, f_X7_init, zlt_e, zI_sI, zI_sA, zI_sO, zI_clr, hs, show ∀ (σ : zM) (c i k : Nat), zI (zclA σ c i k) = zI σ from fun _ _ _ _ => rfl]
  · simp [zSchR, zSchM, f_X7_init, zlt_e, zA_sI, zA_sA, zA_sO, zA_clA, hs, show ∀ (σ : zM) (c i : Nat), zA (zclr σ c i) = zA σ from fun _ _ _ => rfl]
theorem zfb0 {n : Nat} : fb_ct (fun _ => false) n = 0 := fb_ct_zero.mpr (fun _ _ => rfl)
theorem zfs0 : ∀ {n : Nat}, fb_sm (fun _ => 0) n = 0
  | 0 => rfl
  | n + 1 => by rw [fb_sm_succ, zfs0]
theorem zcnt_0 {w : Nat} (hw : 1 ≤ w) : zcnt1 (fun _ => 0) w = 0 := by
  unfold zcnt1
  exact fb_ct_zero.mpr (fun k _ => decide_eq_false (fun h => by have h' : 0 = w := h; omega))
theorem zfil_0 (t : Nat) : zfil (fun _ => 0) t = 0 := by
  unfold zfil
  exact fb_ct_zero.mpr (fun k _ => by simp)
theorem zwal_0 : zwal (fun _ => 0) = 0 := by
  unfold zwal
  have h : (fun k => fb_sm (zwl1 (fun _ => 0) k) 4) = fun _ => 0 := by
    funext k
    have h2 : zwl1 (fun _ => 0) k = fun _ => 0 := by
      funext side
      unfold zwl1
      rw [if_pos rfl]
    rw [h2, zfs0]
  rw [h, zfs0]
theorem zBd_0 (p : Nat) : zBd (fun _ => 0) p = 0 := by
  unfold zBd
  split <;> rfl
theorem ob_scheme (x1 : Int32) (n : Nat) (σ : zM) (hn : n ≤ 4096) (hI : zInv n σ) : ∃ r σ1 σ2, f_X11_scheme σ (zSc σ) x1 = some (r, σ1) ∧ f_X12_scheme σ1 x1 = some (r, σ2) ∧ zInv (n + 8) σ2 ∧ zMd σ2 = zMd σ ∧ ((¬ ((f_X11_isAuthor x1) = 0) ∧ ¬ ((zI σ 11 0 12) < 0) ∧ (zI σ 11 0 12) < 10) → zSc σ2 = zSc σ + 1 ∧ zSc σ < 10) ∧ (¬ (¬ ((f_X11_isAuthor x1) = 0) ∧ ¬ ((zI σ 11 0 12) < 0) ∧ (zI σ 11 0 12) < 10) → zSc σ2 = zSc σ) := by
  have hI0 := hI
  obtain ⟨hDay, hFlt, hTap, hNam, hSun, hSch, hPai, hQue, hPan, hWds, hBri, hMen, hRnd⟩ := hI
  obtain ⟨k, k1, k2, k3, k4, k5⟩ := hSch
  have hSch : iSch σ := ⟨k, k1, k2, k3, k4, k5⟩
  have hsc : zSc σ = k := by unfold zSc; rw [k2, nI_clamp (by omega)]
  rcases zisAut x1 with ⟨a, ha, rfl, e1, e2⟩ | ⟨e1, e2⟩
  · by_cases hk : k < 10
    · have c10 : nI k < 10 := by rw [zq10, nI_ltI (by omega) (by omega)]; exact hk
      have e3 : zI (zSchM σ k (nI a)) 12 0 1 = nI k := k3
      have hfe := fun (q : Nat × Nat) h7 hq => zSch_fe (σ := σ) (n := k) (x := nI a) (q := q) h7 hq
      have f1 : ∀ {L : List (Nat × Nat)}, L.all (fun q => q.1 != 7 && !([(11, 7), (11, 12), (12, 4), (12, 5), (12, 1)] : List (Nat × Nat)).contains q) = true → ∀ q ∈ L, zFe q σ (zSchR σ k (nI a)) := by
        intro L hL q hq
        have h := List.all_eq_true.mp hL q hq
        rw [Bool.and_eq_true] at h
        refine hfe q (by simpa using h.1) (fun hm => ?_)
        rw [List.contains_iff_mem.mpr hm] at h
        exact absurd h.2 (by decide)
      refine ⟨nI k, zSchM σ k (nI a), zSchR σ k (nI a), ?_, ?_, ⟨iDay_fe (f1 (by decide)) hDay, iFlt_fe (f1 (by decide)) hFlt, iTap_fe (f1 (by decide)) hTap, iNam_fe (f1 (by decide)) hNam, iSun_fe (f1 (by decide)) hSun, ?_, iPai_fe (f1 (by decide)) hPai, iQue_fe (f1 (by decide)) hQue, iPan_fe (f1 (by decide)) hPan, iWds_fe (f1 (by decide)) hWds, iBri_fe (f1 (by decide)) hBri, ?_, ?_⟩, ?_, fun _ => ⟨?_, by omega⟩, fun h => absurd ⟨by rw [e1]; exact z10, by rw [k2]; exact zlt0 (by omega), by rw [k2]; exact c10⟩ h⟩
      · unfold f_X11_scheme
        rw [hsc, e1, if_neg z10, k2, if_neg (zlt0 (by omega)), if_pos c10]
        simp only [zlt_e]
        rw [zix_n hk (by omega)]
        simp only [Option.bind_some]
        rw [show zI (zsO (f_X7_init (zclr σ 7 k) k (nI a)) 11 0 7 k (some k)) 11 0 12 = nI k from k2, nI_1]
        show some (nI (k + 1) - 1, zSchM σ k (nI a)) = _
        rw [nI_pred]
      · unfold f_X12_scheme
        rw [e2, if_neg z10, e3, if_neg (by rw [zq10, nI_eq (by omega) (by omega)]; omega), zix_n hk (by omega)]
        simp only [Option.bind_some, zlt_e]
        rw [show zI (zsA (zSchM σ k (nI a)) 12 0 4 k (nI a)) 12 0 1 = nI k from k3, zix_n hk (by omega)]
        simp only [Option.bind_some, zlt_e]
        rw [show zI (zsA (zsA (zSchM σ k (nI a)) 12 0 4 k (nI a)) 12 0 5 k (-1)) 12 0 1 = nI k from k3, nI_1]
        show some (nI (k + 1) - 1, zSchR σ k (nI a)) = _
        rw [nI_pred]
      · refine ⟨k + 1, by omega, rfl, rfl, fun s hs => ?_, fun s hs h10 => k5 s (by omega) h10⟩
        by_cases hsk : s = k
        · subst hsk
          have hC : zCl (zSchR σ s (nI a)) s = fun _ => 0 := by
            funext j
            unfold zCl
            split
            · rename_i hj
              have e : zA (zSchR σ s (nI a)) 12 0 3 (160 * s + j) = 0 := k5 s (by omega) hk j hj
              rw [e]; rfl
            · rfl
          refine ⟨zu_eq _ _ _, ⟨a, ha, ?_, zu_eq _ _ _⟩, ?_, Or.inl (zu_eq _ _ _), ?_⟩
          · simp [zSchR, zSchM, f_X7_init, zlt_e, zI_sI, zI_sA, zI_sO]
          · rw [show zA (zSchR σ s (nI a)) 12 0 5 s = -1 from zu_eq _ _ _]
            simp [zSchR, zSchM, f_X7_init, zlt_e, zI_sI, zI_sA, zI_sO, show ∀ (σ : zM) (c i k : Nat), zI (zclA σ c i k) = zI σ from fun _ _ _ _ => rfl]
          · unfold zCR
            rw [hC]
            refine ⟨fun j hj => ⟨(by decide : 0 < 15), k5 s (by omega) hk j hj⟩, fun p hp => ?_, fun w hw1 hw2 => ?_, fun t ht => ?_, ?_⟩
            · rw [zBd_0]
              simp [zSchR, zSchM, f_X7_init, zlt_e, zA_sI, zA_sA, zA_sO, zA_clA]
              rfl
            · rw [zcnt_0 hw1]
              simp [zSchR, zSchM, f_X7_init, zlt_e, zA_sI, zA_sA, zA_sO, zA_clA]
              rfl
            · rw [zfil_0]
              simp [zSchR, zSchM, f_X7_init, zlt_e, zA_sI, zA_sA, zA_sO, zA_clA]
              rfl
            · rw [zwal_0]
              simp [zSchR, zSchM, f_X7_init, zlt_e, zI_sI, zI_sA, zI_sO]
              rfl
        · exact iSch1_c (σ := σ) (σ' := zSchR σ k (nI a)) (s := s) (show zu _ _ _ _ = _ from zu_ne _ _ hsk) (zSch_o hsk 0 (by decide)).1 (show zu _ _ _ _ = _ from zu_ne _ _ hsk) (zSch_o hsk 1 (by decide)).1 (show zu _ _ _ _ = _ from zu_ne _ _ hsk) (fun j hj => rfl) (zSch_o hsk 2 (by decide)).2 (zSch_o hsk 3 (by decide)).2 (zSch_o hsk 4 (by decide)).2 (zSch_o hsk 5 (by decide)).1 (k4 s (by omega))
      · have hz : ∀ s, s ≠ k → zMs (zSchR σ k (nI a)) s = zMs σ s := fun s hs => zMs_at (zCl_c (fun _ _ => rfl)) rfl (zbv_fr (f1 (by decide))) rfl (by
          unfold zdt
          rw [show zA (zSchR σ k (nI a)) 12 0 5 s = zA σ 12 0 5 s from zu_ne _ _ hs]
          rfl) (zns_fr (f1 (by decide)))
        obtain ⟨g1, v, g2, g3, g4, g5⟩ := hMen
        have lt : ∀ s, nI s < zI σ 12 0 1 → s < 10 → s ≠ k ∧ nI s < nI (k + 1) := fun s hs h10 => by
          rw [k3, nI_ltI (by omega) (by omega)] at hs
          exact ⟨by omega, nI_lt (by omega) (by omega)⟩
        refine ⟨g1.imp id ?_, v, g2, by omega, g4, fun s hs => ?_⟩
        · rintro ⟨s, s1, s2, s3, s4⟩
          refine ⟨s, (lt s s1 s2).2, s2, s3, fun w hw => ?_⟩
          rw [hz s (lt s s1 s2).1]
          exact s4 w hw
        · obtain ⟨u, u1, u2, u3⟩ := g5 s hs
          refine ⟨u, u1, u2, fun e => ?_⟩
          obtain ⟨w1, w2⟩ := u3 e
          rw [hz s (lt s w1 hs).1]
          exact ⟨(lt s w1 hs).2, w2⟩
      · refine iRnX_mo (X := zI σ 12 0 1) (fun s hs => ?_) (iRnX_fe (f1 (by decide)) hRnd)
        show nI s < nI (k + 1)
        rw [k3] at hs
        exact fa_trans hs (nI_le (by omega) (by omega))
      · rfl
      · rw [hsc]
        show (nI (k + 1)).toNatClampNeg = _
        rw [nI_clamp (by omega)]
    · have e10 : k = 10 := by omega
      subst e10
      refine ⟨-1, σ, σ, ?_, ?_, zMono n σ hI0, rfl, fun h => absurd h.2.2 (by rw [k2]; decide), fun _ => rfl⟩
      · unfold f_X11_scheme
        rw [e1, if_neg z10, k2, if_neg (by decide), if_neg (by decide)]
      · unfold f_X12_scheme
        rw [e2, if_neg z10, k3, if_pos (by decide)]
  · refine ⟨-1, σ, σ, ?_, ?_, zMono n σ hI0, rfl, fun h => absurd e1 h.1, fun _ => rfl⟩
    · unfold f_X11_scheme
      rw [e1, if_pos rfl]
    · unfold f_X12_scheme
      rw [e2, if_pos rfl]
