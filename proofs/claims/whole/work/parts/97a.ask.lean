/-! questions: the reference, the obligation -/
theorem zcB_L {T : Nat → Nat} {i : Nat} (h : zcB T i = true) : zcL T i = false := by
  unfold zcB at h
  unfold zcL
  rw [Bool.or_eq_true] at h
  rcases h with h | h
  · rw [of_decide_eq_true h]; rfl
  · rw [of_decide_eq_true h]; rfl
theorem zAfl_n {T : Nat → Nat} {n : Nat} {nm : Nat → Nat → Bool} {i : Nat} (h : ¬ (i < n ∧ zcL T i = true)) : zAfl T n nm (i + 1) = zAfl T n nm i ∧ (zASt T n nm (i + 1)).2.1 = 0 := by
  have e := zASt_n (nm := nm) h
  refine ⟨?_, by rw [e]⟩
  rw [show zAfl T n nm (i + 1) = (if (zASt T n nm (i + 1)).2.1 = 0 then ((zASt T n nm (i + 1)).1, (zASt T n nm (i + 1)).2.2) else ((zASt T n nm (i + 1)).1 + 1, (zASt T n nm (i + 1)).2.2 || (decide ((zASt T n nm (i + 1)).2.1 ≤ 8) && nm (i + 1 - (zASt T n nm (i + 1)).2.1) (zASt T n nm (i + 1)).2.1))) from rfl, e]
  exact if_pos rfl
theorem zAfl_b {T : Nat → Nat} {n : Nat} {nm : Nat → Nat → Bool} {p : Nat} (hp : p ≤ n) : ∀ i, p ≤ i → i ≤ zfar (zcB T) n p → zAfl T n nm i = zAfl T n nm p ∧ (i = p ∨ (zASt T n nm i).2.1 = 0)
  | 0, h1, _ => by rw [show p = 0 by omega]; exact ⟨rfl, Or.inl rfl⟩
  | i + 1, h1, h2 => by
    by_cases e : p = i + 1
    · rw [e]; exact ⟨rfl, Or.inl rfl⟩
    · have ih := zAfl_b (T := T) (nm := nm) hp i (by omega) (by omega)
      have hb := (zfar_p (c := zcB T) hp).2.2.1 i (by omega) (by omega)
      have h := zAfl_n (nm := nm) (n := n) (i := i) (T := T) (fun h => by rw [zcB_L hb] at h; cases h.2)
      exact ⟨h.1.trans ih.1, Or.inr h.2⟩
theorem zASt_l {T : Nat → Nat} {n : Nat} {nm : Nat → Nat → Bool} {a : Nat} (ha : a ≤ n) (h0 : (zASt T n nm a).2.1 = 0) : ∀ i, a + i ≤ zfar (zcL T) n a → zASt T n nm (a + i) = ((zASt T n nm a).1, i, (zASt T n nm a).2.2)
  | 0, _ => Prod.ext rfl (Prod.ext h0 rfl)
  | i + 1, h => by
    have hP := zfar_p (c := zcL T) ha
    rw [show a + (i + 1) = (a + i) + 1 by omega, zASt_y ⟨by omega, hP.2.2.1 (a + i) (by omega) (by omega)⟩, zASt_l ha h0 i (by omega)]
theorem zAfl_0 {T : Nat → Nat} {n : Nat} {nm : Nat → Nat → Bool} {a : Nat} (h : (zASt T n nm a).2.1 = 0) : zAfl T n nm a = ((zASt T n nm a).1, (zASt T n nm a).2.2) := if_pos h
theorem zAfl_w {T : Nat → Nat} {n : Nat} {nm : Nat → Nat → Bool} {a e : Nat} (ha : a ≤ n) (h0 : (zASt T n nm a).2.1 = 0) (hE : e = zfar (zcL T) n a) (hae : a < e) : zAfl T n nm e = ((zAfl T n nm a).1 + 1, (zAfl T n nm a).2 || (decide (e - a ≤ 8) && nm a (e - a))) := by
  have h := zASt_l (nm := nm) ha h0 (e - a) (by omega)
  rw [show a + (e - a) = e by omega] at h
  rw [zAfl_0 h0]
  show (if (zASt T n nm e).2.1 = 0 then _ else ((zASt T n nm e).1 + 1, (zASt T n nm e).2.2 || (decide ((zASt T n nm e).2.1 ≤ 8) && nm (e - (zASt T n nm e).2.1) (zASt T n nm e).2.1))) = _
  rw [h]
  show (if e - a = 0 then _ else ((zASt T n nm a).1 + 1, (zASt T n nm a).2.2 || (decide (e - a ≤ 8) && nm (e - (e - a)) (e - a)))) = _
  rw [if_neg (by omega), show e - (e - a) = a by omega]
theorem zmin_nI {a b : Nat} (ha : a < 2147483648) (hb : b < 2147483648) : zmin (nI a) (nI b) = nI (min a b) := zminE ha hb
theorem X12_ask1 {σ0 : zM} {T : Nat → Nat} {n : Nat} {x1 x2 : Int32} {nm : Nat → Nat → Bool} (h : zTr σ0 T n) (ha : zI σ0 12 0 21 = nI 0) (hnm : ∀ a L, 1 ≤ L → L ≤ 8 → (∀ j, a ≤ j → j < a + L → zcL T j = true) → ∀ σ' : zM, zL σ' 12 0 42 = zL σ0 12 0 42 → nm a L = zNmR σ' (lN (zQn 256 96 (zRv T a L))) 40) : ∃ σ', zwh (fun (q : (Int32 × Int32 × zM)) => f_X12_ask_L34 x1 x2 q.1 q.2.1 q.2.2) zFu (0, 1, σ0) = some (nI (zAfl T n nm n).1, zbb (!(zAfl T n nm n).2), σ') ∧ zEx [(12, 21), (12, 40)] σ0 σ' := by
  have h900 := h.1
  have hz : ∃ t, zwh (fun (q : (Int32 × Int32 × zM)) => f_X12_ask_L34 x1 x2 q.1 q.2.1 q.2.2) zFu (0, 1, σ0) = some t ∧ t.1 = nI (zAfl T n nm n).1 ∧ t.2.1 = zbb (!(zAfl T n nm n).2) ∧ zEx [(12, 21), (12, 40)] σ0 t.2.2 := by
    refine zwh_ex (fun (k : Nat) (q : Int32 × Int32 × zM) => ∃ p, k ≤ p ∧ p ≤ n ∧ q.1 = nI (zAfl T n nm p).1 ∧ q.2.1 = zbb (!(zAfl T n nm p).2) ∧ zEx [(12, 21), (12, 40)] σ0 q.2.2 ∧ zI q.2.2 12 0 21 = nI p ∧ ((zASt T n nm p).2.1 = 0 ∨ p = n ∨ zcL T p = false)) _ n ⟨0, Nat.le_refl _, by omega, rfl, rfl, zEx.rf, ha, Or.inl rfl⟩ (fun k q hk hq => ?_) (fun q hq => ?_) (by omega)
    · obtain ⟨q1, q2, q3⟩ := q
      obtain ⟨p, g1, g2, g3, g4, g5, g6, g7⟩ := hq
      simp only at g3 g4 g5 g6
      subst g3 g4
      have hr := zTr_fr h g5 (by decide) (by decide)
      by_cases hpn : p = n
      · subst hpn
        refine Or.inr ⟨(nI (zAfl T p nm p).1, zbb (!(zAfl T p nm p).2), q3), ?_, rfl, rfl, g5⟩
        show f_X12_ask_L34 x1 x2 _ _ q3 = _
        unfold f_X12_ask_L34
        rw [hr.2.1, g6, if_pos (nI_le (Nat.le_refl _) (by omega))]
      · refine Or.inl ?_
        obtain ⟨a, hA⟩ : ∃ a, a = zfar (zcB T) n p := ⟨_, rfl⟩
        obtain ⟨e, hE⟩ : ∃ e, e = zfar (zcL T) n a := ⟨_, rfl⟩
        have hPa := zfar_p (c := zcB T) g2
        rw [← hA] at hPa
        have hPe := zfar_p (c := zcL T) hPa.2.1
        rw [← hE] at hPe
        obtain ⟨σ1, w1, w2, w3, w4⟩ := X12_word_ hr g2 g6 hA hE
        obtain ⟨f1, f2⟩ := zAfl_b (T := T) (nm := nm) g2 a hPa.1 (by omega)
        have hrun : f_X12_ask_L34 x1 x2 (nI (zAfl T n nm p).1) (zbb (!(zAfl T n nm p).2)) q3 = (if nI e = nI a then (zlt (zsI σ1 12 0 21 (zmin (zI σ1 12 0 20) (nI a + 1))) fun σ28 => some (.inl (nI (zAfl T n nm p).1, zbb (!(zAfl T n nm p).2), σ28))) else (if zbb (!(zAfl T n nm p).2) = 0 then (f_X12_ask_B103_34 σ1 x1 x2 (nI (zAfl T n nm p).1 + 1)) else ((f_X12_isCalled σ1 (zW8 T a (e - a))).bind fun r21 => zlt (zsI σ1 12 0 21 (nI e)) fun σ26 => some (.inl ((nI (zAfl T n nm p).1 + 1), (if r21 = 0 then 1 else 0 : Int32), σ26))))) := by
          unfold f_X12_ask_L34
          rw [hr.2.1, g6, if_neg (by rw [nI_leI (by omega) (by omega)]; omega), w1, Option.bind_some]
          simp only [w3, w4]
        have hr1 := zTr_fr hr w2 (by decide) (by decide)
        by_cases hae : e = a
        · refine ⟨(nI (zAfl T n nm p).1, zbb (!(zAfl T n nm p).2), zsI σ1 12 0 21 (nI (min n (a + 1)))), ?_, min n (a + 1), by omega, by omega, ?_, ?_, (g5.tr w2).tr (zEx_sI (by decide)), rfl, ?_⟩
          · refine hrun.trans ?_
            rw [if_pos (by rw [hae]), hr1.2.1, nI_1, zmin_nI (by omega) (by omega), zlt_e]
          · show nI _ = nI _
            by_cases han : a < n
            · have hc : zcL T a = false := by
                have := hPe.2.2.2 (by omega)
                rw [hae] at this
                exact this
              rw [Nat.min_eq_right (by omega), (zAfl_n (nm := nm) (fun h => by rw [hc] at h; cases h.2)).1, f1]
            · rw [show min n (a + 1) = a by omega, f1]
          · show zbb _ = zbb _
            by_cases han : a < n
            · have hc : zcL T a = false := by
                have := hPe.2.2.2 (by omega)
                rw [hae] at this
                exact this
              rw [Nat.min_eq_right (by omega), (zAfl_n (nm := nm) (fun h => by rw [hc] at h; cases h.2)).1, f1]
            · rw [show min n (a + 1) = a by omega, f1]
          · by_cases han : a < n
            · have hc : zcL T a = false := by
                have := hPe.2.2.2 (by omega)
                rw [hae] at this
                exact this
              rw [Nat.min_eq_right (by omega)]
              exact Or.inl (zAfl_n (nm := nm) (fun h => by rw [hc] at h; cases h.2)).2
            · exact Or.inr (Or.inl (by omega))
        · have hla : zcL T a = true := hPe.2.2.1 a (Nat.le_refl _) (by omega)
          have h0a : (zASt T n nm a).2.1 = 0 := by
            rcases f2 with f2 | f2
            · rw [f2]
              rw [f2] at hla
              rcases g7 with g7 | g7 | g7
              · exact g7
              · omega
              · rw [hla] at g7; cases g7
            · exact f2
          have hfe := zAfl_w (nm := nm) hPa.2.1 h0a hE (by omega)
          rw [f1] at hfe
          have hin : ∀ j, a ≤ j → j < a + (e - a) → zcL T j = true := fun j h1 h2 => hPe.2.2.1 j h1 (by omega)
          refine ⟨(nI (zAfl T n nm e).1, zbb (!(zAfl T n nm e).2), zsI σ1 12 0 21 (nI e)), ?_, e, by omega, by omega, rfl, rfl, (g5.tr w2).tr (zEx_sI (by decide)), rfl, ?_⟩
          · refine hrun.trans ?_
            rw [if_neg (by rw [nI_eq (by omega) (by omega)]; exact hae), hfe, nI_1]
            cases htold : (zAfl T n nm p).2
            · rw [if_neg (show ¬ zbb (!false) = 0 from z10), X12_isCalled, Option.bind_some, zlt_e, Bool.false_or]
              have ec : (if zNmR σ1 (zW8 T a (e - a)) 40 then 1 else 0 : Int32) = zbb (decide (e - a ≤ 8) && nm a (e - a)) := by
                unfold zW8
                by_cases h8 : e - a ≤ 8
                · rw [if_pos h8, decide_eq_true h8, Bool.true_and, hnm a (e - a) (by omega) h8 hin σ1 ((g5.tr w2).2.2.2.2.1 12 0 42 (by decide))]
                  rfl
                · rw [if_neg h8, decide_eq_false h8, Bool.false_and]
                  have : zNmR σ1 0 40 = false := by
                    unfold zNmR
                    rw [List.any_eq_false]
                    intro i _
                    simp
                  rw [this]
                  rfl
              rw [ec]
              cases (decide (e - a ≤ 8) && nm a (e - a)) <;> rfl
            · rw [if_pos (show zbb (!true) = 0 from rfl)]
              unfold f_X12_ask_B103_34 f_X12_ask_B104_34
              rw [zlt_e, w4, Bool.true_or]
              rfl
          · by_cases hen : e < n
            · exact Or.inr (Or.inr (hPe.2.2.2 hen))
            · exact Or.inr (Or.inl (by omega))
    · obtain ⟨q1, q2, q3⟩ := q
      obtain ⟨p, g1, g2, g3, g4, g5, g6, g7⟩ := hq
      simp only at g3 g4 g5 g6
      subst g3 g4
      have hr := zTr_fr h g5 (by decide) (by decide)
      have hpn : p = n := by omega
      subst hpn
      refine ⟨(nI (zAfl T p nm p).1, zbb (!(zAfl T p nm p).2), q3), ?_, rfl, rfl, g5⟩
      show f_X12_ask_L34 x1 x2 _ _ q3 = _
      unfold f_X12_ask_L34
      rw [hr.2.1, g6, if_pos (nI_le (Nat.le_refl _) (by omega))]
  obtain ⟨⟨t1, t2, t3⟩, h1, h2, h3, h4⟩ := hz
  simp only at h2 h3 h4
  exact ⟨t3, by rw [h1, h2, h3], h4⟩
def zAsk (σ : zM) (k j : Nat) (x2 : Int32) : zM := zsI (zsA (zsA (zsA σ 3 0 1 k (zI σ 11 0 10)) 3 0 2 k x2) 3 0 3 k (nI j)) 3 0 4 (nI (k + 1))
def zAsr (σ : zM) (k j : Nat) (x2 : Int32) : zM := zsI (zsA (zsA (zsA σ 12 0 45 k (zI σ 12 0 0)) 12 0 46 k x2) 12 0 47 k (nI j)) 12 0 43 (nI (k + 1))
theorem ob_ask (x1 x2 : Int32) : zOb zInv (fun σ => f_X11_ask σ x1 x2) (fun σ => f_X12_ask σ x1 x2) := by
  intro n σ hn hI
  have hI0 := hI
  obtain ⟨hDay, hFlt, hTap, hNam, hSun, hSch, hPai, hQue, hPan, hWds, hBri, hMen, hRnd⟩ := hI
  have hno : f_X11_ask σ x1 x2 = some (-2, σ) → f_X12_ask σ x1 x2 = some (-2, σ) → ∃ r σ1 σ2, f_X11_ask σ x1 x2 = some (r, σ1) ∧ f_X12_ask σ1 x1 x2 = some (r, σ2) ∧ zInv (n + 8) σ2 ∧ zSc σ2 = zSc σ ∧ zMd σ2 = zMd σ := fun h1 h2 => ⟨-2, σ, σ, h1, h2, zMono n σ hI0, rfl, rfl⟩
  obtain ⟨kt, k1, k2, k3, k4⟩ := hTap
  obtain ⟨q1, ⟨kq, q2, q3, q4⟩, q5, q6⟩ := hQue
  rcases zholds k1 k2 k3 x1 with ⟨m, hm, rfl, e3, e4⟩ | ⟨e3, e4⟩
  · by_cases hq : kq = 50
    · subst hq
      refine hno ?_ ?_
      · have hfull : f_X3_isFull σ = 1 := by
          unfold f_X3_isFull
          rw [q3]
          decide
        unfold f_X11_ask
        rw [e3, if_neg z10, hfull, if_neg z10]
      · unfold f_X12_ask
        rw [e4, if_neg z10, q4, if_pos (by decide)]
    · have hTc := zTc_T k1 hm k2 k4
      have hp := X3_put1 (x3 := x2) (x4 := zI σ 11 0 10) hTc (by omega)
      obtain ⟨nm, hnm⟩ : ∃ nm : Nat → Nat → Bool, nm = fun a L => zNmC σ (lN (zQn 32 0 (zRv (zTT σ) a L))) := ⟨_, rfl⟩
      rw [← hnm] at hp
      obtain ⟨fl, hfl⟩ : ∃ fl, fl = zAfl (zTT σ) m nm m := ⟨_, rfl⟩
      rw [← hfl] at hp
      have hA : ∀ σ0 : zM, zEx [(9, 1), (3, 1), (3, 2), (3, 3), (3, 4), (3, 5)] σ σ0 → ∃ σ2 σ3, f_X12_takesText σ0 (nI m) = some σ2 ∧ zwh (fun (q : (Int32 × Int32 × zM)) => f_X12_ask_L34 (nI m) x2 q.1 q.2.1 q.2.2) zFu (0, 1, σ2) = some (nI fl.1, zbb (!fl.2), σ3) ∧ zEx [(12, 39), (12, 20), (12, 19), (12, 21), (12, 40)] σ0 σ3 ∧ zI σ3 12 0 19 = 0 := by
        intro σ0 h0
        obtain ⟨σ2, t1, t2, t3, t4, t5⟩ := X12_text (σ := σ) (n := m) (by omega) k4 (h0.2.2.2.1 12 0 38 (by decide))
        obtain ⟨σ3, s1, s2⟩ := X12_ask1 (x1 := nI m) (x2 := x2) (nm := nm) t3 t5 (fun a L h1 h8 hl σ' h' => by
          rw [hnm]
          have hlen : (zRv (zTT σ) a L).length = L := zRv_len
          exact zNm_CR q1 (h'.trans ((t2.2.2.2.2.1 12 0 42 (by decide)).trans (h0.2.2.2.2.1 12 0 42 (by decide)))) ⟨by omega, by omega, zRv_in hl⟩)
        rw [← hfl] at s1
        exact ⟨σ2, σ3, t1, s1, (t2.mo (by decide)).tr (s2.mo (by decide)), (s2.1 12 0 19 (by decide)).trans t4⟩
      have hc11 : f_X11_ask σ (nI m) x2 = (f_X3_put_B119 σ (nI m) x2 (zI σ 11 0 10) (nI fl.1) (zbb fl.2)).bind fun q5 => zlt (f_X9_clear q5.2) fun σ7 => some (q5.1, σ7) := by
        have hfull : f_X3_isFull σ = 0 := by
          unfold f_X3_isFull
          rw [q3]
          exact if_pos (by rw [zq50, nI_ltI (by omega) (by omega)]; omega)
        unfold f_X11_ask f_X3_put
        rw [e3, if_neg z10, hfull, if_pos rfl, hp, Option.bind_some]
      cases htold : fl.2
      · -- answered
        have hEc : zEx [(9, 1), (3, 1), (3, 2), (3, 3), (3, 4), (3, 5)] σ (zsI (zAsk σ kq fl.1 x2) 9 0 1 0) := (zEx_sA (by decide)).tr ((zEx_sA (by decide)).tr ((zEx_sA (by decide)).tr ((zEx_sI (by decide)).tr (zEx_sI (by decide)))))
        obtain ⟨σ2, σ3, t1, t2, t3, t4⟩ := hA _ hEc
        have hEx : zEx [(9, 1), (3, 1), (3, 2), (3, 3), (3, 4), (3, 5), (12, 39), (12, 20), (12, 19), (12, 21), (12, 40), (12, 45), (12, 46), (12, 47), (12, 43)] σ (zAsr σ3 kq fl.1 x2) := (hEc.mo (by decide)).tr ((t3.mo (by decide)).tr ((zEx_sA (by decide)).tr ((zEx_sA (by decide)).tr ((zEx_sA (by decide)).tr (zEx_sI (by decide))))))
        have f43 : zI σ3 12 0 43 = nI kq := (t3.1 12 0 43 (by decide)).trans q4
        refine ⟨nI kq, zsI (zAsk σ kq fl.1 x2) 9 0 1 0, zAsr σ3 kq fl.1 x2, ?_, ?_, ⟨iDay_fr hEx (by decide) hDay, iFlt_fr hEx (by decide) hFlt, ?_, iNam_fr hEx (by decide) hNam, iSun_fr hEx (by decide) hSun, iSch_fr hEx (by decide) hSch, iPai_fr hEx (by decide) hPai, ?_, iPan_fr hEx (by decide) hPan, iWds_fr hEx (by decide) hWds, iBri_fr hEx (by decide) hBri, iMen_mo (iMen_fr hEx (by decide) hMen), iRnd_fr hEx (by decide) hRnd⟩, ?_, ?_⟩
        · show f_X11_ask σ (nI m) x2 = _
          rw [hc11, htold]
          unfold f_X3_put_B119 f_X3_keep f_X9_clear
          rw [if_pos (show zbb false = 0 from rfl), q3, if_neg (zlt0 (by omega)), if_neg (by rw [zq50, nI_leI (by omega) (by omega)]; omega), if_neg (by rw [zq50, nI_leI (by omega) (by omega)]; omega), if_pos (by rw [zq50, nI_ltI (by omega) (by omega)]; omega), zix_n (show kq < 50 by omega) (by omega), Option.bind_some]
          simp only [zlt_e]
          rw [show zI (zsA σ 3 0 1 kq (zI σ 11 0 10)) 3 0 4 = nI kq from q3, zix_n (show kq < 50 by omega) (by omega), Option.bind_some, show zI (zsA (zsA σ 3 0 1 kq (zI σ 11 0 10)) 3 0 2 kq x2) 3 0 4 = nI kq from q3, zix_n (show kq < 50 by omega) (by omega), Option.bind_some, show zI (zsA (zsA (zsA σ 3 0 1 kq (zI σ 11 0 10)) 3 0 2 kq x2) 3 0 3 kq (nI fl.1)) 3 0 4 = nI kq from q3, nI_1]
          show some (nI (kq + 1) - 1, zsI (zAsk σ kq fl.1 x2) 9 0 1 0) = _
          rw [nI_pred]
        · show f_X12_ask _ (nI m) x2 = _
          unfold f_X12_ask
          rw [show f_X12_isIn (nI m) 0 (zI (zsI (zAsk σ kq fl.1 x2) 9 0 1 0) 12 0 19) = 1 from e4, if_neg z10, show zI (zsI (zAsk σ kq fl.1 x2) 9 0 1 0) 12 0 43 = nI kq from q4, if_neg (by rw [zq50, nI_eq (by omega) (by omega)]; exact hq), t1, Option.bind_some, t2, Option.bind_some]
          unfold f_X12_ask_B117
          simp only [htold]
          rw [if_neg (show ¬ zbb (!false) = 0 from z10), f43, zix_n (show kq < 50 by omega) (by omega), Option.bind_some]
          simp only [zlt_e]
          rw [show zI (zsA σ3 12 0 45 kq (zI σ3 12 0 0)) 12 0 43 = nI kq from f43, zix_n (show kq < 50 by omega) (by omega), Option.bind_some, show zI (zsA (zsA σ3 12 0 45 kq (zI σ3 12 0 0)) 12 0 46 kq x2) 12 0 43 = nI kq from f43, zix_n (show kq < 50 by omega) (by omega), Option.bind_some, show zI (zsA (zsA (zsA σ3 12 0 45 kq (zI σ3 12 0 0)) 12 0 46 kq x2) 12 0 47 kq (nI fl.1)) 12 0 43 = nI kq from f43, nI_1]
          show some (nI (kq + 1) - 1, zAsr σ3 kq fl.1 x2) = _
          rw [nI_pred]
        · refine ⟨0, by omega, (t3.1 9 0 1 (by decide)).trans rfl, t4, ?_⟩
          have f1 : zA (zAsr σ3 kq fl.1 x2) 9 0 0 = zA σ 9 0 0 := hEx.2.2.2.1 9 0 0 (by decide)
          have f2 : zA (zAsr σ3 kq fl.1 x2) 12 0 38 = zA σ 12 0 38 := hEx.2.2.2.1 12 0 38 (by decide)
          rw [f1, f2]
          exact k4
        · refine ⟨?_, ⟨kq + 1, by omega, (t3.1 3 0 4 (by decide)).trans rfl, rfl⟩, ?_, fun i hi => ?_⟩
          · rw [hEx.2.2.2.2.1 3 0 0 (by decide), hEx.2.2.2.2.1 12 0 42 (by decide)]
            exact q1
          · have f1 : zI (zAsr σ3 kq fl.1 x2) 3 0 5 = zI σ 3 0 5 := (t3.1 3 0 5 (by decide)).trans rfl
            have f2 : zI (zAsr σ3 kq fl.1 x2) 12 0 44 = zI σ 12 0 44 := (t3.1 12 0 44 (by decide)).trans rfl
            rw [f1, f2]
            exact q5
          · have f1 : zA (zAsr σ3 kq fl.1 x2) 3 0 1 = zu (zA σ 3 0 1) kq (zI σ 11 0 10) := (t3.2.2.2.1 3 0 1 (by decide)).trans rfl
            have f2 : zA (zAsr σ3 kq fl.1 x2) 3 0 2 = zu (zA σ 3 0 2) kq x2 := (t3.2.2.2.1 3 0 2 (by decide)).trans rfl
            have f3 : zA (zAsr σ3 kq fl.1 x2) 3 0 3 = zu (zA σ 3 0 3) kq (nI fl.1) := (t3.2.2.2.1 3 0 3 (by decide)).trans rfl
            have f4 : zA (zAsr σ3 kq fl.1 x2) 12 0 45 = zu (zA σ 12 0 45) kq (zI σ 12 0 0) := by
              show zu (zA σ3 12 0 45) kq (zI σ3 12 0 0) = _
              rw [t3.2.2.2.1 12 0 45 (by decide), t3.1 12 0 0 (by decide)]
              rfl
            have f5 : zA (zAsr σ3 kq fl.1 x2) 12 0 46 = zu (zA σ 12 0 46) kq x2 := by
              show zu (zA σ3 12 0 46) kq x2 = _
              rw [t3.2.2.2.1 12 0 46 (by decide)]
              rfl
            have f6 : zA (zAsr σ3 kq fl.1 x2) 12 0 47 = zu (zA σ 12 0 47) kq (nI fl.1) := by
              show zu (zA σ3 12 0 47) kq (nI fl.1) = _
              rw [t3.2.2.2.1 12 0 47 (by decide)]
              rfl
            rw [f1, f2, f3, f4, f5, f6]
            by_cases e : i = kq
            · rw [e, zu_eq, zu_eq, zu_eq, zu_eq, zu_eq, zu_eq]
              exact ⟨hDay.1, rfl, rfl⟩
            · rw [zu_ne _ _ e, zu_ne _ _ e, zu_ne _ _ e, zu_ne _ _ e, zu_ne _ _ e, zu_ne _ _ e]
              exact q6 i hi
        · show (zI (zAsr σ3 kq fl.1 x2) 11 0 12).toNatClampNeg = (zI σ 11 0 12).toNatClampNeg
          rw [hEx.1 11 0 12 (by decide)]
        · show (zI (zAsr σ3 kq fl.1 x2) 1 0 2).toNatClampNeg + (if zR (zAsr σ3 kq fl.1 x2) 1 0 3 = none then 0 else 1) = zMd σ
          rw [hEx.1 1 0 2 (by decide), hEx.2.2.1 1 0 3 (by decide)]
          rfl
      · -- told nobody
        have hEc : zEx [(9, 1), (3, 1), (3, 2), (3, 3), (3, 4), (3, 5)] σ (zsI (zsI σ 3 0 5 (zI σ 3 0 5 + 1)) 9 0 1 0) := (zEx_sI (by decide)).tr (zEx_sI (by decide))
        obtain ⟨σ2, σ3, t1, t2, t3, t4⟩ := hA _ hEc
        have hEx : zEx [(9, 1), (3, 1), (3, 2), (3, 3), (3, 4), (3, 5), (12, 39), (12, 20), (12, 19), (12, 21), (12, 40), (12, 44)] σ (zsI σ3 12 0 44 (zI σ3 12 0 44 + 1)) := (hEc.mo (by decide)).tr ((t3.mo (by decide)).tr (zEx_sI (by decide)))
        refine ⟨-1, zsI (zsI σ 3 0 5 (zI σ 3 0 5 + 1)) 9 0 1 0, zsI σ3 12 0 44 (zI σ3 12 0 44 + 1), ?_, ?_, ⟨iDay_fr hEx (by decide) hDay, iFlt_fr hEx (by decide) hFlt, ?_, iNam_fr hEx (by decide) hNam, iSun_fr hEx (by decide) hSun, iSch_fr hEx (by decide) hSch, iPai_fr hEx (by decide) hPai, ?_, iPan_fr hEx (by decide) hPan, iWds_fr hEx (by decide) hWds, iBri_fr hEx (by decide) hBri, iMen_mo (iMen_fr hEx (by decide) hMen), iRnd_fr hEx (by decide) hRnd⟩, ?_, ?_⟩
        · show f_X11_ask σ (nI m) x2 = _
          rw [hc11, htold]
          unfold f_X3_put_B119 f_X9_clear
          rw [if_neg (show ¬ zbb true = 0 from z10)]
          rfl
        · show f_X12_ask _ (nI m) x2 = _
          unfold f_X12_ask
          rw [show f_X12_isIn (nI m) 0 (zI (zsI (zsI σ 3 0 5 (zI σ 3 0 5 + 1)) 9 0 1 0) 12 0 19) = 1 from e4, if_neg z10, show zI (zsI (zsI σ 3 0 5 (zI σ 3 0 5 + 1)) 9 0 1 0) 12 0 43 = nI kq from q4, if_neg (by rw [zq50, nI_eq (by omega) (by omega)]; exact hq), t1, Option.bind_some, t2, Option.bind_some]
          unfold f_X12_ask_B117
          simp only [htold]
          rw [if_pos (show zbb (!true) = 0 from rfl)]
          rfl
        · refine ⟨0, by omega, (t3.1 9 0 1 (by decide)).trans rfl, t4, ?_⟩
          have f1 : zA (zsI σ3 12 0 44 (zI σ3 12 0 44 + 1)) 9 0 0 = zA σ 9 0 0 := hEx.2.2.2.1 9 0 0 (by decide)
          have f2 : zA (zsI σ3 12 0 44 (zI σ3 12 0 44 + 1)) 12 0 38 = zA σ 12 0 38 := hEx.2.2.2.1 12 0 38 (by decide)
          rw [f1, f2]
          exact k4
        · refine ⟨?_, ⟨kq, by omega, (t3.1 3 0 4 (by decide)).trans q3, (t3.1 12 0 43 (by decide)).trans q4⟩, ?_, ?_⟩
          · rw [hEx.2.2.2.2.1 3 0 0 (by decide), hEx.2.2.2.2.1 12 0 42 (by decide)]
            exact q1
          · have f1 : zI (zsI σ3 12 0 44 (zI σ3 12 0 44 + 1)) 3 0 5 = zI σ 3 0 5 + 1 := (t3.1 3 0 5 (by decide)).trans rfl
            have f2 : zI (zsI σ3 12 0 44 (zI σ3 12 0 44 + 1)) 12 0 44 = zI σ 12 0 44 + 1 := by
              show zI σ3 12 0 44 + 1 = _
              rw [t3.1 12 0 44 (by decide)]
              rfl
            rw [f1, f2, q5]
          · have g : ∀ c i k, (c, k) ∉ [(9, 1), (3, 5), (12, 39), (12, 20), (12, 19), (12, 21), (12, 40), (12, 44)] → zA (zsI σ3 12 0 44 (zI σ3 12 0 44 + 1)) c i k = zA σ c i k := fun c i k hck => (t3.2.2.2.1 c i k (fun h => hck (by simp only [List.mem_cons, Prod.mk.injEq, List.not_mem_nil, or_false] at h ⊢; omega))).trans rfl
            rw [g 3 0 1 (by decide), g 3 0 2 (by decide), g 3 0 3 (by decide), g 12 0 45 (by decide), g 12 0 46 (by decide), g 12 0 47 (by decide)]
            exact q6
        · show (zI (zsI σ3 12 0 44 (zI σ3 12 0 44 + 1)) 11 0 12).toNatClampNeg = (zI σ 11 0 12).toNatClampNeg
          rw [hEx.1 11 0 12 (by decide)]
        · show (zI (zsI σ3 12 0 44 (zI σ3 12 0 44 + 1)) 1 0 2).toNatClampNeg + (if zR (zsI σ3 12 0 44 (zI σ3 12 0 44 + 1)) 1 0 3 = none then 0 else 1) = zMd σ
          rw [hEx.1 1 0 2 (by decide), hEx.2.2.1 1 0 3 (by decide)]
          rfl
  · exact hno (by unfold f_X11_ask; rw [e3, if_pos rfl]) (by unfold f_X12_ask; rw [e4, if_pos rfl])
