/-! a brief -/
theorem X4_B46_1 {σc σf : zM} {n o k0 pd : Nat} (h : zwh (zLc (nI n) o) zFu (1, nI 0, σc) = some (1, σf)) (e1 : zI σf 5 0 1 = nI k0) (e2 : zI σf 5 0 2 = nI pd) : f_X4_read_B46 σc (nI n) o = some (1, zsI (zsI σf 5 0 1 (nI (k0 + pd))) 5 0 2 0) := by
  have h' : zwh (fun (q : (Int32 × Int32 × zM)) => f_X4_read_L51 (nI n) o q.1 q.2.1 q.2.2) zFu (1, 0, σc) = some (1, σf) := h
  have hk : zck (decide ((1 : Int32) = 0 ∨ (1 : Int32) = 1)) = some () := by
    rw [decide_eq_true (Or.inr rfl)]
    rfl
  unfold f_X4_read_B46
  rw [h', Option.bind_some]
  show f_X4_read_B99 σf (nI n) o 1 = _
  unfold f_X4_read_B99 f_X5_settle f_X5_settle_B17
  rw [if_neg z10, zlt_e, zlt_e, zlt_e, hk, Option.bind_some, e1, e2, nI_add]
theorem X4_B46_0 {σc σf : zM} {n o : Nat} (h : zwh (zLc (nI n) o) zFu (1, nI 0, σc) = some (0, σf)) : f_X4_read_B46 σc (nI n) o = some (0, zsI σf 5 0 2 0) := by
  have h' : zwh (fun (q : (Int32 × Int32 × zM)) => f_X4_read_L51 (nI n) o q.1 q.2.1 q.2.2) zFu (1, 0, σc) = some (0, σf) := h
  have hk : zck (decide ((0 : Int32) = 0 ∨ (0 : Int32) = 1)) = some () := by
    rw [decide_eq_true (Or.inl rfl)]
    rfl
  unfold f_X4_read_B46
  rw [h', Option.bind_some]
  show f_X4_read_B99 σf (nI n) o 0 = _
  unfold f_X4_read_B99 f_X5_settle f_X5_settle_B17
  rw [if_pos rfl, zlt_e, zlt_e, hk, Option.bind_some]
theorem X1_take_e {σ : zM} {o : Nat} {day : Int32} (h : zI σ 1 0 2 = nI o) (ho : o ≤ 5) : f_X1_take σ o day = some (nI o, zsI (zsR (zsO (zsI σ 0 o 9 day) 1 0 0 o (some o)) 1 0 3 none) 1 0 2 (nI (o + 1))) := by
  have h3 : zI (zsI σ 0 o 9 day) 1 0 2 = nI o := by
    rw [zI_sI, if_neg (by omega)]
    exact h
  have h6 : zI (zsR (zsO (zsI σ 0 o 9 day) 1 0 0 o (some o)) 1 0 3 none) 1 0 2 = nI o := by
    rw [zI_sR, zI_sO]
    exact h3
  unfold f_X1_take
  rw [h, if_neg (zlt0 (by omega)), if_pos (by rw [zq6]; exact nI_lt (by omega) (by omega)), zlt_e, h3, zix_n (show o < 6 by omega) (by omega), Option.bind_some, zlt_e, zlt_e, h6, nI_1, zlt_e, zI_sI, if_pos ⟨rfl, rfl, rfl⟩, zq1, zsubI (by omega), Nat.add_sub_cancel]
def zKe (σf : zM) (k o : Nat) : zM := zsI (zsR (zsO (zsI (zsI (zsI (zsI (zsI (zsI σf 5 0 1 (nI k)) 5 0 2 0) 9 0 1 0) 11 0 11 (-1)) 8 0 4 (-1)) 0 o 9 (zI σf 11 0 10)) 1 0 0 o (some o)) 1 0 3 none) 1 0 2 (nI (o + 1))
theorem zKe_x {σf : zM} {k o : Nat} : zEx [(5, 1), (5, 2), (9, 1), (11, 11), (8, 4), (0, 9), (1, 0), (1, 3), (1, 2)] σf (zKe σf k o) := by
  unfold zKe
  exact ((((((((zEx_sI (by decide)).tr (zEx_sI (by decide))).tr (zEx_sI (by decide))).tr (zEx_sI (by decide))).tr (zEx_sI (by decide))).tr (zEx_sI (by decide))).tr (zEx_sO (by decide))).tr (zEx_sR (by decide))).tr (zEx_sI (by decide))
theorem zKe_9 {σf : zM} {k o : Nat} : zI (zKe σf k o) 0 o 9 = zI σf 11 0 10 := by
  unfold zKe
  rw [zI_sI, if_neg (by omega), zI_sR, zI_sO, zI_sI, if_pos ⟨rfl, rfl, rfl⟩]
theorem zKe_o {σf : zM} {k o : Nat} : zOt σf (zKe σf k o) o := fun o' ho => by
  have hx := zKe_x (σf := σf) (k := k) (o := o)
  refine ⟨fun j hj => hx.2.2.2.1 0 o' j (by simp; omega), fun j hj => ?_⟩
  by_cases e : j = 9
  · subst e
    unfold zKe
    rw [zI_sI, if_neg (by omega), zI_sR, zI_sO, zI_sI, if_neg (by omega), zI_sI, if_neg (by omega), zI_sI, if_neg (by omega), zI_sI, if_neg (by omega), zI_sI, if_neg (by omega), zI_sI, if_neg (by omega)]
  · exact hx.1 0 o' j (by simp; omega)
theorem zsm2 {α : Type} {r : Option (Int32 × α)} {a b : Int32} {x y : α} (h1 : r = some (a, x)) (h2 : r = some (b, y)) : a = b ∧ x = y := by
  have h := Option.some.inj (h1.symm.trans h2)
  exact ⟨congrArg Prod.fst h, congrArg Prod.snd h⟩
/-- both begin -/
theorem zB_start {σc σr : zM} {T : Nat → Nat} {n N k0 o M : Nat} {W : Nat → List Nat} (hP : zPC σc T n N 0 W k0 0 0) (hR : zR σc 4 0 7 = some o) (h7 : zI σc 0 o 7 = nI 0) (h8 : zI σc 0 o 8 = nI 0) (hT : ∀ w, w < 11 → zA σc 0 o 5 w = nI (zels w)) (hRt : ∀ r, r < 13 → zA σc 0 o 6 r = 100) (hN : zRN σr T n 0) (hns : zNmS σr W k0) (h23 : zI σr 12 0 23 = nI 0) (h25 : zA σr 12 0 25 o = nI 0) (h16 : zI σr 12 0 16 = nI o) (h18 : zI σr 12 0 18 = nI M) : zBSt σc σr σc σr T n N W k0 o M 0 0 W 0 0 0 M := by
  have hb : ∀ w, w < 11 → zels w ≤ zbnd w := by decide
  refine ⟨⟨zEx.rf, zEx.rf, zOt.rf, fun _ _ _ _ => rfl, fun _ _ => rfl, zBel.rf, fun _ _ => rfl⟩, ⟨hP, ⟨zRN_P hN, hns, h23⟩, hR, h7, h8, h18, ⟨fun w hw => ⟨hT w hw, zels w, hb w hw, hT w hw⟩, ?_, fun r h1 h2 => ⟨hRt r (by omega), 100, by omega, hRt r (by omega)⟩, fun i hi => absurd hi (Nat.not_lt_zero i)⟩⟩, ⟨hN, hns, h23⟩, h25, h16, by omega, Or.inl rfl⟩
  show zA σc 0 o 5 5 ≠ 0
  rw [hT 5 (by omega)]
  decide
def zFC : List (Nat × Nat) := [(1, 3), (4, 7), (4, 3), (4, 4), (4, 5), (4, 8), (4, 6), (4, 9), (5, 0), (5, 2), (5, 1), (9, 1), (11, 11), (8, 4), (1, 0), (1, 2)]
def zFR : List (Nat × Nat) := [(12, 39), (12, 20), (12, 19), (12, 21), (12, 23), (12, 25), (12, 17), (12, 37), (12, 27), (12, 28), (12, 29), (12, 30), (12, 22), (12, 40), (12, 41), (12, 18), (12, 31), (12, 32), (12, 33), (12, 34), (12, 35), (12, 36), (12, 24), (12, 26), (12, 16), (12, 2)]
def zFA : List (Nat × Nat) := zFC ++ zFR
/-- the reference runs beside the class, from a memory whose fields of its own are as before -/
theorem zB_both {σ σc σC : zM} {n k0 o N M : Nat} {W : Nat → List Nat} (hn : n ≤ 900) (hb : ∀ i, i < 900 → zBy (zA σ 9 0 0 i) (zA σ 12 0 38 i)) (hP : zPC σc (zTT σ) n N 0 W k0 0 0) (hR : zR σc 4 0 7 = some o) (h7 : zI σc 0 o 7 = nI 0) (h8 : zI σc 0 o 8 = nI 0) (hT : ∀ w, w < 11 → zA σc 0 o 5 w = nI (zels w)) (hRt : ∀ r, r < 13 → zA σc 0 o 6 r = 100) (hE : zE0 zFC σ σC) (hin : f_X12_isIn (nI n) 0 (zI σ 12 0 19) = 1) (h16 : zI σ 12 0 16 = nI o) (ho : o ≤ 5) (hns : zNmS σ W k0) (h18 : zI σ 12 0 18 = nI M) (hM : M ≤ 891 * o) : ∃ σr, f_X12_brief σC (nI n) = ((zwh (zLp (nI n) (nI M) (nI k0)) zFu (1, σr)).bind fun q => f_X12_brief_B162 q.2 (nI n) (nI M) (nI k0) q.1) ∧ zEx [(12, 39), (12, 20), (12, 19), (12, 21), (12, 23), (12, 25)] σC σr ∧ zA σr 12 0 25 = zu (zA σ 12 0 25) o 0 ∧ zI σr 12 0 19 = 0 ∧ zLE (zwh (zLc (nI n) o) zFu (1, nI 0, σc)) (zwh (zLp (nI n) (nI M) (nI k0)) zFu (1, σr)) σc σr (zTT σ) n N W k0 o M := by
  have g := fun k (hk : (12, k) ∉ zFC) => hE (12, k) (show (12 : Nat) ≠ 0 by decide) hk
  have g19 : zI σC 12 0 19 = zI σ 12 0 19 := (g 19 (by decide)).1 0
  have g16 : zI σC 12 0 16 = nI o := ((g 16 (by decide)).1 0).trans h16
  have g18 : zI σC 12 0 18 = nI M := ((g 18 (by decide)).1 0).trans h18
  have g17 : zI σC 12 0 17 = nI k0 := ((g 17 (by decide)).1 0).trans hns.2.1
  have g37 : zL σC 12 0 37 = zL σ 12 0 37 := (g 37 (by decide)).2.2.2.2.1 0
  have g25 : zA σC 12 0 25 = zA σ 12 0 25 := (g 25 (by decide)).2.2.2.1 0
  obtain ⟨σr, a1, a2, a3, a4, a5, a6⟩ := X12_begin hn hb (σ0 := σC) ((g 38 (by decide)).2.2.2.1 0) (by rw [g19]; exact hin) g16 ho
  have nsC : zNmS σC W k0 := by
    unfold zNmS at hns ⊢
    rw [g37, (g 17 (by decide)).1 0]
    exact hns
  rw [g18, g17] at a1
  refine ⟨σr, a1, a2, by rw [a5, g25], a6, ?_⟩
  exact zJ_loop ho hM 40 0 σc σr 0 W 0 0 0 M zFu zFu rfl (zB_start hP hR h7 h8 hT hRt a3 (zNmS_x nsC a2 (by decide) (by decide)) a4 (by rw [a5, zu_eq]; rfl) ((a2.1 12 0 16 (by decide)).trans g16) ((a2.1 12 0 18 (by decide)).trans g18)) (by decide) (by decide)
theorem zMd_e {σ : zM} {nb : Nat} (h : zI σ 1 0 2 = nI nb) (hn : nb ≤ 7) : zMd σ = nb + (if zR σ 1 0 3 = none then 0 else 1) := by
  unfold zMd
  rw [h, nI_clamp (by omega)]
/-- all but a brief's own parts -/
theorem zB_inv {n : Nat} {σ σ2 : zM} (hI : zInv n σ) (hE : zE0 zFA σ σ2) (h19 : zI σ2 12 0 19 = 0) (h9 : zI σ2 9 0 1 = 0) (hF : iFlt σ2) (hN : iNam σ2) (hB : iBri σ2) (hM : iMen (n + 8) σ2) : zInv (n + 8) σ2 ∧ zSc σ2 = zSc σ := by
  obtain ⟨hDay, hFlt, hTap, hNam, hSun, hSch, hPai, hQue, hPan, hWds, hBri, hMen, hRnd⟩ := hI
  refine ⟨⟨iDay_fe (zE0_of hE (by decide)) hDay, hF, ?_, hN, iSun_fe (zE0_of hE (by decide)) hSun, iSch_fe (zE0_of hE (by decide)) hSch, iPai_fe (zE0_of hE (by decide)) hPai, iQue_fe (zE0_of hE (by decide)) hQue, iPan_fe (zE0_of hE (by decide)) hPan, iWds_fe (zE0_of hE (by decide)) hWds, hB, hM, iRnd_fe (zE0_of hE (by decide)) hRnd⟩, ?_⟩
  · obtain ⟨k, k1, k2, k3, k4⟩ := hTap
    refine ⟨0, by omega, h9, h19, ?_⟩
    rw [(hE (9, 0) (by decide) (by decide)).2.2.2.1 0, (hE (12, 38) (by decide) (by decide)).2.2.2.1 0]
    exact k4
  · unfold zSc
    rw [(hE (11, 12) (by decide) (by decide)).1 0]
