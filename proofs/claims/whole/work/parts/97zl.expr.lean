/-! expressions: a comparison, by both -/
theorem zXo.rf {σ : zM} {o : Nat} : zXo σ σ o := fun _ _ => ⟨rfl, rfl⟩
theorem zXo.tr {σ σ1 σ2 : zM} {o : Nat} (h : zXo σ σ1 o) (g : zXo σ1 σ2 o) : zXo σ σ2 o := fun o' ho => ⟨(g o' ho).1.trans (h o' ho).1, (g o' ho).2.trans (h o' ho).2⟩
theorem zXo_x {F : List (Nat × Nat)} {σ σ1 : zM} {o : Nat} (h : zEx F σ σ1) (h1 : (0, 4) ∉ F) (h2 : (0, 8) ∉ F) : zXo σ σ1 o := fun o' _ => ⟨h.2.2.2.1 0 o' 4 h1, h.1 0 o' 8 h2⟩
theorem zbel_x {F : List (Nat × Nat)} {σ σ' : zM} {m : Nat} (h : zEx F σ σ') (hF : ([(12, 31), (12, 32), (12, 33), (12, 34), (12, 35), (12, 36)] : List (Nat × Nat)).all (fun q => !F.contains q) = true) : zBel (znd σ) (znd σ') m := by
  have hd := zFe_of h hF
  refine zbel_up (fun k hk j hj => ?_)
  rcases hk with rfl | rfl | rfl | rfl | rfl | rfl
  · exact congrFun ((hd (12, 31) (by simp)).2.2.2.1 0) j
  · exact congrFun ((hd (12, 32) (by simp)).2.2.2.1 0) j
  · exact congrFun ((hd (12, 33) (by simp)).2.2.2.1 0) j
  · exact congrFun ((hd (12, 34) (by simp)).2.2.2.1 0) j
  · exact congrFun ((hd (12, 35) (by simp)).2.2.2.1 0) j
  · exact congrFun ((hd (12, 36) (by simp)).2.2.2.1 0) j
theorem zbel_s {σ : zM} {m k x : Nat} {v : Int32} (hx : m ≤ x) : zBel (znd σ) (znd (zsA σ 12 0 k x v)) m := by
  refine zbel_up (fun k' _ j hj => ?_)
  rw [zA_sA]
  by_cases h : k' = k
  · rw [if_pos ⟨rfl, rfl, h⟩, zu_ne _ _ (by omega), h]
  · rw [if_neg (fun e => h e.2.2)]
/-- behind the sign -/
theorem zJ_cmp2 {σ σ' : zM} {T : Nat → Nat} {n N i : Nat} {W : Nat → List Nat} {k0 pd t o c m code s : Nat} {rc : Nat → zM → Option (Int32 × zM)} (hs : s < 3) (hcode : code < 64) (ho : o < 7) (hc : c < 300) (hm : m < 5400) (h : zPC σ T n N i W k0 pd t) (h' : zPR σ' T n i W (k0 + pd) t) (hR : zR σ 4 0 7 = some o) (h8 : zI σ 0 o 8 = nI c) : (∃ v σ1 σ1', v < 1000000 ∧ ((f_X4_takeNumber σ 0 999999).bind fun q14 => if q14.1 = 0 then (some ((0 : Int32), q14.2)) else (znu (zR q14.2 4 0 7) none (fun j17 => (f_X0_emit q14.2 j17 (f_X0_comparison (nI code) (nI (60 + s)) (zI q14.2 4 0 9))).bind fun q21 => if q21.1 = 0 then (some (0, q21.2)) else (some (1, q21.2))))) = some (1, σ1) ∧ f_X12_single_B257 σ' rc (nI m) (nI m) (nI (60 + s)) = some (nI m, σ1') ∧ zEx zFxC σ σ1 ∧ zEx [(12, 21), (12, 41), (12, 35), (12, 36)] σ' σ1' ∧ zXo σ σ1 o ∧ zBel (znd σ') (znd σ1') m ∧ zA σ1' 12 0 35 m = nI (60 + s) ∧ zA σ1' 12 0 36 m = nI v ∧ zI σ1 0 o 8 = nI (c + 1) ∧ zA σ1 0 o 4 c = nI (256 * v + (4 * code + s)) ∧ (∀ x, x < c → zA σ1 0 o 4 x = zA σ 0 o 4 x) ∧ zPC σ1 T n N (i + 1) W k0 pd t ∧ zPR σ1' T n (i + 1) W (k0 + pd) t ∧ zTs T n i + 1 ≤ zTs T n (i + 1)) ∨ ∃ σ1', ((f_X4_takeNumber σ 0 999999).bind fun q14 => if q14.1 = 0 then (some ((0 : Int32), q14.2)) else (znu (zR q14.2 4 0 7) none (fun j17 => (f_X0_emit q14.2 j17 (f_X0_comparison (nI code) (nI (60 + s)) (zI q14.2 4 0 9))).bind fun q21 => if q21.1 = 0 then (some (0, q21.2)) else (some (1, q21.2))))) = some (0, σ) ∧ f_X12_single_B257 σ' rc (nI m) (nI m) (nI (60 + s)) = some (-1, σ1') ∧ zEx [(12, 21), (12, 41), (12, 35), (12, 36)] σ' σ1' ∧ zBel (znd σ') (znd σ1') m ∧ zPX σ1' T n i W (k0 + pd) t := by
  obtain ⟨σa, hσa⟩ : ∃ x, x = zsA σ' 12 0 35 m (nI (60 + s)) := ⟨_, rfl⟩
  have xa : zEx [(12, 35)] σ' σa := by rw [hσa]; exact zEx_sA (by decide)
  have ba : zBel (znd σ') (znd σa) m := by rw [hσa]; exact zbel_s (Nat.le_refl _)
  have a35 : zA σa 12 0 35 m = nI (60 + s) := by rw [hσa, zA_sA, if_pos ⟨rfl, rfl, rfl⟩, zu_eq]
  obtain ⟨σb, w1, w2⟩ := zJ_n (lo := 0) (hi := 999999) (by omega) (by omega) h (zPR_x h' xa (by decide))
  have hB : f_X12_single_B257 σ' rc (nI m) (nI m) (nI (60 + s)) = ((f_X12_takesPlain σa).bind fun q29 => if q29.1 = 0 then (some ((-1), q29.2)) else ((zix (nI m) 5400).bind fun i32 => zlt (zsA q29.2 12 0 36 i32 (zI q29.2 12 0 41)) fun σ33 => some (nI m, σ33))) := by
    unfold f_X12_single_B257
    rw [zix_n hm (by omega), Option.bind_some, zlt_e, ← hσa, Option.bind_some, a35, if_neg (znI_m1 (by omega))]
  have hpl : f_X12_takesPlain σa = ((f_X12_takesNumber σa (nI 0) (nI 999999)).bind fun q => some (q.1, q.2)) := rfl
  rw [hB, hpl]
  have hnum : f_X4_takeNumber σ 0 999999 = f_X4_takeNumber σ (nI 0) (nI 999999) := rfl
  rw [hnum]
  rcases w2 with ⟨v, σ1, v1, v2, v3, v4, v5, v6, v7, v8, v9, v10, v11⟩ | ⟨v1, v2, v3⟩
  · left
    have hR1 : zR σ1 4 0 7 = some o := by rw [v5.2.2.1 4 0 7 (by decide)]; exact hR
    have h81 : zI σ1 0 o 8 = nI c := by rw [v5.1 0 o 8 (by decide)]; exact h8
    obtain ⟨σ2, hσ2⟩ : ∃ x, x = zsI (zsA σ1 0 o 4 c (nI (256 * v + (4 * code + s)))) 0 o 8 (nI (c + 1)) := ⟨_, rfl⟩
    have x12 : zEx [(0, 4), (0, 8)] σ1 σ2 := by rw [hσ2]; exact (zEx_sA (by decide)).tr (zEx_sI (by decide))
    obtain ⟨σc, hσc⟩ : ∃ x, x = zsA σb 12 0 36 m (nI v) := ⟨_, rfl⟩
    have xc : zEx [(12, 36)] σb σc := by rw [hσc]; exact zEx_sA (by decide)
    have bc : zBel (znd σb) (znd σc) m := by rw [hσc]; exact zbel_s (Nat.le_refl _)
    refine ⟨v, σ2, σc, by omega, ?_, ?_, (v5.mo (by decide)).tr (x12.mo (by decide)), (xa.mo (by decide)).tr ((w1.mo (by decide)).tr (xc.mo (by decide))), fun o' ho' => ⟨?_, ?_⟩, (ba.tr (zbel_x w1 (by decide)) (Nat.le_refl _)).tr bc (Nat.le_refl _), ?_, ?_, ?_, ?_, fun x hx => ?_, zPC_x v9 x12 (by decide), zPR_x v10 xc (by decide), v11⟩
    · rw [v4, Option.bind_some]
      show (if (1 : Int32) = 0 then _ else znu (zR σ1 4 0 7) none (fun j17 => (f_X0_emit σ1 j17 (f_X0_comparison (nI code) (nI (60 + s)) (zI σ1 4 0 9))).bind _)) = _
      rw [if_neg z10, hR1, v6, X0_cmp hs hcode]
      show ((f_X0_emit σ1 o _).bind _) = _
      rw [X0_emit ho h81 hc, Option.bind_some]
      show (if (1 : Int32) = 0 then _ else _) = _
      rw [if_neg z10, ← hσ2]
    · rw [v7, Option.bind_some, Option.bind_some]
      show (if (1 : Int32) = 0 then _ else ((zix (nI m) 5400).bind fun i32 => zlt (zsA σb 12 0 36 i32 (zI σb 12 0 41)) fun σ33 => some (nI m, σ33))) = _
      rw [if_neg z10, zix_n hm (by omega), Option.bind_some, v8, ← hσc, zlt_e]
    · rw [hσ2]
      show zA (zsA σ1 0 o 4 c _) 0 o' 4 = _
      rw [zA_sA, if_neg (fun e => ho' e.2.1), v5.2.2.2.1 0 o' 4 (by decide)]
    · rw [hσ2, zI_sI, if_neg (fun e => ho' e.2.1)]
      show zI σ1 0 o' 8 = _
      rw [v5.1 0 o' 8 (by decide)]
    · rw [xc.2.2.2.1 12 0 35 (by decide), w1.2.2.2.1 12 0 35 (by decide), a35]
    · rw [hσc, zA_sA, if_pos ⟨rfl, rfl, rfl⟩, zu_eq]
    · rw [hσ2, zI_sI, if_pos ⟨rfl, rfl, rfl⟩]
    · rw [hσ2]
      show zA (zsA σ1 0 o 4 c _) 0 o 4 c = _
      rw [zA_sA, if_pos ⟨rfl, rfl, rfl⟩, zu_eq]
    · rw [hσ2]
      show zA (zsA σ1 0 o 4 c _) 0 o 4 x = _
      rw [zA_sA, if_pos ⟨rfl, rfl, rfl⟩, zu_ne _ _ (by omega), v5.2.2.2.1 0 o 4 (by decide)]
  · right
    refine ⟨σb, ?_, ?_, (xa.mo (by decide)).tr (w1.mo (by decide)), ba.tr (zbel_x w1 (by decide)) (Nat.le_refl _), v3⟩
    · rw [v1, Option.bind_some]
      show (if (0 : Int32) = 0 then _ else _) = _
      rw [if_pos rfl]
    · rw [v2, Option.bind_some, Option.bind_some]
      show (if (0 : Int32) = 0 then _ else _) = _
      rw [if_pos rfl]
