/-! cost: the call -/
theorem zOn_bd {σ : zM} (h : iBri σ) (t : Int32) : (∀ w, w < 11 → zNm (zA σ 0 (zOn σ t) 5 w) (zbnd w)) ∧ ∀ r, 1 ≤ r → r ≤ 12 → zNm (zA σ 0 (zOn σ t) 6 r) 9999 := by
  rcases zOn_7 h t with ⟨nb, M, h1, h2, h3, n, g1, g2, g3, -, -, g4, g5, g6, -⟩ | h7
  · exact ⟨fun w hw => (g4 w hw).2, fun r r1 r2 => (g6 r r1 r2).2⟩
  · rw [h7]
    obtain ⟨nb, M, -, -, -, -, -, -, -, -, -, hb, hr⟩ := h
    refine ⟨fun w hw => ⟨zels w, ?_, hb w hw⟩, fun r r1 r2 => ⟨100, by omega, hr r r1 r2⟩⟩
    revert w
    decide
theorem zcsN_nm {C : Nat → Nat} {T R : Nat → Int32} (hT : ∀ w, w < 3 → zNm (T w) 9999) (hR : ∀ r, 1 ≤ r → r ≤ 12 → zNm (R r) 9999) (hC : ∀ k, k < 160 → C k < 15) : ∀ n, n ≤ 160 → zNm (zcsN C T R n) (6399360 + n * 9999)
  | 0, _ => by
    obtain ⟨a, a1, a2⟩ := hT 0 (by omega)
    rw [zcsN_0, a2, zmulI]
    refine ⟨_, ?_, rfl⟩
    have h1 := Nat.mul_le_mul (zwal_le C) a1
    omega
  | n + 1, hn => by
    obtain ⟨m, m1, m2⟩ := zcsN_nm hT hR hC n (by omega)
    have hc := hC n (by omega)
    rw [zcsN_s hc, m2]
    have add : ∀ x, zNm x 9999 → zNm (nI m + x) (6399360 + (n + 1) * 9999) := fun x hx => by
      obtain ⟨a, a1, rfl⟩ := hx
      rw [nI_add]
      exact ⟨m + a, by omega, rfl⟩
    split
    · exact add 0 ⟨0, by omega, rfl⟩
    · split
      · exact add _ (hT 1 (by omega))
      · split
        · exact add _ (hT 2 (by omega))
        · exact add _ (hR _ (by omega) (by omega))
theorem zCst_nm {σ : zM} {C : Nat → Nat} (h : iBri σ) (t : Int32) (hC : ∀ k, k < 160 → C k < 15) : zNm (zCst C (zA σ 0 (zOn σ t) 5) (zA σ 0 (zOn σ t) 6)) 7999200 := by
  obtain ⟨h1, h2⟩ := zOn_bd h t
  rw [← zcsN_160]
  exact zcsN_nm (fun w hw => by
    have := h1 w (by omega)
    rwa [show zbnd w = 9999 from if_pos hw] at this) h2 hC 160 (Nat.le_refl _)
theorem zpct {a p : Nat} (ha : a ≤ 7999200) (hp : p ≤ 100) : nI a * nI p / 100 = nI (a * p / 100) ∧ ((nI a).toInt64 * (nI p).toInt64 / 100).toInt32 = nI (a * p / 100) := by
  have hm : a * p ≤ 7999200 * 100 := Nat.mul_le_mul ha hp
  have e1 : nI a * nI p / 100 = nI (a * p / 100) := by
    rw [zmulI, zq100, zdivI (by omega) (by omega)]
  refine ⟨e1, ?_⟩
  generalize hq : a * p = q at hm
  have f1 : ((nI a).toInt64).toInt = (a : Int) := by rw [Int32.toInt_toInt64, nI_toInt (by omega)]
  have f2 : ((nI p).toInt64).toInt = (p : Int) := by rw [Int32.toInt_toInt64, nI_toInt (by omega)]
  have f3 : ((nI a).toInt64 * (nI p).toInt64).toInt = (q : Int) := by
    have hqi : (a : Int) * (p : Int) = (q : Int) := by rw [← hq]; rfl
    rw [fb_mulL (by rw [f1, f2, hqi]; omega) (by rw [f1, f2, hqi]; omega), f1, f2, hqi]
  have f4 : (100 : Int64).toInt = 100 := rfl
  have hd : (q : Int).tdiv 100 = ((q / 100 : Nat) : Int) := by
    rw [Int.tdiv_eq_ediv_of_nonneg (by omega)]; rfl
  have hq2 : q / 100 ≤ q := Nat.div_le_self _ _
  have f5 : ((nI a).toInt64 * (nI p).toInt64 / 100).toInt = ((q / 100 : Nat) : Int) := by
    rw [Int64.toInt_div, f3, f4, hd]
    exact fb_bmodL (by omega) (by omega)
  apply Int32.toInt_inj.mp
  rw [Int64.toInt_toInt32, f5, nI_toInt (by omega)]
  exact fb_bmod (by omega) (by omega)
theorem ob_cost (x1 x2 x3 : Int32) : zOb zInv (fun σ => (f_X11_cost σ x1 x2 x3).map (fun r => (r, σ))) (fun σ => (f_X12_cost σ x1 x2 x3).map (fun r => (r, σ))) := by
  refine zRO (g1 := fun σ => f_X11_cost σ x1 x2 x3) (g2 := fun σ => f_X12_cost σ x1 x2 x3) (fun n σ hn hI => ?_)
  obtain ⟨hDay, hFlt, hTap, hNam, hSun, hSch, hPai, hQue, hPan, hWds, hBri, hMen, hRnd⟩ := hI
  unfold f_X11_cost f_X12_cost
  rcases zschAt hSch x1 with ⟨s, rfl, hs, hs2, e1, e2, hsc⟩ | ⟨e1, e2⟩
  · rw [e1, e2, if_neg z10]
    simp only [Option.bind_some, znu]
    rcases zisDay x2 with ⟨t, ht, rfl, d1, d2⟩ | ⟨d1, d2⟩
    · rw [d1, d2, if_neg z10, if_neg z10]
      have hX := zCX_of hsc.2.2.2.2
      have hR := zRC_of hsc.2.2.2.2
      obtain ⟨c, c1, c2⟩ := zCst_nm hBri (nI t) hX.1
      obtain ⟨p, p1, p2⟩ := (zOn_bd hBri (nI t)).1 3 (by omega)
      have p1 : p ≤ 50 := p1
      obtain ⟨q1, q2⟩ := zpct c1 (show p ≤ 100 by omega)
      have k1 : f_X7_costBy σ s (zOn σ (nI t)) = some (nI c) := by rw [X7_cost hX, c2]
      have k2 : f_X12_costBy σ (nI s) (zOx (zOn σ (nI t))) = some (nI c) := by rw [X12_cost hBri (nI t) hR hs2, c2]
      have k3 : f_X0_term σ (zOn σ (nI t)) 3 = some (nI p) := by rw [show f_X0_term σ (zOn σ (nI t)) 3 = _ from X0_term (zOn σ (nI t)) (show 3 < 11 by omega), p2]
      have k4 : f_X12_tells σ (zOx (zOn σ (nI t))) 3 = some (nI p) := by rw [show f_X12_tells σ (zOx (zOn σ (nI t))) 3 = _ from X12_tells hBri (nI t) (show 3 < 11 by omega), p2]
      rw [X1_on hBri (nI t), X12_bindsOn hBri (nI t)]
      simp only [Option.bind_some]
      rw [k1, k2]
      simp only [Option.bind_some]
      rw [k3, k4]
      simp only [Option.bind_some]
      rw [q1, q2]
      rcases zcase x3 (n := 3) (by omega) with ⟨w, hw, rfl⟩ | hx
      · rw [show f_X12_isIn (nI w) 0 2 = 1 from zisIn_1 (a := 0) (m := 2) (by omega) (by omega) (by omega), if_neg z10]
        have : w = 0 ∨ w = 1 ∨ w = 2 := by omega
        rcases this with rfl | rfl | rfl
        · exact ⟨_, rfl, rfl⟩
        · exact ⟨_, rfl, rfl⟩
        · exact ⟨_, rfl, rfl⟩
      · have h0 : x3 ≠ 0 := fun e => by subst e; exact absurd hx (by decide)
        have h1 : x3 ≠ 1 := fun e => by subst e; exact absurd hx (by decide)
        have h2 : x3 ≠ 2 := fun e => by subst e; exact absurd hx (by decide)
        rw [show f_X12_isIn x3 0 2 = 0 from zisIn_0' (m := 2) (by omega) hx, if_pos rfl, if_neg h0, if_neg h1, if_neg h2]
        exact ⟨_, rfl, rfl⟩
    · rw [d1, d2, if_pos rfl, if_pos rfl]
      exact ⟨_, rfl, rfl⟩
  · rw [e1, e2, if_pos rfl]
    exact ⟨_, rfl, rfl⟩
