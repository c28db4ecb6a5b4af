/-! drawing -/
def zrowU (C : Nat → Nat) (t xa y v : Nat) : Nat → Nat → Nat
  | 0 => C
  | n + 1 => zup (zrowU C t xa y v n) (80 * t + 10 * y + (xa + n)) v
def zfilU (C : Nat → Nat) (t xa xn ya v : Nat) : Nat → Nat → Nat
  | 0 => C
  | m + 1 => zrowU (zfilU C t xa xn ya v m) t xa (ya + m) v xn
theorem zrowU_o {C : Nat → Nat} {t xa y v : Nat} (ht : t < 2) (hy : y < 8) : ∀ {n : Nat}, xa + n ≤ 10 → ∀ j, 160 ≤ j → zrowU C t xa y v n j = C j
  | 0, _, j, _ => rfl
  | n + 1, hn, j, hj => by
    show zup _ _ _ _ = _
    rw [zup_ne (by omega)]
    exact zrowU_o ht hy (by omega) j hj
theorem zfilU_o {C : Nat → Nat} {t xa xn ya v : Nat} (ht : t < 2) (hx : xa + xn ≤ 10) : ∀ {m : Nat}, ya + m ≤ 8 → ∀ j, 160 ≤ j → zfilU C t xa xn ya v m j = C j
  | 0, _, j, _ => rfl
  | m + 1, hm, j, hj => by
    show zrowU _ _ _ _ _ _ _ = _
    rw [zrowU_o ht (by omega) hx j hj]
    exact zfilU_o ht hx (by omega) j hj
theorem zdr_c1 {σ : zM} {s t xa xn y v : Nat} {C : Nat → Nat} {x1 x3 x4 x6 : Int32} (ht : t < 2) (hy : y < 8) (hx : xa + xn ≤ 9) (hv : v < 15) (h : zCX σ s C) : ∃ σ', zwh (fun (q : (Int32 × zM)) => f_X11_draw_L80 x1 (nI t) x3 x4 (nI (xa + xn)) x6 (nI v) s (nI y) q.1 q.2) zFu (nI xa, σ) = some σ' ∧ zCX σ' s (zrowU C t xa y v (xn + 1)) ∧ zPx s σ σ' := by
  refine zwh_ex (fun i q => q.1 = nI (xa + i) ∧ zCX q.2 s (zrowU C t xa y v i) ∧ zPx s σ q.2) (fun σ' => zCX σ' s (zrowU C t xa y v (xn + 1)) ∧ zPx s σ σ') (xn + 1) ⟨rfl, h, zPx.rf⟩ (fun i q hi hq => ?_) (fun q hq => ?_) (by omega)
  · obtain ⟨q1, q2⟩ := q
    obtain ⟨h1, h2, h3⟩ := hq
    simp only at h1 h2 h3
    subst h1
    obtain ⟨σ', g1, g2, g3⟩ := zput (v := v) h2 (show 80 * t + 10 * y + (xa + i) < 160 by omega) hv
    refine Or.inl ⟨(nI (xa + i + 1), σ'), ?_, rfl, g2, h3.tr g3⟩
    show f_X11_draw_L80 _ _ _ _ _ _ _ _ _ (nI (xa + i)) q2 = _
    unfold f_X11_draw_L80
    rw [if_neg (by rw [nI_ltI (by omega) (by omega)]; omega), zplc, ← zplk ht (by omega) hy, g1, Option.bind_some, nI_1]
  · obtain ⟨q1, q2⟩ := q
    obtain ⟨h1, h2, h3⟩ := hq
    simp only at h1 h2 h3
    subst h1
    refine ⟨q2, ?_, h2, h3⟩
    show f_X11_draw_L80 _ _ _ _ _ _ _ _ _ (nI (xa + (xn + 1))) q2 = _
    unfold f_X11_draw_L80
    rw [if_pos (by rw [nI_ltI (by omega) (by omega)]; omega)]
theorem zdr_c2 {σ : zM} {s t xa xn ya yn v : Nat} {C : Nat → Nat} {x1 : Int32} (ht : t < 2) (hy : ya + yn ≤ 7) (hx : xa + xn ≤ 9) (hv : v < 15) (h : zCX σ s C) : ∃ σ', zwh (fun (q : (Int32 × zM)) => f_X11_draw_L70 x1 (nI t) (nI xa) (nI ya) (nI (xa + xn)) (nI (ya + yn)) (nI v) s q.1 q.2) zFu (nI ya, σ) = some σ' ∧ zCX σ' s (zfilU C t xa (xn + 1) ya v (yn + 1)) ∧ zPx s σ σ' := by
  refine zwh_ex (fun i q => q.1 = nI (ya + i) ∧ zCX q.2 s (zfilU C t xa (xn + 1) ya v i) ∧ zPx s σ q.2) (fun σ' => zCX σ' s (zfilU C t xa (xn + 1) ya v (yn + 1)) ∧ zPx s σ σ') (yn + 1) ⟨rfl, h, zPx.rf⟩ (fun i q hi hq => ?_) (fun q hq => ?_) (by omega)
  · obtain ⟨q1, q2⟩ := q
    obtain ⟨h1, h2, h3⟩ := hq
    simp only at h1 h2 h3
    subst h1
    obtain ⟨σ', g1, g2, g3⟩ := zdr_c1 (x1 := x1) (x3 := nI xa) (x4 := nI ya) (x6 := nI (ya + yn)) (xa := xa) ht (show ya + i < 8 by omega) hx hv h2
    refine Or.inl ⟨(nI (ya + i + 1), σ'), ?_, rfl, g2, h3.tr g3⟩
    show f_X11_draw_L70 _ _ _ _ _ _ _ _ (nI (ya + i)) q2 = _
    unfold f_X11_draw_L70
    rw [if_neg (by rw [nI_ltI (by omega) (by omega)]; omega), g1, Option.bind_some]
    unfold f_X11_draw_B108_70
    rw [nI_1]
  · obtain ⟨q1, q2⟩ := q
    obtain ⟨h1, h2, h3⟩ := hq
    simp only at h1 h2 h3
    subst h1
    refine ⟨q2, ?_, h2, h3⟩
    show f_X11_draw_L70 _ _ _ _ _ _ _ _ (nI (ya + (yn + 1))) q2 = _
    unfold f_X11_draw_L70
    rw [if_pos (by rw [nI_ltI (by omega) (by omega)]; omega)]
/-- the reference's cells of scheme s are C, nothing else has changed -/
def zRX (s : Nat) (C : Nat → Nat) (σ σ' : zM) : Prop := zEx [(12, 3)] σ σ' ∧ (∀ k, k < 160 → zA σ' 12 0 3 (160 * s + k) = nI (C k)) ∧ ∀ j, (j < 160 * s ∨ 160 * s + 160 ≤ j) → zA σ' 12 0 3 j = zA σ 12 0 3 j
theorem zRX_s {s k v : Nat} {C : Nat → Nat} {σ σ' : zM} (hk : k < 160) (h : zRX s C σ σ') : zRX s (zup C k v) σ (zsA σ' 12 0 3 (160 * s + k) (nI v)) := by
  refine ⟨h.1.tr (zEx_sA (by decide)), fun j hj => ?_, fun j hj => ?_⟩
  · show zu _ _ _ _ = _
    by_cases e : j = k
    · rw [e, zu_eq, zup_eq]
    · rw [zu_ne _ _ (by omega), zup_ne e]
      exact h.2.1 j hj
  · show zu _ _ _ _ = _
    rw [zu_ne _ _ (by omega)]
    exact h.2.2 j hj
theorem zdr_r1 {σ σ0 : zM} {s t xa xn y v : Nat} {C : Nat → Nat} {x3 x4 x6 : Int32} (hs : s < 10) (ht : t < 2) (hy : y < 8) (hx : xa + xn ≤ 9) (h : zRX s C σ0 σ) : ∃ σ', zwh (fun (q : (Int32 × zM)) => f_X12_draw_L79 (nI s) (nI t) x3 x4 (nI (xa + xn)) x6 (nI v) (nI y) q.1 q.2) zFu (nI xa, σ) = some σ' ∧ zRX s (zrowU C t xa y v (xn + 1)) σ0 σ' := by
  refine zwh_ex (fun (i : Nat) (q : Int32 × zM) => q.1 = nI (xa + i) ∧ zRX s (zrowU C t xa y v i) σ0 q.2) (fun σ' => zRX s (zrowU C t xa y v (xn + 1)) σ0 σ') (xn + 1) ⟨rfl, h⟩ (fun i q hi hq => ?_) (fun q hq => ?_) (by omega)
  · obtain ⟨q1, q2⟩ := q
    obtain ⟨h1, h2⟩ := hq
    simp only at h1 h2
    subst h1
    have hk : 80 * t + 10 * y + (xa + i) < 160 := by omega
    refine Or.inl ⟨(nI (xa + i + 1), zsA q2 12 0 3 (160 * s + (80 * t + 10 * y + (xa + i))) (nI v)), ?_, rfl, zRX_s (v := v) hk h2⟩
    show f_X12_draw_L79 _ _ _ _ _ _ _ _ (nI (xa + i)) q2 = _
    unfold f_X12_draw_L79
    rw [if_neg (by rw [nI_ltI (by omega) (by omega)]; omega), zspt, zq160, zmulI, nI_add, zix_n (show 160 * s + (80 * t + 10 * y + (xa + i)) < 1600 by omega) (by omega), Option.bind_some, zlt_e, nI_1]
  · obtain ⟨q1, q2⟩ := q
    obtain ⟨h1, h2⟩ := hq
    simp only at h1 h2
    subst h1
    refine ⟨q2, ?_, h2⟩
    show f_X12_draw_L79 _ _ _ _ _ _ _ _ (nI (xa + (xn + 1))) q2 = _
    unfold f_X12_draw_L79
    rw [if_pos (by rw [nI_ltI (by omega) (by omega)]; omega)]
theorem zdr_r2 {σ σ0 : zM} {s t xa xn ya yn v : Nat} {C : Nat → Nat} (hs : s < 10) (ht : t < 2) (hy : ya + yn ≤ 7) (hx : xa + xn ≤ 9) (h : zRX s C σ0 σ) : ∃ σ', zwh (fun (q : (Int32 × zM)) => f_X12_draw_L69 (nI s) (nI t) (nI xa) (nI ya) (nI (xa + xn)) (nI (ya + yn)) (nI v) q.1 q.2) zFu (nI ya, σ) = some σ' ∧ zRX s (zfilU C t xa (xn + 1) ya v (yn + 1)) σ0 σ' := by
  refine zwh_ex (fun (i : Nat) (q : Int32 × zM) => q.1 = nI (ya + i) ∧ zRX s (zfilU C t xa (xn + 1) ya v i) σ0 q.2) (fun σ' => zRX s (zfilU C t xa (xn + 1) ya v (yn + 1)) σ0 σ') (yn + 1) ⟨rfl, h⟩ (fun i q hi hq => ?_) (fun q hq => ?_) (by omega)
  · obtain ⟨q1, q2⟩ := q
    obtain ⟨h1, h2⟩ := hq
    simp only at h1 h2
    subst h1
    obtain ⟨σ', g1, g2⟩ := zdr_r1 (x3 := nI xa) (x4 := nI ya) (x6 := nI (ya + yn)) (xa := xa) (v := v) hs ht (show ya + i < 8 by omega) hx h2
    refine Or.inl ⟨(nI (ya + i + 1), σ'), ?_, rfl, g2⟩
    show f_X12_draw_L69 _ _ _ _ _ _ _ (nI (ya + i)) q2 = _
    unfold f_X12_draw_L69
    rw [if_neg (by rw [nI_ltI (by omega) (by omega)]; omega), g1, Option.bind_some]
    unfold f_X12_draw_B113_69
    rw [nI_1]
  · obtain ⟨q1, q2⟩ := q
    obtain ⟨h1, h2⟩ := hq
    simp only at h1 h2
    subst h1
    refine ⟨q2, ?_, h2⟩
    show f_X12_draw_L69 _ _ _ _ _ _ _ (nI (ya + (yn + 1))) q2 = _
    unfold f_X12_draw_L69
    rw [if_pos (by rw [nI_ltI (by omega) (by omega)]; omega)]
theorem zithC (x : Int32) : (∃ v, v < 15 ∧ x = nI v ∧ f_X7_isThing x = 1 ∧ f_X12_isIn x 0 14 = 1) ∨ (f_X7_isThing x = 0 ∧ f_X12_isIn x 0 14 = 0) := by
  rcases zcase x (n := 15) (by omega) with ⟨v, hv, rfl⟩ | hx
  · exact Or.inl ⟨v, hv, rfl, zith hv, zisIn_1 (a := 0) (m := 14) (by omega) (by omega) (by omega)⟩
  · refine Or.inr ⟨?_, zisIn_0' (m := 14) (by omega) hx⟩
    unfold f_X7_isThing
    by_cases h0 : x < 0
    · rw [if_pos h0]
    · rw [if_neg h0, if_pos (show (15 : Int32) ≤ x from hx.resolve_left h0)]
theorem zCX_of {σ : zM} {s : Nat} (h : zCR σ s) : zCX σ s (zCl σ s) := ⟨fun k hk => (h.1 k hk).1, h.2⟩
theorem zCX_fr {σ σ' : zM} {s : Nat} {C : Nat → Nat} (h1 : zA σ' 7 s 2 = zA σ 7 s 2) (h2 : zA σ' 7 s 3 = zA σ 7 s 3) (h3 : zA σ' 7 s 4 = zA σ 7 s 4) (h4 : zI σ' 7 s 5 = zI σ 7 s 5) (h : zCX σ s C) : zCX σ' s C := by
  unfold zCX at h ⊢
  rw [h1, h2, h3, h4]
  exact h
/-- the class's scheme and the reference's both hold C now: the invariant of the schemes -/
theorem iSch_dr {σ σ2 : zM} {s : Nat} {C : Nat → Nat} (hSch : iSch σ) (hs : nI s < zI σ 12 0 1) (hs2 : s < 10) (hC : zCX σ2 s C) (hC0 : ∀ j, 160 ≤ j → C j = 0) (h1 : ∀ k, k < 160 → zA σ2 12 0 3 (160 * s + k) = nI (C k)) (h2 : ∀ j, (j < 160 * s ∨ 160 * s + 160 ≤ j) → zA σ2 12 0 3 j = zA σ 12 0 3 j) (h3 : ∀ i, i ≠ s → ∀ k, zI σ2 7 i k = zI σ 7 i k ∧ zA σ2 7 i k = zA σ 7 i k) (h4 : zEx [(7, 2), (7, 3), (7, 4), (7, 5), (8, 4), (12, 3), (12, 2)] σ σ2) : iSch σ2 := by
  obtain ⟨k, k1, k2, k3, k4, k5⟩ := hSch
  rw [k3, nI_ltI (by omega) (by omega)] at hs
  refine ⟨k, k1, (h4.1 11 0 12 (by decide)).trans k2, (h4.1 12 0 1 (by decide)).trans k3, fun s' hs' => ?_, fun s' hs' h10 j hj => ?_⟩
  · have e1 : zO σ2 11 0 7 = zO σ 11 0 7 := h4.2.2.2.2.2 11 0 7 (by decide)
    have e2 : ∀ i, zI σ2 7 i 0 = zI σ 7 i 0 := fun i => h4.1 7 i 0 (by decide)
    have e3 : ∀ i, zI σ2 7 i 1 = zI σ 7 i 1 := fun i => h4.1 7 i 1 (by decide)
    have e4 : zA σ2 12 0 4 = zA σ 12 0 4 := h4.2.2.2.1 12 0 4 (by decide)
    have e5 : zA σ2 12 0 5 = zA σ 12 0 5 := h4.2.2.2.1 12 0 5 (by decide)
    by_cases h : s' = s
    · subst h
      obtain ⟨g1, ⟨a, a1, a2, a3⟩, g3, g4, g5⟩ := k4 s' hs'
      have hcl : zCl σ2 s' = C := by
        funext j
        unfold zCl
        by_cases hj : j < 160
        · rw [if_pos hj, h1 j hj, nI_clamp (by have := hC.1 j hj; omega)]
        · rw [if_neg hj, hC0 j (by omega)]
      refine ⟨by rw [e1]; exact g1, ⟨a, a1, by rw [e2]; exact a2, by rw [e4]; exact a3⟩, by rw [e3, e5]; exact g3, by rw [e5]; exact g4, ?_⟩
      unfold zCR
      rw [hcl]
      exact ⟨fun j hj => ⟨hC.1 j hj, h1 j hj⟩, hC.2⟩
    · exact iSch1_c (σ := σ) (σ' := σ2) (s := s') (by rw [e1]) (e2 s') (by rw [e4]) (e3 s') (by rw [e5]) (fun j hj => h2 _ (by omega)) (h3 s' h 2).2 (h3 s' h 3).2 (h3 s' h 4).2 (h3 s' h 5).1 (k4 s' hs')
  · rw [h2 _ (by omega)]
    exact k5 s' hs' h10 j hj
theorem zspn {x3 x5 : Nat} (h3 : x3 < 2147483648) (h5 : x5 < 2147483648) : ¬ nI x5 < nI x3 → ∃ d, x5 = x3 + d := fun h => by
  rw [nI_ltI h5 h3] at h
  exact ⟨x5 - x3, by omega⟩
theorem ob_draw (x1 x2 x3 x4 x5 x6 x7 : Int32) : zOb zInv (fun σ => f_X11_draw σ x1 x2 x3 x4 x5 x6 x7) (fun σ => f_X12_draw σ x1 x2 x3 x4 x5 x6 x7) := by
  intro n σ hn hI
  have hI0 := hI
  obtain ⟨hDay, hFlt, hTap, hNam, hSun, hSch, hPai, hQue, hPan, hWds, hBri, hMen, hRnd⟩ := hI
  have no : f_X11_draw σ x1 x2 x3 x4 x5 x6 x7 = some (0, σ) → f_X12_draw σ x1 x2 x3 x4 x5 x6 x7 = some (0, σ) → ∃ r σ1 σ2, f_X11_draw σ x1 x2 x3 x4 x5 x6 x7 = some (r, σ1) ∧ f_X12_draw σ1 x1 x2 x3 x4 x5 x6 x7 = some (r, σ2) ∧ zInv (n + 8) σ2 ∧ zSc σ2 = zSc σ ∧ zMd σ2 = zMd σ := fun h1 h2 => ⟨0, σ, σ, h1, h2, zMono n σ hI0, rfl, rfl⟩
  rcases zschAt hSch x1 with ⟨s, rfl, hs, hs2, e1, e2, hsc⟩ | ⟨e1, e2⟩
  · have hh : f_X7_isHandedIn σ s = (if zA σ 12 0 5 s = -1 then 0 else 1) := by unfold f_X7_isHandedIn; rw [hsc.2.2.1]
    rcases zithC x7 with ⟨v, hv, rfl, t1, t2⟩ | ⟨t1, t2⟩
    · rcases zisCel x2 x3 x4 with ⟨t, xa, ya, ht, hxa, hya, rfl, rfl, rfl, c1, c2⟩ | ⟨c1, c2⟩
      · rcases zisCel (nI t) x5 x6 with ⟨t', xb, yb, ht', hxb, hyb, et, rfl, rfl, d1, d2⟩ | ⟨d1, d2⟩
        · by_cases cx : nI xb < nI xa
          · refine no ?_ ?_
            · unfold f_X11_draw
              rw [e1, Option.bind_some]
              show (if _ then _ else _) = _
              rw [hh]
              by_cases c : zA σ 12 0 5 s = -1
              · rw [if_pos c, if_pos rfl, t1, if_neg z10, c1, if_neg z10, d1, if_neg z10, if_pos cx]
              · rw [if_neg c, if_neg z10]
            · unfold f_X12_draw
              rw [e2, if_neg z10, c2, if_neg z10, d2, if_neg z10, if_pos cx]
          · by_cases cy : nI yb < nI ya
            · have cy2 : ¬ nI ya ≤ nI yb := by rw [nI_leI (by omega) (by omega)]; rw [nI_ltI (by omega) (by omega)] at cy; omega
              refine no ?_ ?_
              · unfold f_X11_draw
                rw [e1, Option.bind_some]
                show (if _ then _ else _) = _
                rw [hh]
                by_cases c : zA σ 12 0 5 s = -1
                · rw [if_pos c, if_pos rfl, t1, if_neg z10, c1, if_neg z10, d1, if_neg z10, if_neg cx, if_neg cy2]
                · rw [if_neg c, if_neg z10]
              · unfold f_X12_draw
                rw [e2, if_neg z10, c2, if_neg z10, d2, if_neg z10, if_neg cx, if_pos cy]
            · by_cases c : zA σ 12 0 5 s = -1
              · have cy2 : nI ya ≤ nI yb := by rw [nI_leI (by omega) (by omega)]; rw [nI_ltI (by omega) (by omega)] at cy; omega
                obtain ⟨xn, rfl⟩ := zspn (by omega) (by omega) cx
                obtain ⟨yn, rfl⟩ := zspn (by omega) (by omega) cy
                obtain ⟨σ1, w1, X1, P1⟩ := zdr_c2 (x1 := nI s) (C := zCl σ s) (xa := xa) (xn := xn) (ya := ya) (yn := yn) ht (by omega) (by omega) hv (zCX_of hsc.2.2.2.2)
                obtain ⟨C, hC⟩ : ∃ C, C = zfilU (zCl σ s) t xa (xn + 1) ya v (yn + 1) := ⟨_, rfl⟩
                have hR0 : zRX s (zCl σ s) (f_X8_forgetMend σ1) (f_X8_forgetMend σ1) := by
                  refine ⟨zEx.rf, fun k hk => ?_, fun _ _ => rfl⟩
                  show zA σ1 12 0 3 _ = _
                  rw [P1.1.2.2.2.1 12 0 3 (by decide)]
                  exact (hsc.2.2.2.2.1 k hk).2
                obtain ⟨σ2, w2, R2⟩ := zdr_r2 (v := v) (xa := xa) (xn := xn) (ya := ya) (yn := yn) hs2 ht (by omega) (by omega) hR0
                rw [← hC] at X1 R2
                have hEx : zEx [(7, 2), (7, 3), (7, 4), (7, 5), (8, 4), (12, 3), (12, 2)] σ (zsI σ2 12 0 2 (zI σ2 12 0 2 + 1)) := (P1.1.mo (by decide)).tr ((zEx_sI (by decide)).tr ((R2.1.mo (by decide)).tr (zEx_sI (by decide))))
                have hv2 : zI σ2 12 0 2 = zI σ 12 0 2 := (R2.1.1 12 0 2 (by decide)).trans (P1.1.1 12 0 2 (by decide))
                refine ⟨1, f_X8_forgetMend σ1, zsI σ2 12 0 2 (zI σ2 12 0 2 + 1), ?_, ?_, ⟨iDay_fr hEx (by decide) hDay, iFlt_fr hEx (by decide) hFlt, iTap_fr hEx (by decide) hTap, iNam_fr hEx (by decide) hNam, iSun_fr hEx (by decide) hSun, ?_, iPai_fr hEx (by decide) hPai, iQue_fr hEx (by decide) hQue, iPan_fr hEx (by decide) hPan, iWds_fr hEx (by decide) hWds, iBri_fr hEx (by decide) hBri, ?_, iRnd_fr hEx (by decide) hRnd⟩, ?_, ?_⟩
                · show f_X11_draw σ _ _ _ _ _ _ _ = _
                  unfold f_X11_draw
                  rw [e1, Option.bind_some]
                  show (if _ then _ else _) = _
                  rw [hh, if_pos c, if_pos rfl, t1, if_neg z10, c1, if_neg z10, d1, if_neg z10, if_neg cx, if_pos cy2, w1, Option.bind_some]
                  rfl
                · show f_X12_draw (f_X8_forgetMend σ1) _ _ _ _ _ _ _ = _
                  have e2' : f_X12_isScheme (f_X8_forgetMend σ1) (nI s) = 1 := by
                    have : zI (f_X8_forgetMend σ1) 12 0 1 = zI σ 12 0 1 := P1.1.1 12 0 1 (by decide)
                    unfold f_X12_isScheme at e2 ⊢
                    rw [this]
                    exact e2
                  have c' : zA (f_X8_forgetMend σ1) 12 0 5 s = -1 := by
                    show zA σ1 12 0 5 s = -1
                    rw [P1.1.2.2.2.1 12 0 5 (by decide)]
                    exact c
                  unfold f_X12_draw
                  rw [e2', if_neg z10, c2, if_neg z10, d2, if_neg z10, if_neg cx, if_neg cy, t2, if_neg z10, zix_n hs2 (by omega), Option.bind_some, if_pos c', w2, Option.bind_some]
                  rfl
                · refine iSch_dr hSch hs hs2 (zCX_fr (σ := σ1) ?_ ?_ ?_ ?_ X1) (fun j hj => ?_) R2.2.1 (fun j hj => (R2.2.2 j hj).trans ?_) (fun i hi k => ?_) hEx
                  · exact R2.1.2.2.2.1 7 s 2 (by decide)
                  · exact R2.1.2.2.2.1 7 s 3 (by decide)
                  · exact R2.1.2.2.2.1 7 s 4 (by decide)
                  · exact R2.1.1 7 s 5 (by decide)
                  · rw [hC, zfilU_o ht (by omega) (by omega) j hj]
                    unfold zCl
                    rw [if_neg (by omega)]
                  · show zA σ1 12 0 3 j = _
                    rw [P1.1.2.2.2.1 12 0 3 (by decide)]
                  · have m7 : ∀ k : Nat, (7, k) ∉ ([(12, 3)] : List (Nat × Nat)) := fun k => by simp
                    exact ⟨(R2.1.1 7 i k (m7 k)).trans (P1.2 i hi k).1, (R2.1.2.2.2.1 7 i k (m7 k)).trans (P1.2 i hi k).2⟩
                · refine iMen_up hn hMen ?_ ?_ ?_
                  · show zI σ2 8 0 4 = _
                    rw [R2.1.1 8 0 4 (by decide)]
                    rfl
                  · show zI σ2 12 0 2 + 1 = _
                    rw [hv2]
                  · show zA σ2 12 0 10 = _
                    exact (R2.1.2.2.2.1 12 0 10 (by decide)).trans (P1.1.2.2.2.1 12 0 10 (by decide))
                · show (zI σ2 11 0 12).toNatClampNeg = (zI σ 11 0 12).toNatClampNeg
                  rw [(R2.1.1 11 0 12 (by decide)).trans (P1.1.1 11 0 12 (by decide))]
                · show (zI σ2 1 0 2).toNatClampNeg + (if zR σ2 1 0 3 = none then 0 else 1) = zMd σ
                  rw [(R2.1.1 1 0 2 (by decide)).trans (P1.1.1 1 0 2 (by decide)), (R2.1.2.2.1 1 0 3 (by decide)).trans (P1.1.2.2.1 1 0 3 (by decide))]
                  rfl
              · refine no ?_ ?_
                · unfold f_X11_draw
                  rw [e1, Option.bind_some]
                  show (if _ then _ else _) = _
                  rw [hh, if_neg c, if_neg z10]
                · unfold f_X12_draw
                  rw [e2, if_neg z10, c2, if_neg z10, d2, if_neg z10, if_neg cx, if_neg cy, t2, if_neg z10, zix_n hs2 (by omega), Option.bind_some, if_neg c]
        · refine no ?_ ?_
          · unfold f_X11_draw
            rw [e1, Option.bind_some]
            show (if _ then _ else _) = _
            rw [hh]
            by_cases c : zA σ 12 0 5 s = -1
            · rw [if_pos c, if_pos rfl, t1, if_neg z10, c1, if_neg z10, d1, if_pos rfl]
            · rw [if_neg c, if_neg z10]
          · unfold f_X12_draw
            rw [e2, if_neg z10, c2, if_neg z10, d2, if_pos rfl]
      · refine no ?_ ?_
        · unfold f_X11_draw
          rw [e1, Option.bind_some]
          show (if _ then _ else _) = _
          rw [hh]
          by_cases c : zA σ 12 0 5 s = -1
          · rw [if_pos c, if_pos rfl, t1, if_neg z10, c1, if_pos rfl]
          · rw [if_neg c, if_neg z10]
        · unfold f_X12_draw
          rw [e2, if_neg z10, c2, if_pos rfl]
    · refine no ?_ ?_
      · unfold f_X11_draw
        rw [e1, Option.bind_some]
        show (if _ then _ else _) = _
        rw [hh]
        by_cases c : zA σ 12 0 5 s = -1
        · rw [if_pos c, if_pos rfl, t1, if_pos rfl]
        · rw [if_neg c, if_neg z10]
      · unfold f_X12_draw
        rw [e2, t2]
        simp only [if_neg z10, if_pos]
        split
        · rfl
        · split
          · rfl
          · split
            · rfl
            · split <;> rfl
  · refine no ?_ ?_
    · unfold f_X11_draw
      rw [e1]; rfl
    · unfold f_X12_draw
      rw [e2, if_pos rfl]
