def f_X11_scheme (σ : zM) (o : Nat) (x1 : Int32) : Option (Int32 × zM) := if (f_X11_isAuthor x1) = 0 then (some ((-1), σ)) else (if (zI σ 11 0 12) < 0 then (some ((-1), σ)) else (if (zI σ 11 0 12) < 10 then (zlt (zclr σ 7 o) fun σ5 => zlt (f_X7_init σ5 o x1) fun σ6 => (zix (zI σ 11 0 12) 10).bind fun i7 => zlt (zsO σ6 11 0 7 i7 (some o)) fun σ8 => zlt (zsI σ8 11 0 12 ((zI σ8 11 0 12) + 1)) fun σ9 => some (((zI σ9 11 0 12) - 1), σ9)) else (some ((-1), σ))))
def f_X1_draft (σ : zM) (o : Nat)  : Option (Nat × zM) := znu (zR σ 1 0 3) (zlt (zclr σ 0 o) fun σ2 => (f_X0_initB σ2 o).bind fun σ3 => zlt (zsR σ3 1 0 3 (some o)) fun σ4 => znu (zR σ4 1 0 3) none (fun j5 => some (j5, σ4))) (fun j1 => znu (zR σ 1 0 3) none (fun j7 => some (j7, σ)))
def f_X11_brief (σ : zM) (o : Nat) (x1 : Int32) : Option (Int32 × zM) := if (f_X9_holds σ x1) = 0 then (some ((-2), σ)) else (if (f_X1_isFull σ) = 0 then ((f_X1_draft σ o).bind fun q5 => (f_X4_read q5.2 x1 q5.1).bind fun q6 => zlt (f_X9_clear q6.2) fun σ8 => if q6.1 = 0 then ((f_X4_place σ8).bind fun r11 => zlt (zsI σ8 11 0 11 r11) fun σ13 => if q6.1 = 0 then (some ((-1), σ13)) else (zlt (f_X8_forgetMend σ13) fun σ15 => (f_X1_take σ15 q5.1 (zI σ15 11 0 10)).bind fun q17 => some (q17.1, q17.2))) else (zlt (zsI σ8 11 0 11 (-1)) fun σ19 => if q6.1 = 0 then (some ((-1), σ19)) else (zlt (f_X8_forgetMend σ19) fun σ21 => (f_X1_take σ21 q5.1 (zI σ21 11 0 10)).bind fun q23 => some (q23.1, q23.2)))) else (some ((-3), σ)))
set_option maxRecDepth 100000 in
set_option maxHeartbeats 4000000 in
theorem c_X11_scheme_n (l : Launch) (D : va_G) (aC : Nat → ClassId) (zs : Nat × Nat) (A : Nat → Prop) (nl nlF : zNL) (ad : Nat → Nat → Nat → Nat) (σ : zM) (o : Nat) (x1 : Int32) (r : Int32) (σ' : zM) (hfr1 : ∀ k, (7, o, k) ∉ nl.1) (hfr2 : ∀ k, (7, o, k) ∉ nl.2) (hnlF : nlF = (nl.1 ++ [(7, o, 0), (7, o, 3), (7, o, 4), (7, o, 5)], nl.2)) (hc0 : ¬ ((f_X11_isAuthor x1) = 0)) (hc1 : ¬ ((zI σ 11 0 12) < 0)) (hc2 : (zI σ 11 0 12) < 10) (hf : f_X11_scheme σ o x1 = some (r, σ')) : Met l yX11_scheme (Cond.code yX11_scheme cX11_scheme 2 (some .int) :: wsL_law) ({ frames := 2, cells := 4, slots := 263, locals := 33 } : Room) (zPm D aC zs zfX A nl ad σ [.ref (ad 11 0 0), .int x1] (fun sz => ad 7 o 0 = sz + 0 ∧ ad 7 o 3 = sz + 1 ∧ ad 7 o 4 = sz + 2 ∧ ad 7 o 5 = sz + 3 ∧ True)) (zQ (some (.int r)) (fun t => zG D aC A nlF ad σ' t t.heap ∧ True) A) 4 263 A := by
  refine Met.ofW (cc := cX11_scheme) (maxL := 2) (ret := (some .int)) (by decide) rfl ?_
  intro p e s m args below meth c s₁ B hml hv
  obtain ⟨rfl, ⟨hG, hZ⟩, hp0, hp1, hp2, hp3, -⟩ := hv
  have hx := B.exec
  have hb := B.bytes
  have hr := B.returns
  have hts : ∀ w ∈ wsL_law, w.before ([.ref (ad 11 0 0), .int x1] : List Value).toArray s = true := fun w h => (atoms_spec B.pre) w (List.mem_cons_of_mem _ h)
  have hown : s.vm.findClass RX11 = some m.cls := findClass_of_methodNamed B.named
  have hlocks := B.notSynchronized
  have S : zS p m c cX11_scheme 2 s ([.ref (ad 11 0 0), .int x1] : List Value).toArray RX11 := ⟨hx, hb, hml, hown, hts⟩
  have hS : va_S A s.heap s.heap [] := va_S.rf
  have hl := lv_entry ([.ref (ad 11 0 0), .int x1]) (n := 2) (Nat.le_of_ble_eq_true rfl)
  rw [lg_entry_eq]
  generalize (lg_sl ([.ref (ad 11 0 0), .int x1]) ++ List.replicate (2 - (lg_sl ([.ref (ad 11 0 0), .int x1])).length) Slot.unset).toArray = ls at hl ⊢
  have hl : lv_has ls 2 [(0, .ref (ad 11 0 0)), (1, .int x1)] := hl
  generalize hargs : ([.ref (ad 11 0 0), .int x1] : List Value).toArray = args at S hts ⊢
  clear hargs
  unfold f_X11_scheme at hf
  obtain ⟨H, eH⟩ : ∃ x, x = s.heap := ⟨_, rfl⟩
  have hG : zG D aC A nl ad σ s H := by rw [eH]; exact hG
  have hS : va_S A s.heap H [] := by rw [eH]; exact hS
  have hK0 : W p l e ({ frames := 2, cells := 4, slots := 263, locals := 33 } : Room) s m args below meth c H [] 0 0 (MQ below (zQ (some (.int r)) (fun t => zG D aC A nlF ad σ' t t.heap ∧ True) A) args s 4 263 A) (F0 m 0 ls []) := by
    refine lv_iload_n hx hb dX11_scheme_0 rfl (lv_at hl 1 rfl) ?_
    refine z_callS (n := 1) (rest := []) (st1 := [.int (f_X11_isAuthor x1)]) S hG hS hZ (fun _ _ h => h) (c_X11_isAuthor l D aC zs A nl ad σ x1 (f_X11_isAuthor x1) rfl) zw_784 zw_785 zw_2 zw_786 (by decide +kernel) ⟨rfl, rfl⟩ ⟨(Nat.le_of_ble_eq_true rfl), (Nat.le_of_ble_eq_true rfl)⟩ hl.1 rfl (by rfl) (by rfl) (Nat.le_of_ble_eq_true rfl) dX11_scheme_1 ⟨Nat.zero_le _, Nat.zero_le _⟩ (fun H locs hz1 hG hS => ?_)
    refine lv_if_eq (tgt := 26) hx hb dX11_scheme_4 (by decide) (fun c2 => ?_) (fun c2 => ?_)
    · have hf := zif_p c2 hf
      exact absurd (show (f_X11_isAuthor x1) = 0 from c2) (hc0)
    · have hf := zif_n c2 hf
      refine lv_aload_n hx hb dX11_scheme_7 rfl (lv_at hl 0 rfl) ?_
      refine z_get (c0 := 11) (i0 := 0) (k0 := 12) (T := TX11) (v := .int (zI σ 11 0 12)) S hG (hZ.2.1 (11, 0) (by decide)) rfl inlX11 (by decide) rfl zw_50 rfl dX11_scheme_8 ?_
      refine lv_if_lt (tgt := 26) hx hb dX11_scheme_11 (by decide) (fun c3 => ?_) (fun c3 => ?_)
      · have hf := zif_p c3 hf
        exact absurd (show (zI σ 11 0 12) < 0 from c3) (hc1)
      · have hf := zif_n c3 hf
        refine lv_aload_n hx hb dX11_scheme_14 rfl (lv_at hl 0 rfl) ?_
        refine z_get (c0 := 11) (i0 := 0) (k0 := 12) (T := TX11) (v := .int (zI σ 11 0 12)) S hG (hZ.2.1 (11, 0) (by decide)) rfl inlX11 (by decide) rfl zw_50 rfl dX11_scheme_15 ?_
        refine lv_aload_n hx hb dX11_scheme_18 rfl (lv_at hl 0 rfl) ?_
        refine z_get (c0 := 11) (i0 := 0) (k0 := 7) (T := TX11) (v := .ref (ad 11 0 8)) S hG (hZ.2.1 (11, 0) (by decide)) rfl inlX11 (by decide) rfl zw_42 rfl dX11_scheme_19 ?_
        refine z_alen (c0 := 11) (i0 := 0) (k0 := 7) (n := 8) (v := 10) S hG (hZ.2.1 (11, 0) (by decide)) (by decide) rfl (by decide) (by rfl) dX11_scheme_22 ?_
        refine lv_icmp_lt (tgt := 28) hx hb dX11_scheme_23 (by decide) (fun c4 => ?_) (fun c4 => ?_)
        · have hf := zif_p c4 hf
          refine lv_aload_n hx hb dX11_scheme_28 rfl (lv_at hl 0 rfl) ?_
          refine z_get (c0 := 11) (i0 := 0) (k0 := 7) (T := TX11) (v := .ref (ad 11 0 8)) S hG (hZ.2.1 (11, 0) (by decide)) rfl inlX11 (by decide) rfl zw_42 rfl dX11_scheme_29 ?_
          refine lv_aload_n hx hb dX11_scheme_32 rfl (lv_at hl 0 rfl) ?_
          refine z_get (c0 := 11) (i0 := 0) (k0 := 12) (T := TX11) (v := .int (zI σ 11 0 12)) S hG (hZ.2.1 (11, 0) (by decide)) rfl inlX11 (by decide) rfl zw_50 rfl dX11_scheme_33 ?_
          refine W_size (fun hle => ?_)
          have hsz : H.size = s.heap.size := Nat.le_antisymm hle hS.1
          refine zc_new (c0 := 7) (i0 := o) (C := RX7) (T := TX7) S hG hS hZ.1 tyX7 tyX7_ok rfl inlX7 zw_41 zw_782 zw_783 [2, 3, 4] (by decide +kernel) (by decide +kernel) (by decide +kernel) (hfr1 0) hfr2 (hp0.trans hsz.symm) (Nat.le_of_ble_eq_true rfl) (Nat.le_of_ble_eq_true rfl) dX11_scheme_36 ?_
          clear hG hS hle hsz
          intro H _ hG hS
          obtain ⟨σ5, eσ5, hf⟩ := zlt_s hf
          rw [← eσ5] at hG
          refine lv_dup hx hb dX11_scheme_39 rfl ?_
          refine lv_iload_n hx hb dX11_scheme_40 rfl (lv_at hl 1 rfl) ?_
          obtain ⟨σ6, eσ6, hf⟩ := zlt_s hf
          refine W_size (fun hle => ?_)
          have hsz : H.size = s.heap.size + 1 := by
            have h3 := zG_lt hG (q := (7, o, 0)) zm_l
            simp only [zad, hp0] at h3
            omega
          refine z_callI (n := 1) (rest := [.ref (ad 7 o 0), .int (zI σ 11 0 12), .ref (ad 11 0 8)]) (c0 := 7) (i0 := o) (fx' := []) (nl' := ((nl.1 ++ [(7, o, 0)]) ++ [(7, o, 3), (7, o, 4), (7, o, 5)], nl.2)) S hG hS hZ (fun _ h => by cases h) (c_X7_init l D aC zs A (nl.1 ++ [(7, o, 0)]) nl.2 ad σ5 o x1 σ6 zm_l (zfr_n hfr1) (fun _ _ h => by cases h) (zhn hfr2) eσ6.symm) ⟨hp1.trans (by rw [hsz]), hp2.trans (by rw [hsz]), hp3.trans (by rw [hsz]), trivial⟩ zw_787 zw_788 zw_783 zw_789 rfl (by decide +kernel) ⟨rfl, rfl⟩ ⟨(Nat.le_of_ble_eq_true rfl), (Nat.le_of_ble_eq_true rfl)⟩ hl.1 rfl (by rfl) (Nat.le_of_ble_eq_true rfl) dX11_scheme_41 ⟨(Nat.le_of_ble_eq_true rfl), (Nat.le_of_ble_eq_true rfl)⟩ ?_
          clear hG hS hle hsz
          intro H locs _ hG hS
          have hG : zG D aC A nlF ad σ6 s H := by have h := hG; rw [List.append_assoc] at h; rw [hnlF]; exact h
          have h_new : zin nlF 7 o := by
            rw [hnlF]
            refine ⟨List.mem_append_right _ (by simp), fun k h1 h2 => ?_, hfr2⟩
            have hk := (by decide +kernel : ∀ k, k < zN 7 → 4 ≤ zkd 7 k → k ∈ [2, 3, 4]) k h1 h2
            simp only [List.mem_cons, List.not_mem_nil, or_false] at hk
            rcases hk with rfl | rfl | rfl <;> exact List.mem_append_right _ (by simp)
          have hZ : zH zs zfX A nlF s := ⟨hZ.1, fun q hq => (by rw [hnlF]; exact zin_app (hZ.2.1 q hq)), hZ.2.2⟩
          obtain ⟨nl, hnl2⟩ : ∃ x : zNL, x = nlF := ⟨_, rfl⟩
          rw [← hnl2] at hG hZ
          rw [← hnl2] at h_new
          rw [← hnl2]
          obtain ⟨i7, hi7, hf⟩ := zbi hf
          refine z_aast8 (c0 := 11) (i0 := 0) (k0 := 7) S hG hS (hZ.2.1 (11, 0) (by decide)) (by decide) rfl h_new hi7 dX11_scheme_44 (fun H locs hG hS => ?_)
          obtain ⟨σ8, eσ8, hf⟩ := zlt_s hf
          rw [← eσ8] at hG
          refine lv_aload_n hx hb dX11_scheme_45 rfl (lv_at hl 0 rfl) ?_
          refine lv_dup hx hb dX11_scheme_46 rfl ?_
          refine z_get (c0 := 11) (i0 := 0) (k0 := 12) (T := TX11) (v := .int (zI σ8 11 0 12)) S hG (hZ.2.1 (11, 0) (by decide)) rfl inlX11 (by decide) rfl zw_50 rfl dX11_scheme_47 ?_
          refine lv_iconst (v := 1) hx hb dX11_scheme_50 (by decide) ?_
          refine lv_iadd hx hb dX11_scheme_51 ?_
          refine z_putI (c0 := 11) (i0 := 0) (k0 := 12) (T := TX11) S hG hS tyX11 tyX11_ok nmX11 (hZ.2.1 (11, 0) (by decide)) rfl inlX11 (by decide) rfl rfl zw_50 (by decide +kernel) rfl dX11_scheme_52 (fun H locs hG hS => ?_)
          obtain ⟨σ9, eσ9, hf⟩ := zlt_s hf
          rw [← eσ9] at hG
          refine lv_aload_n hx hb dX11_scheme_55 rfl (lv_at hl 0 rfl) ?_
          refine z_get (c0 := 11) (i0 := 0) (k0 := 12) (T := TX11) (v := .int (zI σ9 11 0 12)) S hG (hZ.2.1 (11, 0) (by decide)) rfl inlX11 (by decide) rfl zw_50 rfl dX11_scheme_56 ?_
          refine lv_iconst (v := 1) hx hb dX11_scheme_59 (by decide) ?_
          refine lv_isub hx hb dX11_scheme_60 ?_
          obtain ⟨hq1, hq2⟩ := Prod.mk.inj (Option.some.inj hf)
          subst hq1
          subst hq2
          exact z_iret S hG hS hlocks trivial hr dX11_scheme_61
        · have hf := zif_n c4 hf
          exact absurd (hc2) (show ¬ ((zI σ 11 0 12) < 10) from c4)
  rw [eH] at hK0
  exact hK0
set_option maxRecDepth 100000 in
set_option maxHeartbeats 4000000 in
theorem c_X11_scheme_s (l : Launch) (D : va_G) (aC : Nat → ClassId) (zs : Nat × Nat) (A : Nat → Prop) (nl : zNL) (ad : Nat → Nat → Nat → Nat) (σ : zM) (o : Nat) (x1 : Int32) (r : Int32) (σ' : zM) (hs : ¬ (¬ ((f_X11_isAuthor x1) = 0) ∧ ¬ ((zI σ 11 0 12) < 0) ∧ (zI σ 11 0 12) < 10)) (hf : f_X11_scheme σ o x1 = some (r, σ')) : Met l yX11_scheme (Cond.code yX11_scheme cX11_scheme 2 (some .int) :: wsL_law) ({ frames := 2, cells := 0, slots := 0, locals := 33 } : Room) (zP D aC zs zfX A nl ad σ [.ref (ad 11 0 0), .int x1]) (zQ (some (.int r)) (fun t => zG D aC A nl ad σ' t t.heap ∧ True) A) 0 0 A := by
  refine Met.ofW (cc := cX11_scheme) (maxL := 2) (ret := (some .int)) (by decide) rfl ?_
  intro p e s m args below meth c s₁ B hml hv
  obtain ⟨rfl, hG, hZ⟩ := hv
  have hx := B.exec
  have hb := B.bytes
  have hr := B.returns
  have hts : ∀ w ∈ wsL_law, w.before ([.ref (ad 11 0 0), .int x1] : List Value).toArray s = true := fun w h => (atoms_spec B.pre) w (List.mem_cons_of_mem _ h)
  have hown : s.vm.findClass RX11 = some m.cls := findClass_of_methodNamed B.named
  have hlocks := B.notSynchronized
  have S : zS p m c cX11_scheme 2 s ([.ref (ad 11 0 0), .int x1] : List Value).toArray RX11 := ⟨hx, hb, hml, hown, hts⟩
  have hS : va_S A s.heap s.heap [] := va_S.rf
  have hl := lv_entry ([.ref (ad 11 0 0), .int x1]) (n := 2) (Nat.le_of_ble_eq_true rfl)
  rw [lg_entry_eq]
  generalize (lg_sl ([.ref (ad 11 0 0), .int x1]) ++ List.replicate (2 - (lg_sl ([.ref (ad 11 0 0), .int x1])).length) Slot.unset).toArray = ls at hl ⊢
  have hl : lv_has ls 2 [(0, .ref (ad 11 0 0)), (1, .int x1)] := hl
  generalize hargs : ([.ref (ad 11 0 0), .int x1] : List Value).toArray = args at S hts ⊢
  clear hargs
  unfold f_X11_scheme at hf
  obtain ⟨H, eH⟩ : ∃ x, x = s.heap := ⟨_, rfl⟩
  have hG : zG D aC A nl ad σ s H := by rw [eH]; exact hG
  have hS : va_S A s.heap H [] := by rw [eH]; exact hS
  have hK0 : W p l e ({ frames := 2, cells := 0, slots := 0, locals := 33 } : Room) s m args below meth c H [] 0 0 (MQ below (zQ (some (.int r)) (fun t => zG D aC A nl ad σ' t t.heap ∧ True) A) args s 0 0 A) (F0 m 0 ls []) := by
    refine lv_iload_n hx hb dX11_scheme_0 rfl (lv_at hl 1 rfl) ?_
    refine z_callS (n := 1) (rest := []) (st1 := [.int (f_X11_isAuthor x1)]) S hG hS hZ (fun _ _ h => h) (c_X11_isAuthor l D aC zs A nl ad σ x1 (f_X11_isAuthor x1) rfl) zw_784 zw_785 zw_2 zw_786 (by decide +kernel) ⟨rfl, rfl⟩ ⟨(Nat.le_of_ble_eq_true rfl), (Nat.le_of_ble_eq_true rfl)⟩ hl.1 rfl (by rfl) (by rfl) (Nat.le_of_ble_eq_true rfl) dX11_scheme_1 ⟨Nat.zero_le _, Nat.zero_le _⟩ (fun H locs hz1 hG hS => ?_)
    refine lv_if_eq (tgt := 26) hx hb dX11_scheme_4 (by decide) (fun c2 => ?_) (fun c2 => ?_)
    · have hf := zif_p c2 hf
      refine lv_iconst (v := (-1)) hx hb dX11_scheme_26 (by decide) ?_
      obtain ⟨hq1, hq2⟩ := Prod.mk.inj (Option.some.inj hf)
      subst hq1
      subst hq2
      exact z_iret S hG hS hlocks trivial hr dX11_scheme_27
    · have hf := zif_n c2 hf
      have hc0 : ¬ ((f_X11_isAuthor x1) = 0) := c2
      refine lv_aload_n hx hb dX11_scheme_7 rfl (lv_at hl 0 rfl) ?_
      refine z_get (c0 := 11) (i0 := 0) (k0 := 12) (T := TX11) (v := .int (zI σ 11 0 12)) S hG (hZ.2.1 (11, 0) (by decide)) rfl inlX11 (by decide) rfl zw_50 rfl dX11_scheme_8 ?_
      refine lv_if_lt (tgt := 26) hx hb dX11_scheme_11 (by decide) (fun c3 => ?_) (fun c3 => ?_)
      · have hf := zif_p c3 hf
        refine lv_iconst (v := (-1)) hx hb dX11_scheme_26 (by decide) ?_
        obtain ⟨hq1, hq2⟩ := Prod.mk.inj (Option.some.inj hf)
        subst hq1
        subst hq2
        exact z_iret S hG hS hlocks trivial hr dX11_scheme_27
      · have hf := zif_n c3 hf
        have hc1 : ¬ ((zI σ 11 0 12) < 0) := c3
        refine lv_aload_n hx hb dX11_scheme_14 rfl (lv_at hl 0 rfl) ?_
        refine z_get (c0 := 11) (i0 := 0) (k0 := 12) (T := TX11) (v := .int (zI σ 11 0 12)) S hG (hZ.2.1 (11, 0) (by decide)) rfl inlX11 (by decide) rfl zw_50 rfl dX11_scheme_15 ?_
        refine lv_aload_n hx hb dX11_scheme_18 rfl (lv_at hl 0 rfl) ?_
        refine z_get (c0 := 11) (i0 := 0) (k0 := 7) (T := TX11) (v := .ref (ad 11 0 8)) S hG (hZ.2.1 (11, 0) (by decide)) rfl inlX11 (by decide) rfl zw_42 rfl dX11_scheme_19 ?_
        refine z_alen (c0 := 11) (i0 := 0) (k0 := 7) (n := 8) (v := 10) S hG (hZ.2.1 (11, 0) (by decide)) (by decide) rfl (by decide) (by rfl) dX11_scheme_22 ?_
        refine lv_icmp_lt (tgt := 28) hx hb dX11_scheme_23 (by decide) (fun c4 => ?_) (fun c4 => ?_)
        · have hf := zif_p c4 hf
          have hc2 : (zI σ 11 0 12) < 10 := c4
          refine lv_aload_n hx hb dX11_scheme_28 rfl (lv_at hl 0 rfl) ?_
          refine z_get (c0 := 11) (i0 := 0) (k0 := 7) (T := TX11) (v := .ref (ad 11 0 8)) S hG (hZ.2.1 (11, 0) (by decide)) rfl inlX11 (by decide) rfl zw_42 rfl dX11_scheme_29 ?_
          refine lv_aload_n hx hb dX11_scheme_32 rfl (lv_at hl 0 rfl) ?_
          refine z_get (c0 := 11) (i0 := 0) (k0 := 12) (T := TX11) (v := .int (zI σ 11 0 12)) S hG (hZ.2.1 (11, 0) (by decide)) rfl inlX11 (by decide) rfl zw_50 rfl dX11_scheme_33 ?_
          exact (hs ⟨hc0, hc1, hc2⟩).elim
        · have hf := zif_n c4 hf
          refine lv_iconst (v := (-1)) hx hb dX11_scheme_26 (by decide) ?_
          obtain ⟨hq1, hq2⟩ := Prod.mk.inj (Option.some.inj hf)
          subst hq1
          subst hq2
          exact z_iret S hG hS hlocks trivial hr dX11_scheme_27
  rw [eH] at hK0
  exact hK0
set_option maxRecDepth 100000 in
set_option maxHeartbeats 4000000 in
theorem c_X1_draft_n (l : Launch) (D : va_G) (aC : Nat → ClassId) (zs : Nat × Nat) (A : Nat → Prop) (nl nlF : zNL) (ad : Nat → Nat → Nat → Nat) (σ : zM) (o : Nat)  (r : Nat) (σ' : zM) (hfr1 : ∀ k, (0, o, k) ∉ nl.1) (hfr2 : ∀ k, (0, o, k) ∉ nl.2) (ho : o < 7) (hnlF : nlF = (nl.1 ++ [(0, o, 0), (0, o, 6), (0, o, 7), (0, o, 1), (0, o, 2), (0, o, 3), (0, o, 4), (0, o, 5)], nl.2)) (hE : zR σ 1 0 3 = none) (hf : f_X1_draft σ o = some (r, σ')) : Met l yX1_draft (Cond.code yX1_draft cX1_draft 1 (some (.object "BuildingJury$Brief")) :: wsL_law) ({ frames := 2, cells := 8, slots := 494, locals := 44 } : Room) (zPm D aC zs zfX A nl ad σ [.ref (ad 1 0 0)] (fun sz => ad 0 o 0 = sz + 0 ∧ ad 0 o 6 = sz + 1 ∧ ad 0 o 7 = sz + 2 ∧ ad 0 o 1 = sz + 3 ∧ ad 0 o 2 = sz + 4 ∧ ad 0 o 3 = sz + 5 ∧ ad 0 o 4 = sz + 6 ∧ ad 0 o 5 = sz + 7 ∧ True)) (zQ (some (.ref (ad 0 r 0))) (fun t => zG D aC A nlF ad σ' t t.heap ∧ zin nlF 0 r) A) 8 494 A := by
  refine Met.ofW (cc := cX1_draft) (maxL := 1) (ret := (some (.object "BuildingJury$Brief"))) (by decide) rfl ?_
  intro p e s m args below meth c s₁ B hml hv
  obtain ⟨rfl, ⟨hG, hZ⟩, hp0, hp1, hp2, hp3, hp4, hp5, hp6, hp7, -⟩ := hv
  have hx := B.exec
  have hb := B.bytes
  have hr := B.returns
  have hts : ∀ w ∈ wsL_law, w.before ([.ref (ad 1 0 0)] : List Value).toArray s = true := fun w h => (atoms_spec B.pre) w (List.mem_cons_of_mem _ h)
  have hown : s.vm.findClass RX1 = some m.cls := findClass_of_methodNamed B.named
  have hlocks := B.notSynchronized
  have S : zS p m c cX1_draft 1 s ([.ref (ad 1 0 0)] : List Value).toArray RX1 := ⟨hx, hb, hml, hown, hts⟩
  have hS : va_S A s.heap s.heap [] := va_S.rf
  have hl := lv_entry ([.ref (ad 1 0 0)]) (n := 1) (Nat.le_of_ble_eq_true rfl)
  rw [lg_entry_eq]
  generalize (lg_sl ([.ref (ad 1 0 0)]) ++ List.replicate (1 - (lg_sl ([.ref (ad 1 0 0)])).length) Slot.unset).toArray = ls at hl ⊢
  have hl : lv_has ls 1 [(0, .ref (ad 1 0 0))] := hl
  generalize hargs : ([.ref (ad 1 0 0)] : List Value).toArray = args at S hts ⊢
  clear hargs
  unfold f_X1_draft at hf
  obtain ⟨H, eH⟩ : ∃ x, x = s.heap := ⟨_, rfl⟩
  have hG : zG D aC A nl ad σ s H := by rw [eH]; exact hG
  have hS : va_S A s.heap H [] := by rw [eH]; exact hS
  have hK0 : W p l e ({ frames := 2, cells := 8, slots := 494, locals := 44 } : Room) s m args below meth c H [] 0 0 (MQ below (zQ (some (.ref (ad 0 r 0))) (fun t => zG D aC A nlF ad σ' t t.heap ∧ zin nlF 0 r) A) args s 8 494 A) (F0 m 0 ls []) := by
    refine lv_aload_n hx hb dX1_draft_0 rfl (lv_at hl 0 rfl) ?_
    refine z_get (c0 := 1) (i0 := 0) (k0 := 3) (T := TX1) (v := va_rf (Option.map (fun j => ad 0 j 0) (zR σ 1 0 3))) S hG (hZ.2.1 (1, 0) (by decide)) rfl inlX1 (by decide) rfl zw_79 rfl dX1_draft_1 ?_
    have hf := znu_n0 hE hf
    refine W.eq (g2 := F0 m 4 ls [.null]) (by rw [hE]; rfl) ?_
    refine lv_ifnonnullN hx hb dX1_draft_4 ?_
    refine lv_aload_n hx hb dX1_draft_7 rfl (lv_at hl 0 rfl) ?_
    refine W_size (fun hle => ?_)
    have hsz : H.size = s.heap.size := Nat.le_antisymm hle hS.1
    refine zc_new (c0 := 0) (i0 := o) (C := RX0) (T := TX0) S hG hS hZ.1 tyX0 tyX0_ok rfl inlX0 zw_73 zw_75 zw_76 [5, 6, 0, 1, 2, 3, 4] (by decide +kernel) (by decide +kernel) (by decide +kernel) (hfr1 0) hfr2 (hp0.trans hsz.symm) (Nat.le_of_ble_eq_true rfl) (Nat.le_of_ble_eq_true rfl) dX1_draft_8 ?_
    clear hG hS hle hsz
    intro H _ hG hS
    obtain ⟨σ2, eσ2, hf⟩ := zlt_s hf
    rw [← eσ2] at hG
    refine lv_dup hx hb dX1_draft_11 rfl ?_
    refine lv_bipush (v := 40) hx hb dX1_draft_12 (by decide) ?_
    refine lv_sipush (v := 300) hx hb dX1_draft_14 (by decide) ?_
    obtain ⟨σ3, eσ3, hf⟩ := zbi hf
    refine W_size (fun hle => ?_)
    have hsz : H.size = s.heap.size + 1 := by
      have h3 := zG_lt hG (q := (0, o, 0)) zm_l
      simp only [zad, hp0] at h3
      omega
    refine z_callI (n := 2) (rest := [.ref (ad 0 o 0), .ref (ad 1 0 0)]) (c0 := 0) (i0 := o) (fx' := []) (nl' := ((nl.1 ++ [(0, o, 0)]) ++ [(0, o, 6), (0, o, 7), (0, o, 1), (0, o, 2), (0, o, 3), (0, o, 4), (0, o, 5)], nl.2)) S hG hS hZ (fun _ h => by cases h) (c_X0_initB l D aC zs A (nl.1 ++ [(0, o, 0)]) nl.2 ad σ2 o σ3 zm_l (zfr_n hfr1) (fun _ _ h => by cases h) (zhn hfr2) ho eσ3) ⟨hp1.trans (by rw [hsz]), hp2.trans (by rw [hsz]), hp3.trans (by rw [hsz]), hp4.trans (by rw [hsz]), hp5.trans (by rw [hsz]), hp6.trans (by rw [hsz]), hp7.trans (by rw [hsz]), trivial⟩ zw_80 zw_81 zw_76 zw_82 rfl (by decide +kernel) ⟨rfl, rfl⟩ ⟨(Nat.le_of_ble_eq_true rfl), (Nat.le_of_ble_eq_true rfl)⟩ hl.1 rfl (by rfl) (Nat.le_of_ble_eq_true rfl) dX1_draft_17 ⟨(Nat.le_of_ble_eq_true rfl), (Nat.le_of_ble_eq_true rfl)⟩ ?_
    clear hG hS hle hsz
    intro H locs _ hG hS
    have hG : zG D aC A nlF ad σ3 s H := by have h := hG; rw [List.append_assoc] at h; rw [hnlF]; exact h
    have h_new : zin nlF 0 o := by
      rw [hnlF]
      refine ⟨List.mem_append_right _ (by simp), fun k h1 h2 => ?_, hfr2⟩
      have hk := (by decide +kernel : ∀ k, k < zN 0 → 4 ≤ zkd 0 k → k ∈ [0, 1, 2, 3, 4, 5, 6]) k h1 h2
      simp only [List.mem_cons, List.not_mem_nil, or_false] at hk
      rcases hk with rfl | rfl | rfl | rfl | rfl | rfl | rfl <;> exact List.mem_append_right _ (by simp)
    have hZ : zH zs zfX A nlF s := ⟨hZ.1, fun q hq => (by rw [hnlF]; exact zin_app (hZ.2.1 q hq)), hZ.2.2⟩
    obtain ⟨nl, hnl2⟩ : ∃ x : zNL, x = nlF := ⟨_, rfl⟩
    rw [← hnl2] at hG hZ
    rw [← hnl2] at h_new
    rw [← hnl2]
    refine z_putR (x := (some o)) (cn := RX0) (c0 := 1) (i0 := 0) (k0 := 3) (T := TX1) S hG hS tyX1 tyX1_ok nmX1 (hZ.2.1 (1, 0) (by decide)) rfl inlX1 (by decide) rfl rfl zw_79 (by rfl) (by decide +kernel) rfl (fun _ h => by cases h; exact h_new) dX1_draft_20 (fun H locs hG hS => ?_)
    obtain ⟨σ4, eσ4, hf⟩ := zlt_s hf
    rw [← eσ4] at hG
    refine lv_aload_n hx hb dX1_draft_23 rfl (lv_at hl 0 rfl) ?_
    refine z_get (c0 := 1) (i0 := 0) (k0 := 3) (T := TX1) (v := va_rf (Option.map (fun j => ad 0 j 0) (zR σ4 1 0 3))) S hG (hZ.2.1 (1, 0) (by decide)) rfl inlX1 (by decide) rfl zw_79 rfl dX1_draft_24 ?_
    rcases hE6 : (zR σ4 1 0 3) with _ | j5
    · have hf := znu_n0 hE6 hf
      cases hf
    · have hf := znu_s0 hE6 hf
      refine W.eq (g2 := F0 m 27 ls [.ref (ad 0 j5 0)]) (by first | rfl | (rw [hE6]; rfl)) ?_
      obtain ⟨hq1, hq2⟩ := Prod.mk.inj (Option.some.inj hf)
      subst hq1
      subst hq2
      exact z_aret S hG hS hlocks (by exact ((fun j h => hG.2.2.2.1 1 0 3 j rfl h) j5 hE6)) hr (Or.inl ⟨_, rfl⟩) (Or.inr ⟨_, rfl⟩) dX1_draft_27
  rw [eH] at hK0
  exact hK0
set_option maxRecDepth 100000 in
set_option maxHeartbeats 4000000 in
theorem c_X1_draft_s (l : Launch) (D : va_G) (aC : Nat → ClassId) (zs : Nat × Nat) (A : Nat → Prop) (nl : zNL) (ad : Nat → Nat → Nat → Nat) (σ : zM) (o : Nat)  (r : Nat) (σ' : zM) (hEs : ∃ j, zR σ 1 0 3 = some j) (hf : f_X1_draft σ o = some (r, σ')) : Met l yX1_draft (Cond.code yX1_draft cX1_draft 1 (some (.object "BuildingJury$Brief")) :: wsL_law) ({ frames := 2, cells := 0, slots := 0, locals := 44 } : Room) (zP D aC zs zfX A nl ad σ [.ref (ad 1 0 0)]) (zQ (some (.ref (ad 0 r 0))) (fun t => zG D aC A nl ad σ' t t.heap ∧ zin nl 0 r) A) 0 0 A := by
  refine Met.ofW (cc := cX1_draft) (maxL := 1) (ret := (some (.object "BuildingJury$Brief"))) (by decide) rfl ?_
  intro p e s m args below meth c s₁ B hml hv
  obtain ⟨rfl, hG, hZ⟩ := hv
  have hx := B.exec
  have hb := B.bytes
  have hr := B.returns
  have hts : ∀ w ∈ wsL_law, w.before ([.ref (ad 1 0 0)] : List Value).toArray s = true := fun w h => (atoms_spec B.pre) w (List.mem_cons_of_mem _ h)
  have hown : s.vm.findClass RX1 = some m.cls := findClass_of_methodNamed B.named
  have hlocks := B.notSynchronized
  have S : zS p m c cX1_draft 1 s ([.ref (ad 1 0 0)] : List Value).toArray RX1 := ⟨hx, hb, hml, hown, hts⟩
  have hS : va_S A s.heap s.heap [] := va_S.rf
  have hl := lv_entry ([.ref (ad 1 0 0)]) (n := 1) (Nat.le_of_ble_eq_true rfl)
  rw [lg_entry_eq]
  generalize (lg_sl ([.ref (ad 1 0 0)]) ++ List.replicate (1 - (lg_sl ([.ref (ad 1 0 0)])).length) Slot.unset).toArray = ls at hl ⊢
  have hl : lv_has ls 1 [(0, .ref (ad 1 0 0))] := hl
  generalize hargs : ([.ref (ad 1 0 0)] : List Value).toArray = args at S hts ⊢
  clear hargs
  unfold f_X1_draft at hf
  obtain ⟨H, eH⟩ : ∃ x, x = s.heap := ⟨_, rfl⟩
  have hG : zG D aC A nl ad σ s H := by rw [eH]; exact hG
  have hS : va_S A s.heap H [] := by rw [eH]; exact hS
  have hK0 : W p l e ({ frames := 2, cells := 0, slots := 0, locals := 44 } : Room) s m args below meth c H [] 0 0 (MQ below (zQ (some (.ref (ad 0 r 0))) (fun t => zG D aC A nl ad σ' t t.heap ∧ zin nl 0 r) A) args s 0 0 A) (F0 m 0 ls []) := by
    refine lv_aload_n hx hb dX1_draft_0 rfl (lv_at hl 0 rfl) ?_
    refine z_get (c0 := 1) (i0 := 0) (k0 := 3) (T := TX1) (v := va_rf (Option.map (fun j => ad 0 j 0) (zR σ 1 0 3))) S hG (hZ.2.1 (1, 0) (by decide)) rfl inlX1 (by decide) rfl zw_79 rfl dX1_draft_1 ?_
    obtain ⟨j1, hE⟩ : ∃ j, (zR σ 1 0 3) = some j := hEs
    have hf := znu_s0 hE hf
    refine W.eq (g2 := F0 m 4 ls [.ref (ad 0 j1 0)]) (by rw [hE]; rfl) ?_
    refine lv_ifnonnull (tgt := 23) hx hb dX1_draft_4 (by decide) ?_
    refine lv_aload_n hx hb dX1_draft_23 rfl (lv_at hl 0 rfl) ?_
    refine z_get (c0 := 1) (i0 := 0) (k0 := 3) (T := TX1) (v := va_rf (Option.map (fun j => ad 0 j 0) (zR σ 1 0 3))) S hG (hZ.2.1 (1, 0) (by decide)) rfl inlX1 (by decide) rfl zw_79 rfl dX1_draft_24 ?_
    rcases hE8 : (zR σ 1 0 3) with _ | j7
    · have hf := znu_n0 hE8 hf
      cases hf
    · have hf := znu_s0 hE8 hf
      refine W.eq (g2 := F0 m 27 ls [.ref (ad 0 j7 0)]) (by first | rfl | (rw [hE8]; rfl)) ?_
      obtain ⟨hq1, hq2⟩ := Prod.mk.inj (Option.some.inj hf)
      subst hq1
      subst hq2
      exact z_aret S hG hS hlocks (by exact ((fun j h => hG.2.2.2.1 1 0 3 j rfl h) j7 hE8)) hr (Or.inl ⟨_, rfl⟩) (Or.inr ⟨_, rfl⟩) dX1_draft_27
  rw [eH] at hK0
  exact hK0
set_option maxRecDepth 100000 in
set_option maxHeartbeats 4000000 in
theorem c_X11_brief_n (l : Launch) (D : va_G) (aC : Nat → ClassId) (zs : Nat × Nat) (A : Nat → Prop) (nl nlF : zNL) (ad : Nat → Nat → Nat → Nat) (σ : zM) (o : Nat) (x1 : Int32) (r : Int32) (σ' : zM) (hfr1 : ∀ k, (0, o, k) ∉ nl.1) (hfr2 : ∀ k, (0, o, k) ∉ nl.2) (ho : o < 7) (hnlF : nlF = (nl.1 ++ [(0, o, 0), (0, o, 6), (0, o, 7), (0, o, 1), (0, o, 2), (0, o, 3), (0, o, 4), (0, o, 5)], nl.2)) (hc0 : ¬ ((f_X9_holds σ x1) = 0)) (hc1 : (f_X1_isFull σ) = 0) (hE : zR σ 1 0 3 = none) (hf : f_X11_brief σ o x1 = some (r, σ')) : Met l yX11_brief (Cond.code yX11_brief cX11_brief 4 (some .int) :: wsL_law) ({ frames := 67, cells := 8, slots := 494, locals := 1535 } : Room) (zPm D aC zs zfX A nl ad σ [.ref (ad 11 0 0), .int x1] (fun sz => ad 0 o 0 = sz + 0 ∧ ad 0 o 6 = sz + 1 ∧ ad 0 o 7 = sz + 2 ∧ ad 0 o 1 = sz + 3 ∧ ad 0 o 2 = sz + 4 ∧ ad 0 o 3 = sz + 5 ∧ ad 0 o 4 = sz + 6 ∧ ad 0 o 5 = sz + 7 ∧ True)) (zQ (some (.int r)) (fun t => zG D aC A nlF ad σ' t t.heap ∧ True) A) 8 494 A := by
  refine Met.ofW (cc := cX11_brief) (maxL := 4) (ret := (some .int)) (by decide) rfl ?_
  intro p e s m args below meth c s₁ B hml hv
  obtain ⟨rfl, ⟨hG, hZ⟩, hp0, hp1, hp2, hp3, hp4, hp5, hp6, hp7, -⟩ := hv
  have hx := B.exec
  have hb := B.bytes
  have hr := B.returns
  have hts : ∀ w ∈ wsL_law, w.before ([.ref (ad 11 0 0), .int x1] : List Value).toArray s = true := fun w h => (atoms_spec B.pre) w (List.mem_cons_of_mem _ h)
  have hown : s.vm.findClass RX11 = some m.cls := findClass_of_methodNamed B.named
  have hlocks := B.notSynchronized
  have S : zS p m c cX11_brief 4 s ([.ref (ad 11 0 0), .int x1] : List Value).toArray RX11 := ⟨hx, hb, hml, hown, hts⟩
  have hS : va_S A s.heap s.heap [] := va_S.rf
  have hl := lv_entry ([.ref (ad 11 0 0), .int x1]) (n := 4) (Nat.le_of_ble_eq_true rfl)
  rw [lg_entry_eq]
  generalize (lg_sl ([.ref (ad 11 0 0), .int x1]) ++ List.replicate (4 - (lg_sl ([.ref (ad 11 0 0), .int x1])).length) Slot.unset).toArray = ls at hl ⊢
  have hl : lv_has ls 4 [(0, .ref (ad 11 0 0)), (1, .int x1)] := hl
  generalize hargs : ([.ref (ad 11 0 0), .int x1] : List Value).toArray = args at S hts ⊢
  clear hargs
  unfold f_X11_brief at hf
  obtain ⟨H, eH⟩ : ∃ x, x = s.heap := ⟨_, rfl⟩
  have hG : zG D aC A nl ad σ s H := by rw [eH]; exact hG
  have hS : va_S A s.heap H [] := by rw [eH]; exact hS
  have hK0 : W p l e ({ frames := 67, cells := 8, slots := 494, locals := 1535 } : Room) s m args below meth c H [] 0 0 (MQ below (zQ (some (.int r)) (fun t => zG D aC A nlF ad σ' t t.heap ∧ True) A) args s 8 494 A) (F0 m 0 ls []) := by
    refine lv_aload_n hx hb dX11_brief_0 rfl (lv_at hl 0 rfl) ?_
    refine z_get (c0 := 11) (i0 := 0) (k0 := 0) (T := TX11) (v := .ref (ad 9 0 0)) S hG (hZ.2.1 (11, 0) (by decide)) rfl inlX11 (by decide) rfl zw_16 rfl dX11_brief_1 ?_
    refine lv_iload_n hx hb dX11_brief_4 rfl (lv_at hl 1 rfl) ?_
    refine z_callV (n := 1) (rest := []) (st1 := [.int (f_X9_holds σ x1)]) (c0 := 9) (i0 := 0) (hZ.2.1 (9, 0) (by decide)) (by rfl) S hG hS hZ (fun _ _ h => h) (c_X9_holds l D aC zs A nl ad σ x1 (f_X9_holds σ x1) rfl) zw_305 zw_306 zw_307 zw_15 zw_308 (by decide +kernel) ⟨rfl, rfl⟩ ⟨(Nat.le_of_ble_eq_true rfl), (Nat.le_of_ble_eq_true rfl)⟩ hl.1 rfl (by rfl) (by rfl) (Nat.le_of_ble_eq_true rfl) dX11_brief_5 ⟨Nat.zero_le _, Nat.zero_le _⟩ (fun H locs hz1 hG hS => ?_)
    refine lv_if_ne (tgt := 14) hx hb dX11_brief_8 (by decide) (fun c2 => ?_) (fun c2 => ?_)
    · have hf := zif_n c2 hf
      refine lv_aload_n hx hb dX11_brief_14 rfl (lv_at hl 0 rfl) ?_
      refine z_get (c0 := 11) (i0 := 0) (k0 := 2) (T := TX11) (v := .ref (ad 1 0 0)) S hG (hZ.2.1 (11, 0) (by decide)) rfl inlX11 (by decide) rfl zw_24 rfl dX11_brief_15 ?_
      refine z_callV (n := 0) (rest := []) (st1 := [.int (f_X1_isFull σ)]) (c0 := 1) (i0 := 0) (hZ.2.1 (1, 0) (by decide)) (by rfl) S hG hS hZ (fun _ _ h => h) (c_X1_isFull l D aC zs A nl ad σ (f_X1_isFull σ) rfl) zw_309 zw_310 zw_311 zw_23 zw_312 (by decide +kernel) ⟨rfl, rfl⟩ ⟨(Nat.le_of_ble_eq_true rfl), (Nat.le_of_ble_eq_true rfl)⟩ hl.1 rfl (by rfl) (by rfl) (Nat.le_of_ble_eq_true rfl) dX11_brief_18 ⟨Nat.zero_le _, Nat.zero_le _⟩ (fun H locs hz3 hG hS => ?_)
      refine lv_if_eq (tgt := 27) hx hb dX11_brief_21 (by decide) (fun c4 => ?_) (fun c4 => ?_)
      · have hf := zif_p c4 hf
        refine lv_aload_n hx hb dX11_brief_27 rfl (lv_at hl 0 rfl) ?_
        refine z_get (c0 := 11) (i0 := 0) (k0 := 2) (T := TX11) (v := .ref (ad 1 0 0)) S hG (hZ.2.1 (11, 0) (by decide)) rfl inlX11 (by decide) rfl zw_24 rfl dX11_brief_28 ?_
        obtain ⟨q5, eq5, hf⟩ := zbi hf
        refine W_size (fun hle => ?_)
        have hsz : H.size = s.heap.size := Nat.le_antisymm hle hS.1
        refine z_callVM (n := 0) (rest := []) (st1 := [.ref (ad 0 q5.1 0)]) (c0 := 1) (i0 := 0) (fx' := zfX) (nl' := nlF) (hZ.2.1 (1, 0) (by decide)) (by rfl) S hG hS hZ hZ.2.1 (c_X1_draft_n l D aC zs A nl nlF ad σ o q5.1 q5.2 hfr1 hfr2 ho hnlF hE eq5) ⟨hp0.trans (by rw [hsz]), hp1.trans (by rw [hsz]), hp2.trans (by rw [hsz]), hp3.trans (by rw [hsz]), hp4.trans (by rw [hsz]), hp5.trans (by rw [hsz]), hp6.trans (by rw [hsz]), hp7.trans (by rw [hsz]), trivial⟩ zw_313 zw_314 zw_315 zw_23 zw_316 (by decide +kernel) ⟨rfl, rfl⟩ ⟨(Nat.le_of_ble_eq_true rfl), (Nat.le_of_ble_eq_true rfl)⟩ hl.1 rfl (by rfl) (by rfl) (Nat.le_of_ble_eq_true rfl) dX11_brief_31 ⟨(Nat.le_of_ble_eq_true rfl), (Nat.le_of_ble_eq_true rfl)⟩ ?_
        clear hG hS hle hsz
        intro H locs h_new hG hS
        have hZ : zH zs zfX A nlF s := ⟨hZ.1, fun q hq => (by rw [hnlF]; exact zin_app (hZ.2.1 q hq)), hZ.2.2⟩
        obtain ⟨nl, hnl2⟩ : ∃ x : zNL, x = nlF := ⟨_, rfl⟩
        rw [← hnl2] at hG hZ
        rw [← hnl2]
        refine lv_astore_n (lv' := [(2, .ref (ad 0 q5.1 0)), (0, .ref (ad 11 0 0)), (1, .int x1)]) hx hb dX11_brief_34 rfl hl (by decide) rfl (fun ls hl => ?_)
        refine lv_aload_n hx hb dX11_brief_35 rfl (lv_at hl 1 rfl) ?_
        refine z_get (c0 := 11) (i0 := 0) (k0 := 3) (T := TX11) (v := .ref (ad 4 0 0)) S hG (hZ.2.1 (11, 0) (by decide)) rfl inlX11 (by decide) rfl zw_28 rfl dX11_brief_36 ?_
        refine lv_iload_n hx hb dX11_brief_39 rfl (lv_at hl 2 rfl) ?_
        refine lv_aload_n hx hb dX11_brief_40 rfl (lv_at hl 0 rfl) ?_
        obtain ⟨q6, eq6, hf⟩ := zbi hf
        refine z_callV (n := 2) (rest := []) (st1 := [.int q6.1]) (c0 := 4) (i0 := 0) (hZ.2.1 (4, 0) (by decide)) (by rfl) S hG hS hZ (fun _ _ h => h) (c_X4_read l D aC zs A nl ad q5.2 x1 q5.1 q6.1 q6.2 (by rw [hnl2]; exact h_new) eq6) zw_317 zw_318 zw_319 zw_27 zw_320 (by decide +kernel) ⟨rfl, rfl⟩ ⟨(Nat.le_of_ble_eq_true rfl), (Nat.le_of_ble_eq_true rfl)⟩ hl.1 rfl (by rfl) (by rfl) (Nat.le_of_ble_eq_true rfl) dX11_brief_41 ⟨Nat.le_of_ble_eq_true rfl, Nat.le_of_ble_eq_true rfl⟩ (fun H locs hz7 hG hS => ?_)
        refine lv_istore_n (lv' := [(3, .int q6.1), (2, .ref (ad 0 q5.1 0)), (0, .ref (ad 11 0 0)), (1, .int x1)]) hx hb dX11_brief_44 rfl hl (by decide) rfl (fun ls hl => ?_)
        refine lv_aload_n hx hb dX11_brief_45 rfl (lv_at hl 2 rfl) ?_
        refine z_get (c0 := 11) (i0 := 0) (k0 := 0) (T := TX11) (v := .ref (ad 9 0 0)) S hG (hZ.2.1 (11, 0) (by decide)) rfl inlX11 (by decide) rfl zw_16 rfl dX11_brief_46 ?_
        obtain ⟨σ8, eσ8, hf⟩ := zlt_s hf
        refine z_callV (n := 0) (rest := []) (st1 := []) (c0 := 9) (i0 := 0) (hZ.2.1 (9, 0) (by decide)) (by rfl) S hG hS hZ (fun _ _ h => h) (c_X9_clear l D aC zs A nl ad q6.2 σ8 eσ8.symm) zw_491 zw_492 zw_493 zw_15 zw_494 (by decide +kernel) ⟨rfl, rfl⟩ ⟨(Nat.le_of_ble_eq_true rfl), (Nat.le_of_ble_eq_true rfl)⟩ hl.1 rfl (by rfl) (by rfl) (Nat.le_of_ble_eq_true rfl) dX11_brief_49 ⟨Nat.le_of_ble_eq_true rfl, Nat.le_of_ble_eq_true rfl⟩ (fun H locs hz9 hG hS => ?_)
        refine lv_aload_n hx hb dX11_brief_52 rfl (lv_at hl 2 rfl) ?_
        refine lv_iload_n hx hb dX11_brief_53 rfl (lv_at hl 0 rfl) ?_
        refine lv_if_eq (tgt := 61) hx hb dX11_brief_54 (by decide) (fun c10 => ?_) (fun c10 => ?_)
        · have hf := zif_p c10 hf
          refine lv_aload_n hx hb dX11_brief_61 rfl (lv_at hl 2 rfl) ?_
          refine z_get (c0 := 11) (i0 := 0) (k0 := 3) (T := TX11) (v := .ref (ad 4 0 0)) S hG (hZ.2.1 (11, 0) (by decide)) rfl inlX11 (by decide) rfl zw_28 rfl dX11_brief_62 ?_
          obtain ⟨r11, er11, hf⟩ := zbi hf
          refine z_callV (n := 0) (rest := [.ref (ad 11 0 0)]) (st1 := [.int r11, .ref (ad 11 0 0)]) (c0 := 4) (i0 := 0) (hZ.2.1 (4, 0) (by decide)) (by rfl) S hG hS hZ (fun _ _ h => h) (c_X4_place l D aC zs A nl ad σ8 r11 er11) zw_495 zw_496 zw_497 zw_27 zw_498 (by decide +kernel) ⟨rfl, rfl⟩ ⟨(Nat.le_of_ble_eq_true rfl), (Nat.le_of_ble_eq_true rfl)⟩ hl.1 rfl (by rfl) (by rfl) (Nat.le_of_ble_eq_true rfl) dX11_brief_65 ⟨Nat.le_of_ble_eq_true rfl, Nat.le_of_ble_eq_true rfl⟩ (fun H locs hz12 hG hS => ?_)
          refine z_putI (c0 := 11) (i0 := 0) (k0 := 11) (T := TX11) S hG hS tyX11 tyX11_ok nmX11 (hZ.2.1 (11, 0) (by decide)) rfl inlX11 (by decide) rfl rfl zw_49 (by decide +kernel) rfl dX11_brief_68 (fun H locs hG hS => ?_)
          obtain ⟨σ13, eσ13, hf⟩ := zlt_s hf
          rw [← eσ13] at hG
          refine lv_iload_n hx hb dX11_brief_71 rfl (lv_at hl 0 rfl) ?_
          refine lv_if_ne (tgt := 77) hx hb dX11_brief_72 (by decide) (fun c14 => ?_) (fun c14 => ?_)
          · have hf := zif_n c14 hf
            refine lv_aload_n hx hb dX11_brief_77 rfl (lv_at hl 2 rfl) ?_
            refine z_get (c0 := 11) (i0 := 0) (k0 := 4) (T := TX11) (v := .ref (ad 8 0 0)) S hG (hZ.2.1 (11, 0) (by decide)) rfl inlX11 (by decide) rfl zw_32 rfl dX11_brief_78 ?_
            obtain ⟨σ15, eσ15, hf⟩ := zlt_s hf
            refine z_callV (n := 0) (rest := []) (st1 := []) (c0 := 8) (i0 := 0) (hZ.2.1 (8, 0) (by decide)) (by rfl) S hG hS hZ (fun _ _ h => h) (c_X8_forgetMend l D aC zs A nl ad σ13 σ15 eσ15.symm) zw_270 zw_271 zw_272 zw_31 zw_273 (by decide +kernel) ⟨rfl, rfl⟩ ⟨(Nat.le_of_ble_eq_true rfl), (Nat.le_of_ble_eq_true rfl)⟩ hl.1 rfl (by rfl) (by rfl) (Nat.le_of_ble_eq_true rfl) dX11_brief_81 ⟨Nat.le_of_ble_eq_true rfl, Nat.le_of_ble_eq_true rfl⟩ (fun H locs hz16 hG hS => ?_)
            refine lv_aload_n hx hb dX11_brief_84 rfl (lv_at hl 2 rfl) ?_
            refine z_get (c0 := 11) (i0 := 0) (k0 := 2) (T := TX11) (v := .ref (ad 1 0 0)) S hG (hZ.2.1 (11, 0) (by decide)) rfl inlX11 (by decide) rfl zw_24 rfl dX11_brief_85 ?_
            refine lv_aload_n hx hb dX11_brief_88 rfl (lv_at hl 1 rfl) ?_
            refine lv_aload_n hx hb dX11_brief_89 rfl (lv_at hl 2 rfl) ?_
            refine z_get (c0 := 11) (i0 := 0) (k0 := 10) (T := TX11) (v := .int (zI σ15 11 0 10)) S hG (hZ.2.1 (11, 0) (by decide)) rfl inlX11 (by decide) rfl zw_48 rfl dX11_brief_90 ?_
            obtain ⟨q17, eq17, hf⟩ := zbi hf
            refine z_callV (n := 2) (rest := []) (st1 := [.int q17.1]) (c0 := 1) (i0 := 0) (hZ.2.1 (1, 0) (by decide)) (by rfl) S hG hS hZ (fun _ _ h => h) (c_X1_take l D aC zs A nl ad σ15 q5.1 (zI σ15 11 0 10) q17.1 q17.2 (by rw [hnl2]; exact h_new) eq17) zw_499 zw_500 zw_501 zw_23 zw_502 (by decide +kernel) ⟨rfl, rfl⟩ ⟨(Nat.le_of_ble_eq_true rfl), (Nat.le_of_ble_eq_true rfl)⟩ hl.1 rfl (by rfl) (by rfl) (Nat.le_of_ble_eq_true rfl) dX11_brief_93 ⟨Nat.le_of_ble_eq_true rfl, Nat.le_of_ble_eq_true rfl⟩ (fun H locs hz18 hG hS => ?_)
            obtain ⟨hq1, hq2⟩ := Prod.mk.inj (Option.some.inj hf)
            subst hq1
            subst hq2
            exact z_iret S hG hS hlocks trivial hr dX11_brief_96
          · have hf := zif_p c14 hf
            refine lv_iconst (v := (-1)) hx hb dX11_brief_75 (by decide) ?_
            obtain ⟨hq1, hq2⟩ := Prod.mk.inj (Option.some.inj hf)
            subst hq1
            subst hq2
            exact z_iret S hG hS hlocks trivial hr dX11_brief_76
        · have hf := zif_n c10 hf
          refine lv_iconst (v := (-1)) hx hb dX11_brief_57 (by decide) ?_
          refine lv_goto (tgt := 68) hx hb dX11_brief_58 (by decide) ?_
          refine z_putI (c0 := 11) (i0 := 0) (k0 := 11) (T := TX11) S hG hS tyX11 tyX11_ok nmX11 (hZ.2.1 (11, 0) (by decide)) rfl inlX11 (by decide) rfl rfl zw_49 (by decide +kernel) rfl dX11_brief_68 (fun H locs hG hS => ?_)
          obtain ⟨σ19, eσ19, hf⟩ := zlt_s hf
          rw [← eσ19] at hG
          refine lv_iload_n hx hb dX11_brief_71 rfl (lv_at hl 0 rfl) ?_
          refine lv_if_ne (tgt := 77) hx hb dX11_brief_72 (by decide) (fun c20 => ?_) (fun c20 => ?_)
          · have hf := zif_n c20 hf
            refine lv_aload_n hx hb dX11_brief_77 rfl (lv_at hl 2 rfl) ?_
            refine z_get (c0 := 11) (i0 := 0) (k0 := 4) (T := TX11) (v := .ref (ad 8 0 0)) S hG (hZ.2.1 (11, 0) (by decide)) rfl inlX11 (by decide) rfl zw_32 rfl dX11_brief_78 ?_
            obtain ⟨σ21, eσ21, hf⟩ := zlt_s hf
            refine z_callV (n := 0) (rest := []) (st1 := []) (c0 := 8) (i0 := 0) (hZ.2.1 (8, 0) (by decide)) (by rfl) S hG hS hZ (fun _ _ h => h) (c_X8_forgetMend l D aC zs A nl ad σ19 σ21 eσ21.symm) zw_270 zw_271 zw_272 zw_31 zw_273 (by decide +kernel) ⟨rfl, rfl⟩ ⟨(Nat.le_of_ble_eq_true rfl), (Nat.le_of_ble_eq_true rfl)⟩ hl.1 rfl (by rfl) (by rfl) (Nat.le_of_ble_eq_true rfl) dX11_brief_81 ⟨Nat.le_of_ble_eq_true rfl, Nat.le_of_ble_eq_true rfl⟩ (fun H locs hz22 hG hS => ?_)
            refine lv_aload_n hx hb dX11_brief_84 rfl (lv_at hl 2 rfl) ?_
            refine z_get (c0 := 11) (i0 := 0) (k0 := 2) (T := TX11) (v := .ref (ad 1 0 0)) S hG (hZ.2.1 (11, 0) (by decide)) rfl inlX11 (by decide) rfl zw_24 rfl dX11_brief_85 ?_
            refine lv_aload_n hx hb dX11_brief_88 rfl (lv_at hl 1 rfl) ?_
            refine lv_aload_n hx hb dX11_brief_89 rfl (lv_at hl 2 rfl) ?_
            refine z_get (c0 := 11) (i0 := 0) (k0 := 10) (T := TX11) (v := .int (zI σ21 11 0 10)) S hG (hZ.2.1 (11, 0) (by decide)) rfl inlX11 (by decide) rfl zw_48 rfl dX11_brief_90 ?_
            obtain ⟨q23, eq23, hf⟩ := zbi hf
            refine z_callV (n := 2) (rest := []) (st1 := [.int q23.1]) (c0 := 1) (i0 := 0) (hZ.2.1 (1, 0) (by decide)) (by rfl) S hG hS hZ (fun _ _ h => h) (c_X1_take l D aC zs A nl ad σ21 q5.1 (zI σ21 11 0 10) q23.1 q23.2 (by rw [hnl2]; exact h_new) eq23) zw_499 zw_500 zw_501 zw_23 zw_502 (by decide +kernel) ⟨rfl, rfl⟩ ⟨(Nat.le_of_ble_eq_true rfl), (Nat.le_of_ble_eq_true rfl)⟩ hl.1 rfl (by rfl) (by rfl) (Nat.le_of_ble_eq_true rfl) dX11_brief_93 ⟨Nat.le_of_ble_eq_true rfl, Nat.le_of_ble_eq_true rfl⟩ (fun H locs hz24 hG hS => ?_)
            obtain ⟨hq1, hq2⟩ := Prod.mk.inj (Option.some.inj hf)
            subst hq1
            subst hq2
            exact z_iret S hG hS hlocks trivial hr dX11_brief_96
          · have hf := zif_p c20 hf
            refine lv_iconst (v := (-1)) hx hb dX11_brief_75 (by decide) ?_
            obtain ⟨hq1, hq2⟩ := Prod.mk.inj (Option.some.inj hf)
            subst hq1
            subst hq2
            exact z_iret S hG hS hlocks trivial hr dX11_brief_76
      · have hf := zif_n c4 hf
        exact absurd (hc1) (show ¬ ((f_X1_isFull σ) = 0) from c4)
    · have hf := zif_p c2 hf
      exact absurd (show (f_X9_holds σ x1) = 0 from c2) (hc0)
  rw [eH] at hK0
  exact hK0
set_option maxRecDepth 100000 in
set_option maxHeartbeats 4000000 in
theorem c_X11_brief_s (l : Launch) (D : va_G) (aC : Nat → ClassId) (zs : Nat × Nat) (A : Nat → Prop) (nl : zNL) (ad : Nat → Nat → Nat → Nat) (σ : zM) (o : Nat) (x1 : Int32) (r : Int32) (σ' : zM) (hs : ¬ (¬ ((f_X9_holds σ x1) = 0) ∧ (f_X1_isFull σ) = 0 ∧ zR σ 1 0 3 = none)) (hf : f_X11_brief σ o x1 = some (r, σ')) : Met l yX11_brief (Cond.code yX11_brief cX11_brief 4 (some .int) :: wsL_law) ({ frames := 67, cells := 0, slots := 0, locals := 1535 } : Room) (zP D aC zs zfX A nl ad σ [.ref (ad 11 0 0), .int x1]) (zQ (some (.int r)) (fun t => zG D aC A nl ad σ' t t.heap ∧ True) A) 0 0 A := by
  refine Met.ofW (cc := cX11_brief) (maxL := 4) (ret := (some .int)) (by decide) rfl ?_
  intro p e s m args below meth c s₁ B hml hv
  obtain ⟨rfl, hG, hZ⟩ := hv
  have hx := B.exec
  have hb := B.bytes
  have hr := B.returns
  have hts : ∀ w ∈ wsL_law, w.before ([.ref (ad 11 0 0), .int x1] : List Value).toArray s = true := fun w h => (atoms_spec B.pre) w (List.mem_cons_of_mem _ h)
  have hown : s.vm.findClass RX11 = some m.cls := findClass_of_methodNamed B.named
  have hlocks := B.notSynchronized
  have S : zS p m c cX11_brief 4 s ([.ref (ad 11 0 0), .int x1] : List Value).toArray RX11 := ⟨hx, hb, hml, hown, hts⟩
  have hS : va_S A s.heap s.heap [] := va_S.rf
  have hl := lv_entry ([.ref (ad 11 0 0), .int x1]) (n := 4) (Nat.le_of_ble_eq_true rfl)
  rw [lg_entry_eq]
  generalize (lg_sl ([.ref (ad 11 0 0), .int x1]) ++ List.replicate (4 - (lg_sl ([.ref (ad 11 0 0), .int x1])).length) Slot.unset).toArray = ls at hl ⊢
  have hl : lv_has ls 4 [(0, .ref (ad 11 0 0)), (1, .int x1)] := hl
  generalize hargs : ([.ref (ad 11 0 0), .int x1] : List Value).toArray = args at S hts ⊢
  clear hargs
  unfold f_X11_brief at hf
  obtain ⟨H, eH⟩ : ∃ x, x = s.heap := ⟨_, rfl⟩
  have hG : zG D aC A nl ad σ s H := by rw [eH]; exact hG
  have hS : va_S A s.heap H [] := by rw [eH]; exact hS
  have hK0 : W p l e ({ frames := 67, cells := 0, slots := 0, locals := 1535 } : Room) s m args below meth c H [] 0 0 (MQ below (zQ (some (.int r)) (fun t => zG D aC A nl ad σ' t t.heap ∧ True) A) args s 0 0 A) (F0 m 0 ls []) := by
    refine lv_aload_n hx hb dX11_brief_0 rfl (lv_at hl 0 rfl) ?_
    refine z_get (c0 := 11) (i0 := 0) (k0 := 0) (T := TX11) (v := .ref (ad 9 0 0)) S hG (hZ.2.1 (11, 0) (by decide)) rfl inlX11 (by decide) rfl zw_16 rfl dX11_brief_1 ?_
    refine lv_iload_n hx hb dX11_brief_4 rfl (lv_at hl 1 rfl) ?_
    refine z_callV (n := 1) (rest := []) (st1 := [.int (f_X9_holds σ x1)]) (c0 := 9) (i0 := 0) (hZ.2.1 (9, 0) (by decide)) (by rfl) S hG hS hZ (fun _ _ h => h) (c_X9_holds l D aC zs A nl ad σ x1 (f_X9_holds σ x1) rfl) zw_305 zw_306 zw_307 zw_15 zw_308 (by decide +kernel) ⟨rfl, rfl⟩ ⟨(Nat.le_of_ble_eq_true rfl), (Nat.le_of_ble_eq_true rfl)⟩ hl.1 rfl (by rfl) (by rfl) (Nat.le_of_ble_eq_true rfl) dX11_brief_5 ⟨Nat.zero_le _, Nat.zero_le _⟩ (fun H locs hz1 hG hS => ?_)
    refine lv_if_ne (tgt := 14) hx hb dX11_brief_8 (by decide) (fun c2 => ?_) (fun c2 => ?_)
    · have hf := zif_n c2 hf
      have hc0 : ¬ ((f_X9_holds σ x1) = 0) := c2
      refine lv_aload_n hx hb dX11_brief_14 rfl (lv_at hl 0 rfl) ?_
      refine z_get (c0 := 11) (i0 := 0) (k0 := 2) (T := TX11) (v := .ref (ad 1 0 0)) S hG (hZ.2.1 (11, 0) (by decide)) rfl inlX11 (by decide) rfl zw_24 rfl dX11_brief_15 ?_
      refine z_callV (n := 0) (rest := []) (st1 := [.int (f_X1_isFull σ)]) (c0 := 1) (i0 := 0) (hZ.2.1 (1, 0) (by decide)) (by rfl) S hG hS hZ (fun _ _ h => h) (c_X1_isFull l D aC zs A nl ad σ (f_X1_isFull σ) rfl) zw_309 zw_310 zw_311 zw_23 zw_312 (by decide +kernel) ⟨rfl, rfl⟩ ⟨(Nat.le_of_ble_eq_true rfl), (Nat.le_of_ble_eq_true rfl)⟩ hl.1 rfl (by rfl) (by rfl) (Nat.le_of_ble_eq_true rfl) dX11_brief_18 ⟨Nat.zero_le _, Nat.zero_le _⟩ (fun H locs hz3 hG hS => ?_)
      refine lv_if_eq (tgt := 27) hx hb dX11_brief_21 (by decide) (fun c4 => ?_) (fun c4 => ?_)
      · have hf := zif_p c4 hf
        have hc1 : (f_X1_isFull σ) = 0 := c4
        refine lv_aload_n hx hb dX11_brief_27 rfl (lv_at hl 0 rfl) ?_
        refine z_get (c0 := 11) (i0 := 0) (k0 := 2) (T := TX11) (v := .ref (ad 1 0 0)) S hG (hZ.2.1 (11, 0) (by decide)) rfl inlX11 (by decide) rfl zw_24 rfl dX11_brief_28 ?_
        obtain ⟨q5, eq5, hf⟩ := zbi hf
        have hEs : ∃ j, zR σ 1 0 3 = some j := by
          cases hE : zR σ 1 0 3 with
          | none => exact (hs ⟨hc0, hc1, hE⟩).elim
          | some j => exact ⟨j, rfl⟩
        refine z_callV (n := 0) (rest := []) (st1 := [.ref (ad 0 q5.1 0)]) (c0 := 1) (i0 := 0) (hZ.2.1 (1, 0) (by decide)) (by rfl) S hG hS hZ (fun _ _ h => h) (c_X1_draft_s l D aC zs A nl ad σ o q5.1 q5.2 hEs eq5) zw_313 zw_314 zw_315 zw_23 zw_316 (by decide +kernel) ⟨rfl, rfl⟩ ⟨(Nat.le_of_ble_eq_true rfl), (Nat.le_of_ble_eq_true rfl)⟩ hl.1 rfl (by rfl) (by rfl) (Nat.le_of_ble_eq_true rfl) dX11_brief_31 ⟨Nat.zero_le _, Nat.zero_le _⟩ (fun H locs hz6 hG hS => ?_)
        refine lv_astore_n (lv' := [(2, .ref (ad 0 q5.1 0)), (0, .ref (ad 11 0 0)), (1, .int x1)]) hx hb dX11_brief_34 rfl hl (by decide) rfl (fun ls hl => ?_)
        refine lv_aload_n hx hb dX11_brief_35 rfl (lv_at hl 1 rfl) ?_
        refine z_get (c0 := 11) (i0 := 0) (k0 := 3) (T := TX11) (v := .ref (ad 4 0 0)) S hG (hZ.2.1 (11, 0) (by decide)) rfl inlX11 (by decide) rfl zw_28 rfl dX11_brief_36 ?_
        refine lv_iload_n hx hb dX11_brief_39 rfl (lv_at hl 2 rfl) ?_
        refine lv_aload_n hx hb dX11_brief_40 rfl (lv_at hl 0 rfl) ?_
        obtain ⟨q7, eq7, hf⟩ := zbi hf
        refine z_callV (n := 2) (rest := []) (st1 := [.int q7.1]) (c0 := 4) (i0 := 0) (hZ.2.1 (4, 0) (by decide)) (by rfl) S hG hS hZ (fun _ _ h => h) (c_X4_read l D aC zs A nl ad q5.2 x1 q5.1 q7.1 q7.2 hz6 eq7) zw_317 zw_318 zw_319 zw_27 zw_320 (by decide +kernel) ⟨rfl, rfl⟩ ⟨(Nat.le_of_ble_eq_true rfl), (Nat.le_of_ble_eq_true rfl)⟩ hl.1 rfl (by rfl) (by rfl) (Nat.le_of_ble_eq_true rfl) dX11_brief_41 ⟨Nat.zero_le _, Nat.zero_le _⟩ (fun H locs hz8 hG hS => ?_)
        refine lv_istore_n (lv' := [(3, .int q7.1), (2, .ref (ad 0 q5.1 0)), (0, .ref (ad 11 0 0)), (1, .int x1)]) hx hb dX11_brief_44 rfl hl (by decide) rfl (fun ls hl => ?_)
        refine lv_aload_n hx hb dX11_brief_45 rfl (lv_at hl 2 rfl) ?_
        refine z_get (c0 := 11) (i0 := 0) (k0 := 0) (T := TX11) (v := .ref (ad 9 0 0)) S hG (hZ.2.1 (11, 0) (by decide)) rfl inlX11 (by decide) rfl zw_16 rfl dX11_brief_46 ?_
        obtain ⟨σ9, eσ9, hf⟩ := zlt_s hf
        refine z_callV (n := 0) (rest := []) (st1 := []) (c0 := 9) (i0 := 0) (hZ.2.1 (9, 0) (by decide)) (by rfl) S hG hS hZ (fun _ _ h => h) (c_X9_clear l D aC zs A nl ad q7.2 σ9 eσ9.symm) zw_491 zw_492 zw_493 zw_15 zw_494 (by decide +kernel) ⟨rfl, rfl⟩ ⟨(Nat.le_of_ble_eq_true rfl), (Nat.le_of_ble_eq_true rfl)⟩ hl.1 rfl (by rfl) (by rfl) (Nat.le_of_ble_eq_true rfl) dX11_brief_49 ⟨Nat.zero_le _, Nat.zero_le _⟩ (fun H locs hz10 hG hS => ?_)
        refine lv_aload_n hx hb dX11_brief_52 rfl (lv_at hl 2 rfl) ?_
        refine lv_iload_n hx hb dX11_brief_53 rfl (lv_at hl 0 rfl) ?_
        refine lv_if_eq (tgt := 61) hx hb dX11_brief_54 (by decide) (fun c11 => ?_) (fun c11 => ?_)
        · have hf := zif_p c11 hf
          refine lv_aload_n hx hb dX11_brief_61 rfl (lv_at hl 2 rfl) ?_
          refine z_get (c0 := 11) (i0 := 0) (k0 := 3) (T := TX11) (v := .ref (ad 4 0 0)) S hG (hZ.2.1 (11, 0) (by decide)) rfl inlX11 (by decide) rfl zw_28 rfl dX11_brief_62 ?_
          obtain ⟨r12, er12, hf⟩ := zbi hf
          refine z_callV (n := 0) (rest := [.ref (ad 11 0 0)]) (st1 := [.int r12, .ref (ad 11 0 0)]) (c0 := 4) (i0 := 0) (hZ.2.1 (4, 0) (by decide)) (by rfl) S hG hS hZ (fun _ _ h => h) (c_X4_place l D aC zs A nl ad σ9 r12 er12) zw_495 zw_496 zw_497 zw_27 zw_498 (by decide +kernel) ⟨rfl, rfl⟩ ⟨(Nat.le_of_ble_eq_true rfl), (Nat.le_of_ble_eq_true rfl)⟩ hl.1 rfl (by rfl) (by rfl) (Nat.le_of_ble_eq_true rfl) dX11_brief_65 ⟨Nat.zero_le _, Nat.zero_le _⟩ (fun H locs hz13 hG hS => ?_)
          refine z_putI (c0 := 11) (i0 := 0) (k0 := 11) (T := TX11) S hG hS tyX11 tyX11_ok nmX11 (hZ.2.1 (11, 0) (by decide)) rfl inlX11 (by decide) rfl rfl zw_49 (by decide +kernel) rfl dX11_brief_68 (fun H locs hG hS => ?_)
          obtain ⟨σ14, eσ14, hf⟩ := zlt_s hf
          rw [← eσ14] at hG
          refine lv_iload_n hx hb dX11_brief_71 rfl (lv_at hl 0 rfl) ?_
          refine lv_if_ne (tgt := 77) hx hb dX11_brief_72 (by decide) (fun c15 => ?_) (fun c15 => ?_)
          · have hf := zif_n c15 hf
            refine lv_aload_n hx hb dX11_brief_77 rfl (lv_at hl 2 rfl) ?_
            refine z_get (c0 := 11) (i0 := 0) (k0 := 4) (T := TX11) (v := .ref (ad 8 0 0)) S hG (hZ.2.1 (11, 0) (by decide)) rfl inlX11 (by decide) rfl zw_32 rfl dX11_brief_78 ?_
            obtain ⟨σ16, eσ16, hf⟩ := zlt_s hf
            refine z_callV (n := 0) (rest := []) (st1 := []) (c0 := 8) (i0 := 0) (hZ.2.1 (8, 0) (by decide)) (by rfl) S hG hS hZ (fun _ _ h => h) (c_X8_forgetMend l D aC zs A nl ad σ14 σ16 eσ16.symm) zw_270 zw_271 zw_272 zw_31 zw_273 (by decide +kernel) ⟨rfl, rfl⟩ ⟨(Nat.le_of_ble_eq_true rfl), (Nat.le_of_ble_eq_true rfl)⟩ hl.1 rfl (by rfl) (by rfl) (Nat.le_of_ble_eq_true rfl) dX11_brief_81 ⟨Nat.zero_le _, Nat.zero_le _⟩ (fun H locs hz17 hG hS => ?_)
            refine lv_aload_n hx hb dX11_brief_84 rfl (lv_at hl 2 rfl) ?_
            refine z_get (c0 := 11) (i0 := 0) (k0 := 2) (T := TX11) (v := .ref (ad 1 0 0)) S hG (hZ.2.1 (11, 0) (by decide)) rfl inlX11 (by decide) rfl zw_24 rfl dX11_brief_85 ?_
            refine lv_aload_n hx hb dX11_brief_88 rfl (lv_at hl 1 rfl) ?_
            refine lv_aload_n hx hb dX11_brief_89 rfl (lv_at hl 2 rfl) ?_
            refine z_get (c0 := 11) (i0 := 0) (k0 := 10) (T := TX11) (v := .int (zI σ16 11 0 10)) S hG (hZ.2.1 (11, 0) (by decide)) rfl inlX11 (by decide) rfl zw_48 rfl dX11_brief_90 ?_
            obtain ⟨q18, eq18, hf⟩ := zbi hf
            refine z_callV (n := 2) (rest := []) (st1 := [.int q18.1]) (c0 := 1) (i0 := 0) (hZ.2.1 (1, 0) (by decide)) (by rfl) S hG hS hZ (fun _ _ h => h) (c_X1_take l D aC zs A nl ad σ16 q5.1 (zI σ16 11 0 10) q18.1 q18.2 hz6 eq18) zw_499 zw_500 zw_501 zw_23 zw_502 (by decide +kernel) ⟨rfl, rfl⟩ ⟨(Nat.le_of_ble_eq_true rfl), (Nat.le_of_ble_eq_true rfl)⟩ hl.1 rfl (by rfl) (by rfl) (Nat.le_of_ble_eq_true rfl) dX11_brief_93 ⟨Nat.zero_le _, Nat.zero_le _⟩ (fun H locs hz19 hG hS => ?_)
            obtain ⟨hq1, hq2⟩ := Prod.mk.inj (Option.some.inj hf)
            subst hq1
            subst hq2
            exact z_iret S hG hS hlocks trivial hr dX11_brief_96
          · have hf := zif_p c15 hf
            refine lv_iconst (v := (-1)) hx hb dX11_brief_75 (by decide) ?_
            obtain ⟨hq1, hq2⟩ := Prod.mk.inj (Option.some.inj hf)
            subst hq1
            subst hq2
            exact z_iret S hG hS hlocks trivial hr dX11_brief_76
        · have hf := zif_n c11 hf
          refine lv_iconst (v := (-1)) hx hb dX11_brief_57 (by decide) ?_
          refine lv_goto (tgt := 68) hx hb dX11_brief_58 (by decide) ?_
          refine z_putI (c0 := 11) (i0 := 0) (k0 := 11) (T := TX11) S hG hS tyX11 tyX11_ok nmX11 (hZ.2.1 (11, 0) (by decide)) rfl inlX11 (by decide) rfl rfl zw_49 (by decide +kernel) rfl dX11_brief_68 (fun H locs hG hS => ?_)
          obtain ⟨σ20, eσ20, hf⟩ := zlt_s hf
          rw [← eσ20] at hG
          refine lv_iload_n hx hb dX11_brief_71 rfl (lv_at hl 0 rfl) ?_
          refine lv_if_ne (tgt := 77) hx hb dX11_brief_72 (by decide) (fun c21 => ?_) (fun c21 => ?_)
          · have hf := zif_n c21 hf
            refine lv_aload_n hx hb dX11_brief_77 rfl (lv_at hl 2 rfl) ?_
            refine z_get (c0 := 11) (i0 := 0) (k0 := 4) (T := TX11) (v := .ref (ad 8 0 0)) S hG (hZ.2.1 (11, 0) (by decide)) rfl inlX11 (by decide) rfl zw_32 rfl dX11_brief_78 ?_
            obtain ⟨σ22, eσ22, hf⟩ := zlt_s hf
            refine z_callV (n := 0) (rest := []) (st1 := []) (c0 := 8) (i0 := 0) (hZ.2.1 (8, 0) (by decide)) (by rfl) S hG hS hZ (fun _ _ h => h) (c_X8_forgetMend l D aC zs A nl ad σ20 σ22 eσ22.symm) zw_270 zw_271 zw_272 zw_31 zw_273 (by decide +kernel) ⟨rfl, rfl⟩ ⟨(Nat.le_of_ble_eq_true rfl), (Nat.le_of_ble_eq_true rfl)⟩ hl.1 rfl (by rfl) (by rfl) (Nat.le_of_ble_eq_true rfl) dX11_brief_81 ⟨Nat.zero_le _, Nat.zero_le _⟩ (fun H locs hz23 hG hS => ?_)
            refine lv_aload_n hx hb dX11_brief_84 rfl (lv_at hl 2 rfl) ?_
            refine z_get (c0 := 11) (i0 := 0) (k0 := 2) (T := TX11) (v := .ref (ad 1 0 0)) S hG (hZ.2.1 (11, 0) (by decide)) rfl inlX11 (by decide) rfl zw_24 rfl dX11_brief_85 ?_
            refine lv_aload_n hx hb dX11_brief_88 rfl (lv_at hl 1 rfl) ?_
            refine lv_aload_n hx hb dX11_brief_89 rfl (lv_at hl 2 rfl) ?_
            refine z_get (c0 := 11) (i0 := 0) (k0 := 10) (T := TX11) (v := .int (zI σ22 11 0 10)) S hG (hZ.2.1 (11, 0) (by decide)) rfl inlX11 (by decide) rfl zw_48 rfl dX11_brief_90 ?_
            obtain ⟨q24, eq24, hf⟩ := zbi hf
            refine z_callV (n := 2) (rest := []) (st1 := [.int q24.1]) (c0 := 1) (i0 := 0) (hZ.2.1 (1, 0) (by decide)) (by rfl) S hG hS hZ (fun _ _ h => h) (c_X1_take l D aC zs A nl ad σ22 q5.1 (zI σ22 11 0 10) q24.1 q24.2 hz6 eq24) zw_499 zw_500 zw_501 zw_23 zw_502 (by decide +kernel) ⟨rfl, rfl⟩ ⟨(Nat.le_of_ble_eq_true rfl), (Nat.le_of_ble_eq_true rfl)⟩ hl.1 rfl (by rfl) (by rfl) (Nat.le_of_ble_eq_true rfl) dX11_brief_93 ⟨Nat.zero_le _, Nat.zero_le _⟩ (fun H locs hz25 hG hS => ?_)
            obtain ⟨hq1, hq2⟩ := Prod.mk.inj (Option.some.inj hf)
            subst hq1
            subst hq2
            exact z_iret S hG hS hlocks trivial hr dX11_brief_96
          · have hf := zif_p c21 hf
            refine lv_iconst (v := (-1)) hx hb dX11_brief_75 (by decide) ?_
            obtain ⟨hq1, hq2⟩ := Prod.mk.inj (Option.some.inj hf)
            subst hq1
            subst hq2
            exact z_iret S hG hS hlocks trivial hr dX11_brief_76
      · have hf := zif_n c4 hf
        refine lv_bipush (v := (-3)) hx hb dX11_brief_24 (by decide) ?_
        obtain ⟨hq1, hq2⟩ := Prod.mk.inj (Option.some.inj hf)
        subst hq1
        subst hq2
        exact z_iret S hG hS hlocks trivial hr dX11_brief_26
    · have hf := zif_p c2 hf
      refine lv_bipush (v := (-2)) hx hb dX11_brief_11 (by decide) ?_
      obtain ⟨hq1, hq2⟩ := Prod.mk.inj (Option.some.inj hf)
      subst hq1
      subst hq2
      exact z_iret S hG hS hlocks trivial hr dX11_brief_13
  rw [eH] at hK0
  exact hK0
