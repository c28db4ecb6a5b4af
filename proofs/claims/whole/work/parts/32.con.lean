set_option maxRecDepth 100000 in
set_option maxHeartbeats 4000000 in
theorem c_X4_outText (l : Launch) (D : va_G) (aC : Nat → ClassId) (zs : Nat × Nat) (A : Nat → Prop) (nl : zNL) (ad : Nat → Nat → Nat → Nat) (σ : zM)  (r : Int32) (σ' : zM)  (hf : f_X4_outText σ = some (r, σ')) : Met l yX4_outText (Cond.code yX4_outText cX4_outText 2 (some .boolean) :: wsL_law) ({ frames := 64, cells := 0, slots := 0, locals := 1469 } : Room) (zP D aC zs zfX A nl ad σ [.ref (ad 4 0 0)]) (zQ (some (.int r)) (fun t => zG D aC A nl ad σ' t t.heap ∧ (r = 0 ∨ r = 1)) A) 0 0 A := by
  refine Met.ofW (cc := cX4_outText) (maxL := 2) (ret := (some .boolean)) (by decide) rfl ?_
  intro p e s m args below meth c s₁ B hml hv
  obtain ⟨rfl, hG, hZ⟩ := hv
  have hx := B.exec
  have hb := B.bytes
  have hr := B.returns
  have hts : ∀ w ∈ wsL_law, w.before ([.ref (ad 4 0 0)] : List Value).toArray s = true := fun w h => (atoms_spec B.pre) w (List.mem_cons_of_mem _ h)
  have hown : s.vm.findClass RX4 = some m.cls := findClass_of_methodNamed B.named
  have hlocks := B.notSynchronized
  have S : zS p m c cX4_outText 2 s ([.ref (ad 4 0 0)] : List Value).toArray RX4 := ⟨hx, hb, hml, hown, hts⟩
  have hS : va_S A s.heap s.heap [] := va_S.rf
  have hl := lv_entry ([.ref (ad 4 0 0)]) (n := 2) (Nat.le_of_ble_eq_true rfl)
  rw [lg_entry_eq]
  generalize (lg_sl ([.ref (ad 4 0 0)]) ++ List.replicate (2 - (lg_sl ([.ref (ad 4 0 0)])).length) Slot.unset).toArray = ls at hl ⊢
  have hl : lv_has ls 2 [(0, .ref (ad 4 0 0))] := hl
  generalize hargs : ([.ref (ad 4 0 0)] : List Value).toArray = args at S hts ⊢
  clear hargs
  have hK0 : ∀ (H : Heap) (locs : List Loc) (ls : Array Slot), zG D aC A nl ad σ s H → va_S A s.heap H locs → lv_has ls 2 [(0, .ref (ad 4 0 0))] → f_X4_outText σ = some (r, σ') → zWk p l e ({ frames := 64, cells := 0, slots := 0, locals := 1469 } : Room) s m args below meth c A (some (.int r)) (fun t => zG D aC A nl ad σ' t t.heap ∧ (r = 0 ∨ r = 1)) H locs (F0 m 0 ls []) := by
    intro H locs ls hG hS hl hf
    unfold f_X4_outText at hf
    refine lv_aload_n hx hb dX4_outText_0 rfl (lv_at hl 0 rfl) ?_
    refine lv_dup hx hb dX4_outText_1 rfl ?_
    refine z_get (c0 := 4) (i0 := 0) (k0 := 8) (T := TX4) (v := .int (zI σ 4 0 8)) S hG (hZ.2.1 (4, 0) (by decide)) rfl inlX4 (by decide) rfl zw_118 rfl dX4_outText_2 ?_
    refine lv_iconst (v := 1) hx hb dX4_outText_5 (by decide) ?_
    refine lv_iadd hx hb dX4_outText_6 ?_
    refine z_putI (c0 := 4) (i0 := 0) (k0 := 8) (T := TX4) S hG hS tyX4 tyX4_ok nmX4 (hZ.2.1 (4, 0) (by decide)) rfl inlX4 (by decide) rfl rfl zw_118 (by decide +kernel) rfl dX4_outText_7 (fun H locs hG hS => ?_)
    obtain ⟨σ1, eσ1, hf⟩ := zlt_s hf
    rw [← eσ1] at hG
    refine lv_aload_n hx hb dX4_outText_10 rfl (lv_at hl 0 rfl) ?_
    refine lv_bipush (v := 20) hx hb dX4_outText_11 (by decide) ?_
    obtain ⟨q2, eq2, hf⟩ := zbi hf
    refine z_callV (n := 1) (rest := []) (st1 := [.int q2.1]) (c0 := 4) (i0 := 0) (hZ.2.1 (4, 0) (by decide)) (by rfl) S hG hS hZ (fun _ _ h => h) (c_X4_takeWord l D aC zs A nl ad σ1 20 q2.1 q2.2 eq2) zw_395 zw_396 zw_397 zw_27 zw_398 (by decide +kernel) ⟨rfl, rfl⟩ ⟨(Nat.le_of_ble_eq_true rfl), (Nat.le_of_ble_eq_true rfl)⟩ hl.1 rfl (by rfl) (by rfl) (Nat.le_of_ble_eq_true rfl) dX4_outText_13 ⟨Nat.zero_le _, Nat.zero_le _⟩ (fun H locs hz3 hG hS => ?_)
    refine lv_if_ne (tgt := 21) hx hb dX4_outText_16 (by decide) (fun c4 => ?_) (fun c4 => ?_)
    · have hf := zif_n c4 hf
      refine lv_aload_n hx hb dX4_outText_21 rfl (lv_at hl 0 rfl) ?_
      refine z_get (c0 := 4) (i0 := 0) (k0 := 7) (T := TX4) (v := va_rf (Option.map (fun j => ad 0 j 0) (zR q2.2 4 0 7))) S hG (hZ.2.1 (4, 0) (by decide)) rfl inlX4 (by decide) rfl zw_117 rfl dX4_outText_22 ?_
      rcases hE6 : (zR q2.2 4 0 7) with _ | j5
      · have hf := znu_n0 hE6 hf
        refine W.eq (g2 := F0 m 25 ls [.null]) (by first | rfl | (rw [hE6]; rfl)) ?_
        cases hf
      · have hf := znu_s0 hE6 hf
        refine W.eq (g2 := F0 m 25 ls [.ref (ad 0 j5 0)]) (by first | rfl | (rw [hE6]; rfl)) ?_
        refine z_get (c0 := 0) (i0 := j5) (k0 := 8) (T := TX0) (v := .int (zI q2.2 0 j5 8)) S hG ((fun j h => hG.2.2.2.1 4 0 7 j rfl h) j5 hE6) rfl inlX0 (by decide) rfl zw_451 rfl dX4_outText_25 ?_
        refine lv_istore_n (lv' := [(1, .int (zI q2.2 0 j5 8)), (0, .ref (ad 4 0 0))]) hx hb dX4_outText_28 rfl hl (by decide) rfl (fun ls hl => ?_)
        refine lv_aload_n hx hb dX4_outText_29 rfl (lv_at hl 1 rfl) ?_
        refine lv_iconst (v := 0) hx hb dX4_outText_30 (by decide) ?_
        obtain ⟨q7, eq7, hf⟩ := zbi hf
        refine z_callV (n := 1) (rest := []) (st1 := [.int q7.1]) (c0 := 4) (i0 := 0) (hZ.2.1 (4, 0) (by decide)) (by rfl) S hG hS hZ (fun _ _ h => h) (c_X4_any l D aC zs A nl ad q2.2 0 q7.1 q7.2 eq7) zw_452 zw_453 zw_454 zw_27 zw_455 (by decide +kernel) ⟨rfl, rfl⟩ ⟨(Nat.le_of_ble_eq_true rfl), (Nat.le_of_ble_eq_true rfl)⟩ hl.1 rfl (by rfl) (by rfl) (Nat.le_of_ble_eq_true rfl) dX4_outText_31 ⟨Nat.zero_le _, Nat.zero_le _⟩ (fun H locs hz8 hG hS => ?_)
        refine lv_if_eq (tgt := 59) hx hb dX4_outText_34 (by decide) (fun c9 => ?_) (fun c9 => ?_)
        · have hf := zif_p c9 hf
          refine lv_iconst (v := 0) hx hb dX4_outText_59 (by decide) ?_
          obtain ⟨hq1, hq2⟩ := Prod.mk.inj (Option.some.inj hf)
          subst hq1
          subst hq2
          exact z_zret S hG hS hlocks (Or.inl rfl) hr dX4_outText_60
        · have hf := zif_n c9 hf
          refine lv_aload_n hx hb dX4_outText_37 rfl (lv_at hl 1 rfl) ?_
          refine lv_bipush (v := 8) hx hb dX4_outText_38 (by decide) ?_
          refine lv_iload_n hx hb dX4_outText_40 rfl (lv_at hl 0 rfl) ?_
          refine lv_aload_n hx hb dX4_outText_41 rfl (lv_at hl 1 rfl) ?_
          refine z_get (c0 := 4) (i0 := 0) (k0 := 7) (T := TX4) (v := va_rf (Option.map (fun j => ad 0 j 0) (zR q7.2 4 0 7))) S hG (hZ.2.1 (4, 0) (by decide)) rfl inlX4 (by decide) rfl zw_117 rfl dX4_outText_42 ?_
          rcases hE11 : (zR q7.2 4 0 7) with _ | j10
          · have hf := znu_n0 hE11 hf
            refine W.eq (g2 := F0 m 45 ls [.null, .int (zI q2.2 0 j5 8), .int 8, .ref (ad 4 0 0)]) (by first | rfl | (rw [hE11]; rfl)) ?_
            cases hf
          · have hf := znu_s0 hE11 hf
            refine W.eq (g2 := F0 m 45 ls [.ref (ad 0 j10 0), .int (zI q2.2 0 j5 8), .int 8, .ref (ad 4 0 0)]) (by first | rfl | (rw [hE11]; rfl)) ?_
            refine z_get (c0 := 0) (i0 := j10) (k0 := 8) (T := TX0) (v := .int (zI q7.2 0 j10 8)) S hG ((fun j h => hG.2.2.2.1 4 0 7 j rfl h) j10 hE11) rfl inlX0 (by decide) rfl zw_451 rfl dX4_outText_45 ?_
            refine lv_iconst (v := 0) hx hb dX4_outText_48 (by decide) ?_
            obtain ⟨q12, eq12, hf⟩ := zbi hf
            refine z_callV (n := 4) (rest := []) (st1 := [.int q12.1]) (c0 := 4) (i0 := 0) (hZ.2.1 (4, 0) (by decide)) (by rfl) S hG hS hZ (fun _ _ h => h) (c_X4_endOf l D aC zs A nl ad q7.2 8 (zI q2.2 0 j5 8) (zI q7.2 0 j10 8) 0 q12.1 q12.2 eq12) zw_407 zw_408 zw_409 zw_27 zw_410 (by decide +kernel) ⟨rfl, rfl⟩ ⟨(Nat.le_of_ble_eq_true rfl), (Nat.le_of_ble_eq_true rfl)⟩ hl.1 rfl (by rfl) (by rfl) (Nat.le_of_ble_eq_true rfl) dX4_outText_49 ⟨Nat.zero_le _, Nat.zero_le _⟩ (fun H locs hz13 hG hS => ?_)
            refine lv_if_eq (tgt := 59) hx hb dX4_outText_52 (by decide) (fun c14 => ?_) (fun c14 => ?_)
            · have hf := zif_p c14 hf
              refine lv_iconst (v := 0) hx hb dX4_outText_59 (by decide) ?_
              obtain ⟨hq1, hq2⟩ := Prod.mk.inj (Option.some.inj hf)
              subst hq1
              subst hq2
              exact z_zret S hG hS hlocks (Or.inl rfl) hr dX4_outText_60
            · have hf := zif_n c14 hf
              refine lv_iconst (v := 1) hx hb dX4_outText_55 (by decide) ?_
              refine lv_goto (tgt := 60) hx hb dX4_outText_56 (by decide) ?_
              obtain ⟨hq1, hq2⟩ := Prod.mk.inj (Option.some.inj hf)
              subst hq1
              subst hq2
              exact z_zret S hG hS hlocks (Or.inr rfl) hr dX4_outText_60
    · have hf := zif_p c4 hf
      refine lv_iconst (v := 0) hx hb dX4_outText_19 (by decide) ?_
      obtain ⟨hq1, hq2⟩ := Prod.mk.inj (Option.some.inj hf)
      subst hq1
      subst hq2
      exact z_zret S hG hS hlocks (Or.inl rfl) hr dX4_outText_20
  exact hK0 _ _ ls hG hS hl hf
set_option maxRecDepth 100000 in
set_option maxHeartbeats 4000000 in
theorem c_X4_statement (l : Launch) (D : va_G) (aC : Nat → ClassId) (zs : Nat × Nat) (A : Nat → Prop) (nl : zNL) (ad : Nat → Nat → Nat → Nat) (σ : zM)  (r : Int32) (σ' : zM)  (hf : f_X4_statement σ = some (r, σ')) : Met l yX4_statement (Cond.code yX4_statement cX4_statement 2 (some .boolean) :: wsL_law) ({ frames := 65, cells := 0, slots := 0, locals := 1490 } : Room) (zP D aC zs zfX A nl ad σ [.ref (ad 4 0 0)]) (zQ (some (.int r)) (fun t => zG D aC A nl ad σ' t t.heap ∧ (r = 0 ∨ r = 1)) A) 0 0 A := by
  refine Met.ofW (cc := cX4_statement) (maxL := 2) (ret := (some .boolean)) (by decide) rfl ?_
  intro p e s m args below meth c s₁ B hml hv
  obtain ⟨rfl, hG, hZ⟩ := hv
  have hx := B.exec
  have hb := B.bytes
  have hr := B.returns
  have hts : ∀ w ∈ wsL_law, w.before ([.ref (ad 4 0 0)] : List Value).toArray s = true := fun w h => (atoms_spec B.pre) w (List.mem_cons_of_mem _ h)
  have hown : s.vm.findClass RX4 = some m.cls := findClass_of_methodNamed B.named
  have hlocks := B.notSynchronized
  have S : zS p m c cX4_statement 2 s ([.ref (ad 4 0 0)] : List Value).toArray RX4 := ⟨hx, hb, hml, hown, hts⟩
  have hS : va_S A s.heap s.heap [] := va_S.rf
  have hl := lv_entry ([.ref (ad 4 0 0)]) (n := 2) (Nat.le_of_ble_eq_true rfl)
  rw [lg_entry_eq]
  generalize (lg_sl ([.ref (ad 4 0 0)]) ++ List.replicate (2 - (lg_sl ([.ref (ad 4 0 0)])).length) Slot.unset).toArray = ls at hl ⊢
  have hl : lv_has ls 2 [(0, .ref (ad 4 0 0))] := hl
  generalize hargs : ([.ref (ad 4 0 0)] : List Value).toArray = args at S hts ⊢
  clear hargs
  have hK0 : ∀ (H : Heap) (locs : List Loc) (ls : Array Slot), zG D aC A nl ad σ s H → va_S A s.heap H locs → lv_has ls 2 [(0, .ref (ad 4 0 0))] → f_X4_statement σ = some (r, σ') → zWk p l e ({ frames := 65, cells := 0, slots := 0, locals := 1490 } : Room) s m args below meth c A (some (.int r)) (fun t => zG D aC A nl ad σ' t t.heap ∧ (r = 0 ∨ r = 1)) H locs (F0 m 0 ls []) := by
    intro H locs ls hG hS hl hf
    unfold f_X4_statement at hf
    refine lv_aload_n hx hb dX4_statement_0 rfl (lv_at hl 0 rfl) ?_
    obtain ⟨r1, er1, hf⟩ := zbi hf
    refine z_callV (n := 0) (rest := []) (st1 := [.int r1]) (c0 := 4) (i0 := 0) (hZ.2.1 (4, 0) (by decide)) (by rfl) S hG hS hZ (fun _ _ h => h) (c_X4_keyword l D aC zs A nl ad σ r1 er1) zw_370 zw_371 zw_372 zw_27 zw_373 (by decide +kernel) ⟨rfl, rfl⟩ ⟨(Nat.le_of_ble_eq_true rfl), (Nat.le_of_ble_eq_true rfl)⟩ hl.1 rfl (by rfl) (by rfl) (Nat.le_of_ble_eq_true rfl) dX4_statement_1 ⟨Nat.zero_le _, Nat.zero_le _⟩ (fun H locs hz2 hG hS => ?_)
    refine lv_istore_n (lv' := [(1, .int r1), (0, .ref (ad 4 0 0))]) hx hb dX4_statement_4 rfl hl (by decide) rfl (fun ls hl => ?_)
    refine lv_iload_n hx hb dX4_statement_5 rfl (lv_at hl 0 rfl) ?_
    by_cases c3 : r1 = 0
    · have hf := zif_p c3 hf
      refine lv_tableIn (x := r1) (off := 70) (tgt := 76) hx hb dX4_statement_6 (by rw [c3]; decide) (by rw [c3]; decide) (by rw [c3]; decide) (by decide) ?_
      refine lv_aload_n hx hb dX4_statement_76 rfl (lv_at hl 1 rfl) ?_
      obtain ⟨q4, eq4, hf⟩ := zbi hf
      refine z_callV (n := 0) (rest := []) (st1 := [.int q4.1]) (c0 := 4) (i0 := 0) (hZ.2.1 (4, 0) (by decide)) (by rfl) S hG hS hZ (fun _ _ h => h) (c_X4_roomText l D aC zs A nl ad σ q4.1 q4.2 eq4) zw_379 zw_380 zw_381 zw_27 zw_382 (by decide +kernel) ⟨rfl, rfl⟩ ⟨(Nat.le_of_ble_eq_true rfl), (Nat.le_of_ble_eq_true rfl)⟩ hl.1 rfl (by rfl) (by rfl) (Nat.le_of_ble_eq_true rfl) dX4_statement_77 ⟨Nat.zero_le _, Nat.zero_le _⟩ (fun H locs hz5 hG hS => ?_)
      obtain ⟨hq1, hq2⟩ := Prod.mk.inj (Option.some.inj hf)
      subst hq1
      subst hq2
      exact z_zret S hG hS hlocks hz5 hr dX4_statement_80
    · have hf := zif_n c3 hf
      by_cases c6 : r1 = 1
      · have hf := zif_p c6 hf
        refine lv_tableIn (x := r1) (off := 75) (tgt := 81) hx hb dX4_statement_6 (by rw [c6]; decide) (by rw [c6]; decide) (by rw [c6]; decide) (by decide) ?_
        refine lv_aload_n hx hb dX4_statement_81 rfl (lv_at hl 1 rfl) ?_
        refine lv_iload_n hx hb dX4_statement_82 rfl (lv_at hl 0 rfl) ?_
        refine lv_bipush (v := 16) hx hb dX4_statement_83 (by decide) ?_
        obtain ⟨q7, eq7, hf⟩ := zbi hf
        refine z_callV (n := 2) (rest := []) (st1 := [.int q7.1]) (c0 := 4) (i0 := 0) (hZ.2.1 (4, 0) (by decide)) (by rfl) S hG hS hZ (fun _ _ h => h) (c_X4_pairText l D aC zs A nl ad σ r1 16 q7.1 q7.2 eq7) zw_419 zw_420 zw_421 zw_27 zw_422 (by decide +kernel) ⟨rfl, rfl⟩ ⟨(Nat.le_of_ble_eq_true rfl), (Nat.le_of_ble_eq_true rfl)⟩ hl.1 rfl (by rfl) (by rfl) (Nat.le_of_ble_eq_true rfl) dX4_statement_85 ⟨Nat.zero_le _, Nat.zero_le _⟩ (fun H locs hz8 hG hS => ?_)
        obtain ⟨hq1, hq2⟩ := Prod.mk.inj (Option.some.inj hf)
        subst hq1
        subst hq2
        exact z_zret S hG hS hlocks hz8 hr dX4_statement_88
      · have hf := zif_n c6 hf
        by_cases c9 : r1 = 2
        · have hf := zif_p c9 hf
          refine lv_tableIn (x := r1) (off := 83) (tgt := 89) hx hb dX4_statement_6 (by rw [c9]; decide) (by rw [c9]; decide) (by rw [c9]; decide) (by decide) ?_
          refine lv_aload_n hx hb dX4_statement_89 rfl (lv_at hl 1 rfl) ?_
          refine lv_iload_n hx hb dX4_statement_90 rfl (lv_at hl 0 rfl) ?_
          refine lv_bipush (v := 17) hx hb dX4_statement_91 (by decide) ?_
          obtain ⟨q10, eq10, hf⟩ := zbi hf
          refine z_callV (n := 2) (rest := []) (st1 := [.int q10.1]) (c0 := 4) (i0 := 0) (hZ.2.1 (4, 0) (by decide)) (by rfl) S hG hS hZ (fun _ _ h => h) (c_X4_pairText l D aC zs A nl ad σ r1 17 q10.1 q10.2 eq10) zw_419 zw_420 zw_421 zw_27 zw_422 (by decide +kernel) ⟨rfl, rfl⟩ ⟨(Nat.le_of_ble_eq_true rfl), (Nat.le_of_ble_eq_true rfl)⟩ hl.1 rfl (by rfl) (by rfl) (Nat.le_of_ble_eq_true rfl) dX4_statement_93 ⟨Nat.zero_le _, Nat.zero_le _⟩ (fun H locs hz11 hG hS => ?_)
          obtain ⟨hq1, hq2⟩ := Prod.mk.inj (Option.some.inj hf)
          subst hq1
          subst hq2
          exact z_zret S hG hS hlocks hz11 hr dX4_statement_96
        · have hf := zif_n c9 hf
          by_cases c12 : r1 = 3
          · have hf := zif_p c12 hf
            refine lv_tableIn (x := r1) (off := 91) (tgt := 97) hx hb dX4_statement_6 (by rw [c12]; decide) (by rw [c12]; decide) (by rw [c12]; decide) (by decide) ?_
            refine lv_aload_n hx hb dX4_statement_97 rfl (lv_at hl 1 rfl) ?_
            obtain ⟨q13, eq13, hf⟩ := zbi hf
            refine z_callV (n := 0) (rest := []) (st1 := [.int q13.1]) (c0 := 4) (i0 := 0) (hZ.2.1 (4, 0) (by decide)) (by rfl) S hG hS hZ (fun _ _ h => h) (c_X4_rateText l D aC zs A nl ad σ q13.1 q13.2 eq13) zw_427 zw_428 zw_429 zw_27 zw_430 (by decide +kernel) ⟨rfl, rfl⟩ ⟨(Nat.le_of_ble_eq_true rfl), (Nat.le_of_ble_eq_true rfl)⟩ hl.1 rfl (by rfl) (by rfl) (Nat.le_of_ble_eq_true rfl) dX4_statement_98 ⟨Nat.zero_le _, Nat.zero_le _⟩ (fun H locs hz14 hG hS => ?_)
            obtain ⟨hq1, hq2⟩ := Prod.mk.inj (Option.some.inj hf)
            subst hq1
            subst hq2
            exact z_zret S hG hS hlocks hz14 hr dX4_statement_101
          · have hf := zif_n c12 hf
            by_cases c15 : r1 = 4
            · have hf := zif_p c15 hf
              refine lv_tableIn (x := r1) (off := 96) (tgt := 102) hx hb dX4_statement_6 (by rw [c15]; decide) (by rw [c15]; decide) (by rw [c15]; decide) (by decide) ?_
              refine lv_aload_n hx hb dX4_statement_102 rfl (lv_at hl 1 rfl) ?_
              refine lv_iload_n hx hb dX4_statement_103 rfl (lv_at hl 0 rfl) ?_
              refine lv_iconst (v := 0) hx hb dX4_statement_104 (by decide) ?_
              refine lv_iconst (v := 0) hx hb dX4_statement_105 (by decide) ?_
              refine lv_sipush (v := 9999) hx hb dX4_statement_106 (by decide) ?_
              obtain ⟨q16, eq16, hf⟩ := zbi hf
              refine z_callV (n := 4) (rest := []) (st1 := [.int q16.1]) (c0 := 4) (i0 := 0) (hZ.2.1 (4, 0) (by decide)) (by rfl) S hG hS hZ (fun _ _ h => h) (c_X4_termText l D aC zs A nl ad σ r1 0 0 9999 q16.1 q16.2 eq16) zw_435 zw_436 zw_437 zw_27 zw_438 (by decide +kernel) ⟨rfl, rfl⟩ ⟨(Nat.le_of_ble_eq_true rfl), (Nat.le_of_ble_eq_true rfl)⟩ hl.1 rfl (by rfl) (by rfl) (Nat.le_of_ble_eq_true rfl) dX4_statement_109 ⟨Nat.zero_le _, Nat.zero_le _⟩ (fun H locs hz17 hG hS => ?_)
              obtain ⟨hq1, hq2⟩ := Prod.mk.inj (Option.some.inj hf)
              subst hq1
              subst hq2
              exact z_zret S hG hS hlocks hz17 hr dX4_statement_112
            · have hf := zif_n c15 hf
              by_cases c18 : r1 = 5
              · have hf := zif_p c18 hf
                refine lv_tableIn (x := r1) (off := 107) (tgt := 113) hx hb dX4_statement_6 (by rw [c18]; decide) (by rw [c18]; decide) (by rw [c18]; decide) (by decide) ?_
                refine lv_aload_n hx hb dX4_statement_113 rfl (lv_at hl 1 rfl) ?_
                refine lv_iload_n hx hb dX4_statement_114 rfl (lv_at hl 0 rfl) ?_
                refine lv_iconst (v := 1) hx hb dX4_statement_115 (by decide) ?_
                refine lv_iconst (v := 0) hx hb dX4_statement_116 (by decide) ?_
                refine lv_sipush (v := 9999) hx hb dX4_statement_117 (by decide) ?_
                obtain ⟨q19, eq19, hf⟩ := zbi hf
                refine z_callV (n := 4) (rest := []) (st1 := [.int q19.1]) (c0 := 4) (i0 := 0) (hZ.2.1 (4, 0) (by decide)) (by rfl) S hG hS hZ (fun _ _ h => h) (c_X4_termText l D aC zs A nl ad σ r1 1 0 9999 q19.1 q19.2 eq19) zw_435 zw_436 zw_437 zw_27 zw_438 (by decide +kernel) ⟨rfl, rfl⟩ ⟨(Nat.le_of_ble_eq_true rfl), (Nat.le_of_ble_eq_true rfl)⟩ hl.1 rfl (by rfl) (by rfl) (Nat.le_of_ble_eq_true rfl) dX4_statement_120 ⟨Nat.zero_le _, Nat.zero_le _⟩ (fun H locs hz20 hG hS => ?_)
                obtain ⟨hq1, hq2⟩ := Prod.mk.inj (Option.some.inj hf)
                subst hq1
                subst hq2
                exact z_zret S hG hS hlocks hz20 hr dX4_statement_123
              · have hf := zif_n c18 hf
                by_cases c21 : r1 = 6
                · have hf := zif_p c21 hf
                  refine lv_tableIn (x := r1) (off := 118) (tgt := 124) hx hb dX4_statement_6 (by rw [c21]; decide) (by rw [c21]; decide) (by rw [c21]; decide) (by decide) ?_
                  refine lv_aload_n hx hb dX4_statement_124 rfl (lv_at hl 1 rfl) ?_
                  refine lv_iload_n hx hb dX4_statement_125 rfl (lv_at hl 0 rfl) ?_
                  refine lv_iconst (v := 2) hx hb dX4_statement_126 (by decide) ?_
                  refine lv_iconst (v := 0) hx hb dX4_statement_127 (by decide) ?_
                  refine lv_sipush (v := 9999) hx hb dX4_statement_128 (by decide) ?_
                  obtain ⟨q22, eq22, hf⟩ := zbi hf
                  refine z_callV (n := 4) (rest := []) (st1 := [.int q22.1]) (c0 := 4) (i0 := 0) (hZ.2.1 (4, 0) (by decide)) (by rfl) S hG hS hZ (fun _ _ h => h) (c_X4_termText l D aC zs A nl ad σ r1 2 0 9999 q22.1 q22.2 eq22) zw_435 zw_436 zw_437 zw_27 zw_438 (by decide +kernel) ⟨rfl, rfl⟩ ⟨(Nat.le_of_ble_eq_true rfl), (Nat.le_of_ble_eq_true rfl)⟩ hl.1 rfl (by rfl) (by rfl) (Nat.le_of_ble_eq_true rfl) dX4_statement_131 ⟨Nat.zero_le _, Nat.zero_le _⟩ (fun H locs hz23 hG hS => ?_)
                  obtain ⟨hq1, hq2⟩ := Prod.mk.inj (Option.some.inj hf)
                  subst hq1
                  subst hq2
                  exact z_zret S hG hS hlocks hz23 hr dX4_statement_134
                · have hf := zif_n c21 hf
                  by_cases c24 : r1 = 7
                  · have hf := zif_p c24 hf
                    refine lv_tableIn (x := r1) (off := 129) (tgt := 135) hx hb dX4_statement_6 (by rw [c24]; decide) (by rw [c24]; decide) (by rw [c24]; decide) (by decide) ?_
                    refine lv_aload_n hx hb dX4_statement_135 rfl (lv_at hl 1 rfl) ?_
                    obtain ⟨q25, eq25, hf⟩ := zbi hf
                    refine z_callV (n := 0) (rest := []) (st1 := [.int q25.1]) (c0 := 4) (i0 := 0) (hZ.2.1 (4, 0) (by decide)) (by rfl) S hG hS hZ (fun _ _ h => h) (c_X4_costText l D aC zs A nl ad σ q25.1 q25.2 eq25) zw_443 zw_444 zw_445 zw_27 zw_446 (by decide +kernel) ⟨rfl, rfl⟩ ⟨(Nat.le_of_ble_eq_true rfl), (Nat.le_of_ble_eq_true rfl)⟩ hl.1 rfl (by rfl) (by rfl) (Nat.le_of_ble_eq_true rfl) dX4_statement_136 ⟨Nat.zero_le _, Nat.zero_le _⟩ (fun H locs hz26 hG hS => ?_)
                    obtain ⟨hq1, hq2⟩ := Prod.mk.inj (Option.some.inj hf)
                    subst hq1
                    subst hq2
                    exact z_zret S hG hS hlocks hz26 hr dX4_statement_139
                  · have hf := zif_n c24 hf
                    by_cases c27 : r1 = 8
                    · have hf := zif_p c27 hf
                      refine lv_tableIn (x := r1) (off := 134) (tgt := 140) hx hb dX4_statement_6 (by rw [c27]; decide) (by rw [c27]; decide) (by rw [c27]; decide) (by decide) ?_
                      refine lv_aload_n hx hb dX4_statement_140 rfl (lv_at hl 1 rfl) ?_
                      obtain ⟨q28, eq28, hf⟩ := zbi hf
                      refine z_callV (n := 0) (rest := []) (st1 := [.int q28.1]) (c0 := 4) (i0 := 0) (hZ.2.1 (4, 0) (by decide)) (by rfl) S hG hS hZ (fun _ _ h => h) (c_X4_outText l D aC zs A nl ad σ q28.1 q28.2 eq28) zw_447 zw_448 zw_449 zw_27 zw_450 (by decide +kernel) ⟨rfl, rfl⟩ ⟨(Nat.le_of_ble_eq_true rfl), (Nat.le_of_ble_eq_true rfl)⟩ hl.1 rfl (by rfl) (by rfl) (Nat.le_of_ble_eq_true rfl) dX4_statement_141 ⟨Nat.zero_le _, Nat.zero_le _⟩ (fun H locs hz29 hG hS => ?_)
                      obtain ⟨hq1, hq2⟩ := Prod.mk.inj (Option.some.inj hf)
                      subst hq1
                      subst hq2
                      exact z_zret S hG hS hlocks hz29 hr dX4_statement_144
                    · have hf := zif_n c27 hf
                      by_cases c30 : r1 = 9
                      · have hf := zif_p c30 hf
                        refine lv_tableIn (x := r1) (off := 139) (tgt := 145) hx hb dX4_statement_6 (by rw [c30]; decide) (by rw [c30]; decide) (by rw [c30]; decide) (by decide) ?_
                        refine lv_aload_n hx hb dX4_statement_145 rfl (lv_at hl 1 rfl) ?_
                        refine lv_iload_n hx hb dX4_statement_146 rfl (lv_at hl 0 rfl) ?_
                        refine lv_iconst (v := 4) hx hb dX4_statement_147 (by decide) ?_
                        refine lv_iconst (v := 0) hx hb dX4_statement_148 (by decide) ?_
                        refine lv_ldc (v := 999999) hx hb hown (hts _ zw_369) dX4_statement_149 ?_
                        obtain ⟨q31, eq31, hf⟩ := zbi hf
                        refine z_callV (n := 4) (rest := []) (st1 := [.int q31.1]) (c0 := 4) (i0 := 0) (hZ.2.1 (4, 0) (by decide)) (by rfl) S hG hS hZ (fun _ _ h => h) (c_X4_termText l D aC zs A nl ad σ r1 4 0 999999 q31.1 q31.2 eq31) zw_435 zw_436 zw_437 zw_27 zw_438 (by decide +kernel) ⟨rfl, rfl⟩ ⟨(Nat.le_of_ble_eq_true rfl), (Nat.le_of_ble_eq_true rfl)⟩ hl.1 rfl (by rfl) (by rfl) (Nat.le_of_ble_eq_true rfl) dX4_statement_151 ⟨Nat.zero_le _, Nat.zero_le _⟩ (fun H locs hz32 hG hS => ?_)
                        obtain ⟨hq1, hq2⟩ := Prod.mk.inj (Option.some.inj hf)
                        subst hq1
                        subst hq2
                        exact z_zret S hG hS hlocks hz32 hr dX4_statement_154
                      · have hf := zif_n c30 hf
                        by_cases c33 : r1 = 10
                        · have hf := zif_p c33 hf
                          refine lv_tableIn (x := r1) (off := 149) (tgt := 155) hx hb dX4_statement_6 (by rw [c33]; decide) (by rw [c33]; decide) (by rw [c33]; decide) (by decide) ?_
                          refine lv_aload_n hx hb dX4_statement_155 rfl (lv_at hl 1 rfl) ?_
                          refine lv_iload_n hx hb dX4_statement_156 rfl (lv_at hl 0 rfl) ?_
                          refine lv_iconst (v := 5) hx hb dX4_statement_157 (by decide) ?_
                          refine lv_iconst (v := 1) hx hb dX4_statement_158 (by decide) ?_
                          refine lv_bipush (v := 10) hx hb dX4_statement_159 (by decide) ?_
                          obtain ⟨q34, eq34, hf⟩ := zbi hf
                          refine z_callV (n := 4) (rest := []) (st1 := [.int q34.1]) (c0 := 4) (i0 := 0) (hZ.2.1 (4, 0) (by decide)) (by rfl) S hG hS hZ (fun _ _ h => h) (c_X4_termText l D aC zs A nl ad σ r1 5 1 10 q34.1 q34.2 eq34) zw_435 zw_436 zw_437 zw_27 zw_438 (by decide +kernel) ⟨rfl, rfl⟩ ⟨(Nat.le_of_ble_eq_true rfl), (Nat.le_of_ble_eq_true rfl)⟩ hl.1 rfl (by rfl) (by rfl) (Nat.le_of_ble_eq_true rfl) dX4_statement_161 ⟨Nat.zero_le _, Nat.zero_le _⟩ (fun H locs hz35 hG hS => ?_)
                          obtain ⟨hq1, hq2⟩ := Prod.mk.inj (Option.some.inj hf)
                          subst hq1
                          subst hq2
                          exact z_zret S hG hS hlocks hz35 hr dX4_statement_164
                        · have hf := zif_n c33 hf
                          by_cases c36 : r1 = 11
                          · have hf := zif_p c36 hf
                            refine lv_tableIn (x := r1) (off := 159) (tgt := 165) hx hb dX4_statement_6 (by rw [c36]; decide) (by rw [c36]; decide) (by rw [c36]; decide) (by decide) ?_
                            refine lv_aload_n hx hb dX4_statement_165 rfl (lv_at hl 1 rfl) ?_
                            refine lv_iload_n hx hb dX4_statement_166 rfl (lv_at hl 0 rfl) ?_
                            refine lv_bipush (v := 6) hx hb dX4_statement_167 (by decide) ?_
                            refine lv_bipush (v := 24) hx hb dX4_statement_169 (by decide) ?_
                            refine lv_bipush (v := 26) hx hb dX4_statement_171 (by decide) ?_
                            obtain ⟨q37, eq37, hf⟩ := zbi hf
                            refine z_callV (n := 4) (rest := []) (st1 := [.int q37.1]) (c0 := 4) (i0 := 0) (hZ.2.1 (4, 0) (by decide)) (by rfl) S hG hS hZ (fun _ _ h => h) (c_X4_choiceText l D aC zs A nl ad σ r1 6 24 26 q37.1 q37.2 eq37) zw_479 zw_480 zw_481 zw_27 zw_482 (by decide +kernel) ⟨rfl, rfl⟩ ⟨(Nat.le_of_ble_eq_true rfl), (Nat.le_of_ble_eq_true rfl)⟩ hl.1 rfl (by rfl) (by rfl) (Nat.le_of_ble_eq_true rfl) dX4_statement_173 ⟨Nat.zero_le _, Nat.zero_le _⟩ (fun H locs hz38 hG hS => ?_)
                            obtain ⟨hq1, hq2⟩ := Prod.mk.inj (Option.some.inj hf)
                            subst hq1
                            subst hq2
                            exact z_zret S hG hS hlocks hz38 hr dX4_statement_176
                          · have hf := zif_n c36 hf
                            by_cases c39 : r1 = 12
                            · have hf := zif_p c39 hf
                              refine lv_tableIn (x := r1) (off := 171) (tgt := 177) hx hb dX4_statement_6 (by rw [c39]; decide) (by rw [c39]; decide) (by rw [c39]; decide) (by decide) ?_
                              refine lv_aload_n hx hb dX4_statement_177 rfl (lv_at hl 1 rfl) ?_
                              refine lv_iload_n hx hb dX4_statement_178 rfl (lv_at hl 0 rfl) ?_
                              refine lv_bipush (v := 7) hx hb dX4_statement_179 (by decide) ?_
                              refine lv_bipush (v := 27) hx hb dX4_statement_181 (by decide) ?_
                              refine lv_bipush (v := 28) hx hb dX4_statement_183 (by decide) ?_
                              obtain ⟨q40, eq40, hf⟩ := zbi hf
                              refine z_callV (n := 4) (rest := []) (st1 := [.int q40.1]) (c0 := 4) (i0 := 0) (hZ.2.1 (4, 0) (by decide)) (by rfl) S hG hS hZ (fun _ _ h => h) (c_X4_choiceText l D aC zs A nl ad σ r1 7 27 28 q40.1 q40.2 eq40) zw_479 zw_480 zw_481 zw_27 zw_482 (by decide +kernel) ⟨rfl, rfl⟩ ⟨(Nat.le_of_ble_eq_true rfl), (Nat.le_of_ble_eq_true rfl)⟩ hl.1 rfl (by rfl) (by rfl) (Nat.le_of_ble_eq_true rfl) dX4_statement_185 ⟨Nat.zero_le _, Nat.zero_le _⟩ (fun H locs hz41 hG hS => ?_)
                              obtain ⟨hq1, hq2⟩ := Prod.mk.inj (Option.some.inj hf)
                              subst hq1
                              subst hq2
                              exact z_zret S hG hS hlocks hz41 hr dX4_statement_188
                            · have hf := zif_n c39 hf
                              by_cases c42 : r1 = 13
                              · have hf := zif_p c42 hf
                                refine lv_tableIn (x := r1) (off := 183) (tgt := 189) hx hb dX4_statement_6 (by rw [c42]; decide) (by rw [c42]; decide) (by rw [c42]; decide) (by decide) ?_
                                refine lv_aload_n hx hb dX4_statement_189 rfl (lv_at hl 1 rfl) ?_
                                obtain ⟨q43, eq43, hf⟩ := zbi hf
                                refine z_callV (n := 0) (rest := []) (st1 := [.int q43.1]) (c0 := 4) (i0 := 0) (hZ.2.1 (4, 0) (by decide)) (by rfl) S hG hS hZ (fun _ _ h => h) (c_X4_feeText l D aC zs A nl ad σ q43.1 q43.2 eq43) zw_483 zw_484 zw_485 zw_27 zw_486 (by decide +kernel) ⟨rfl, rfl⟩ ⟨(Nat.le_of_ble_eq_true rfl), (Nat.le_of_ble_eq_true rfl)⟩ hl.1 rfl (by rfl) (by rfl) (Nat.le_of_ble_eq_true rfl) dX4_statement_190 ⟨Nat.zero_le _, Nat.zero_le _⟩ (fun H locs hz44 hG hS => ?_)
                                obtain ⟨hq1, hq2⟩ := Prod.mk.inj (Option.some.inj hf)
                                subst hq1
                                subst hq2
                                exact z_zret S hG hS hlocks hz44 hr dX4_statement_193
                              · have hf := zif_n c42 hf
                                have hout : r1.toInt < 0 ∨ 13 < r1.toInt := by
                                  rcases (show r1.toInt < 0 ∨ 13 < r1.toInt ∨ r1.toInt = 0 ∨ r1.toInt = 1 ∨ r1.toInt = 2 ∨ r1.toInt = 3 ∨ r1.toInt = 4 ∨ r1.toInt = 5 ∨ r1.toInt = 6 ∨ r1.toInt = 7 ∨ r1.toInt = 8 ∨ r1.toInt = 9 ∨ r1.toInt = 10 ∨ r1.toInt = 11 ∨ r1.toInt = 12 ∨ r1.toInt = 13 by omega) with h | h | h | h | h | h | h | h | h | h | h | h | h | h | h | h
                                  · exact Or.inl h
                                  · exact Or.inr h
                                  · exact absurd (Int32.toInt_inj.mp (h.trans (by decide : (0 : Int) = (0 : Int32).toInt))) c3
                                  · exact absurd (Int32.toInt_inj.mp (h.trans (by decide : (1 : Int) = (1 : Int32).toInt))) c6
                                  · exact absurd (Int32.toInt_inj.mp (h.trans (by decide : (2 : Int) = (2 : Int32).toInt))) c9
                                  · exact absurd (Int32.toInt_inj.mp (h.trans (by decide : (3 : Int) = (3 : Int32).toInt))) c12
                                  · exact absurd (Int32.toInt_inj.mp (h.trans (by decide : (4 : Int) = (4 : Int32).toInt))) c15
                                  · exact absurd (Int32.toInt_inj.mp (h.trans (by decide : (5 : Int) = (5 : Int32).toInt))) c18
                                  · exact absurd (Int32.toInt_inj.mp (h.trans (by decide : (6 : Int) = (6 : Int32).toInt))) c21
                                  · exact absurd (Int32.toInt_inj.mp (h.trans (by decide : (7 : Int) = (7 : Int32).toInt))) c24
                                  · exact absurd (Int32.toInt_inj.mp (h.trans (by decide : (8 : Int) = (8 : Int32).toInt))) c27
                                  · exact absurd (Int32.toInt_inj.mp (h.trans (by decide : (9 : Int) = (9 : Int32).toInt))) c30
                                  · exact absurd (Int32.toInt_inj.mp (h.trans (by decide : (10 : Int) = (10 : Int32).toInt))) c33
                                  · exact absurd (Int32.toInt_inj.mp (h.trans (by decide : (11 : Int) = (11 : Int32).toInt))) c36
                                  · exact absurd (Int32.toInt_inj.mp (h.trans (by decide : (12 : Int) = (12 : Int32).toInt))) c39
                                  · exact absurd (Int32.toInt_inj.mp (h.trans (by decide : (13 : Int) = (13 : Int32).toInt))) c42
                                refine lv_tableOut (x := r1) (tgt := 194) hx hb dX4_statement_6 hout (by decide) ?_
                                refine lv_iconst (v := 0) hx hb dX4_statement_194 (by decide) ?_
                                obtain ⟨hq1, hq2⟩ := Prod.mk.inj (Option.some.inj hf)
                                subst hq1
                                subst hq2
                                exact z_zret S hG hS hlocks (Or.inl rfl) hr dX4_statement_195
  exact hK0 _ _ ls hG hS hl hf
set_option maxRecDepth 100000 in
set_option maxHeartbeats 4000000 in
theorem c_X4_read (l : Launch) (D : va_G) (aC : Nat → ClassId) (zs : Nat × Nat) (A : Nat → Prop) (nl : zNL) (ad : Nat → Nat → Nat → Nat) (σ : zM) (x1 : Int32) (x2 : Nat) (r : Int32) (σ' : zM) (h_x2 : zin nl 0 x2) (hf : f_X4_read σ x1 x2 = some (r, σ')) : Met l yX4_read (Cond.code yX4_read cX4_read 5 (some .boolean) :: wsL_law) ({ frames := 66, cells := 0, slots := 0, locals := 1511 } : Room) (zP D aC zs zfX A nl ad σ [.ref (ad 4 0 0), .int x1, .ref (ad 0 x2 0)]) (zQ (some (.int r)) (fun t => zG D aC A nl ad σ' t t.heap ∧ (r = 0 ∨ r = 1)) A) 0 0 A := by
  refine Met.ofW (cc := cX4_read) (maxL := 5) (ret := (some .boolean)) (by decide) rfl ?_
  intro p e s m args below meth c s₁ B hml hv
  obtain ⟨rfl, hG, hZ⟩ := hv
  have hx := B.exec
  have hb := B.bytes
  have hr := B.returns
  have hts : ∀ w ∈ wsL_law, w.before ([.ref (ad 4 0 0), .int x1, .ref (ad 0 x2 0)] : List Value).toArray s = true := fun w h => (atoms_spec B.pre) w (List.mem_cons_of_mem _ h)
  have hown : s.vm.findClass RX4 = some m.cls := findClass_of_methodNamed B.named
  have hlocks := B.notSynchronized
  have S : zS p m c cX4_read 5 s ([.ref (ad 4 0 0), .int x1, .ref (ad 0 x2 0)] : List Value).toArray RX4 := ⟨hx, hb, hml, hown, hts⟩
  have hS : va_S A s.heap s.heap [] := va_S.rf
  have hl := lv_entry ([.ref (ad 4 0 0), .int x1, .ref (ad 0 x2 0)]) (n := 5) (Nat.le_of_ble_eq_true rfl)
  rw [lg_entry_eq]
  generalize (lg_sl ([.ref (ad 4 0 0), .int x1, .ref (ad 0 x2 0)]) ++ List.replicate (5 - (lg_sl ([.ref (ad 4 0 0), .int x1, .ref (ad 0 x2 0)])).length) Slot.unset).toArray = ls at hl ⊢
  have hl : lv_has ls 5 [(0, .ref (ad 4 0 0)), (1, .int x1), (2, .ref (ad 0 x2 0))] := hl
  generalize hargs : ([.ref (ad 4 0 0), .int x1, .ref (ad 0 x2 0)] : List Value).toArray = args at S hts ⊢
  clear hargs
  have KJ99 : ∀ (y3b99 : Int32)  (σb99 : zM) (H : Heap) (locs : List Loc) (ls : Array Slot), zG D aC A nl ad σb99 s H → va_S A s.heap H locs → lv_has ls 5 [(0, .ref (ad 4 0 0)), (1, .int x1), (2, .ref (ad 0 x2 0)), (3, .int y3b99)] → (f_X4_read_B99 σb99 x1 x2 y3b99) = some (r, σ') → zWk p l e ({ frames := 66, cells := 0, slots := 0, locals := 1511 } : Room) s m args below meth c A (some (.int r)) (fun t => zG D aC A nl ad σ' t t.heap ∧ (r = 0 ∨ r = 1)) H locs (F0 m 99 ls []) := by
    intro y3b99  σb99 H locs ls hG hS hl hf
    unfold f_X4_read_B99 at hf
    refine lv_aload_n hx hb dX4_read_99 rfl (lv_at hl 0 rfl) ?_
    refine z_get (c0 := 4) (i0 := 0) (k0 := 1) (T := TX4) (v := .ref (ad 5 0 0)) S hG (hZ.2.1 (4, 0) (by decide)) rfl inlX4 (by decide) rfl zw_121 rfl dX4_read_100 ?_
    refine lv_iload_n hx hb dX4_read_103 rfl (lv_at hl 3 rfl) ?_
    obtain ⟨σ11, eσ11, hf⟩ := zlt_s hf
    refine z_callV (n := 1) (rest := []) (st1 := []) (c0 := 5) (i0 := 0) (hZ.2.1 (5, 0) (by decide)) (by rfl) S hG hS hZ (fun _ _ h => h) (c_X5_settle l D aC zs A nl ad σb99 y3b99 σ11 eσ11.symm) zw_487 zw_488 zw_489 zw_19 zw_490 (by decide +kernel) ⟨rfl, rfl⟩ ⟨(Nat.le_of_ble_eq_true rfl), (Nat.le_of_ble_eq_true rfl)⟩ hl.1 rfl (by rfl) (by rfl) (Nat.le_of_ble_eq_true rfl) dX4_read_104 ⟨Nat.zero_le _, Nat.zero_le _⟩ (fun H locs hz12 hG hS => ?_)
    refine lv_iload_n hx hb dX4_read_107 rfl (lv_at hl 3 rfl) ?_
    obtain ⟨_, hzc, hf⟩ := zbi hf
    have hzc := of_decide_eq_true (zck_s hzc)
    obtain ⟨hq1, hq2⟩ := Prod.mk.inj (Option.some.inj hf)
    subst hq1
    subst hq2
    exact z_zret S hG hS hlocks hzc hr dX4_read_108
  have KJ46 : ∀ (σb46 : zM) (H : Heap) (locs : List Loc) (ls : Array Slot), zG D aC A nl ad σb46 s H → va_S A s.heap H locs → lv_has ls 5 [(0, .ref (ad 4 0 0)), (1, .int x1), (2, .ref (ad 0 x2 0))] → (f_X4_read_B46 σb46 x1 x2) = some (r, σ') → zWk p l e ({ frames := 66, cells := 0, slots := 0, locals := 1511 } : Room) s m args below meth c A (some (.int r)) (fun t => zG D aC A nl ad σ' t t.heap ∧ (r = 0 ∨ r = 1)) H locs (F0 m 46 ls []) := by
    intro   σb46 H locs ls hG hS hl hf
    unfold f_X4_read_B46 at hf
    refine lv_iconst (v := 1) hx hb dX4_read_46 (by decide) ?_
    refine lv_istore_n (lv' := [(3, .int 1), (0, .ref (ad 4 0 0)), (1, .int x1), (2, .ref (ad 0 x2 0))]) hx hb dX4_read_47 rfl hl (by decide) rfl (fun ls hl => ?_)
    refine lv_iconst (v := 0) hx hb dX4_read_48 (by decide) ?_
    refine lv_istore (lv' := [(4, .int 0), (3, .int 1), (0, .ref (ad 4 0 0)), (1, .int x1), (2, .ref (ad 0 x2 0))]) hx hb dX4_read_49 hl (by decide) rfl (fun ls hl => ?_)
    obtain ⟨t51, hw51, hfo51⟩ := zbi hf
    have KL51 : ∀ (n : Nat) (y3l51 : Int32) (y4l51 : Int32) (σl51 : zM) (H : Heap) (locs : List Loc) (ls : Array Slot), zG D aC A nl ad σl51 s H → va_S A s.heap H locs → lv_has ls 5 [(0, .ref (ad 4 0 0)), (1, .int x1), (2, .ref (ad 0 x2 0)), (3, .int y3l51), (4, .int y4l51)] → zwh (fun (q : (Int32 × Int32 × zM)) => f_X4_read_L51 x1 x2 q.1 q.2.1 q.2.2) n (y3l51, y4l51, σl51) = some t51 → zWk p l e ({ frames := 66, cells := 0, slots := 0, locals := 1511 } : Room) s m args below meth c A (some (.int r)) (fun t => zG D aC A nl ad σ' t t.heap ∧ (r = 0 ∨ r = 1)) H locs (F0 m 51 ls []) := by
      intro n
      induction n with
      | zero =>
        intro y3l51 y4l51 σl51 H locs ls hG hS hl hw
        exact (zwh_0 hw).elim
      | succ n ih51 =>
        intro y3l51 y4l51 σl51 H locs ls hG hS hl hw
        obtain ⟨rr51, hf, hk51⟩ := zwh_u hw
        have hf : f_X4_read_L51 x1 x2 y3l51 y4l51 σl51 = some rr51 := hf
        unfold f_X4_read_L51 at hf
        have KJ92_51 : ∀ (y4b92 : Int32) (t0b92 : Int32)  (σb92_51 : zM) (H : Heap) (locs : List Loc) (ls : Array Slot), zG D aC A nl ad σb92_51 s H → va_S A s.heap H locs → lv_has ls 5 [(0, .ref (ad 4 0 0)), (1, .int x1), (2, .ref (ad 0 x2 0)), (4, .int y4b92)] → (f_X4_read_B92_51 σb92_51 x1 x2 y4b92 t0b92) = some rr51 → zWk p l e ({ frames := 66, cells := 0, slots := 0, locals := 1511 } : Room) s m args below meth c A (some (.int r)) (fun t => zG D aC A nl ad σ' t t.heap ∧ (r = 0 ∨ r = 1)) H locs (F0 m 92 ls [.int t0b92]) := by
          intro y4b92 t0b92  σb92_51 H locs ls hG hS hl hf
          unfold f_X4_read_B92_51 at hf
          refine lv_istore_n (lv' := [(3, .int t0b92), (0, .ref (ad 4 0 0)), (1, .int x1), (2, .ref (ad 0 x2 0)), (4, .int y4b92)]) hx hb dX4_read_92 rfl hl (by decide) rfl (fun ls hl => ?_)
          refine lv_iinc (v := (y4b92 + 1)) (lv' := [(4, .int (y4b92 + 1)), (3, .int t0b92), (0, .ref (ad 4 0 0)), (1, .int x1), (2, .ref (ad 0 x2 0))]) hx hb dX4_read_93 hl (k := 4) rfl rfl (by decide) rfl (fun ls hl => ?_)
          refine lv_goto (tgt := 51) hx hb dX4_read_96 (by decide) ?_
          cases hf
          exact ih51 t0b92 (y4b92 + 1) σb92_51 H locs ls hG hS (lv_sub hl [2, 3, 4, 1, 0] rfl) hk51
        have KJ91_51 : ∀ (y4b91 : Int32)  (σb91_51 : zM) (H : Heap) (locs : List Loc) (ls : Array Slot), zG D aC A nl ad σb91_51 s H → va_S A s.heap H locs → lv_has ls 5 [(0, .ref (ad 4 0 0)), (1, .int x1), (2, .ref (ad 0 x2 0)), (4, .int y4b91)] → (f_X4_read_B91_51 σb91_51 x1 x2 y4b91) = some rr51 → zWk p l e ({ frames := 66, cells := 0, slots := 0, locals := 1511 } : Room) s m args below meth c A (some (.int r)) (fun t => zG D aC A nl ad σ' t t.heap ∧ (r = 0 ∨ r = 1)) H locs (F0 m 91 ls []) := by
          intro y4b91  σb91_51 H locs ls hG hS hl hf
          unfold f_X4_read_B91_51 at hf
          refine lv_iconst (v := 0) hx hb dX4_read_91 (by decide) ?_
          exact KJ92_51 y4b91 0 σb91_51 H locs ls hG hS (lv_sub hl [0, 1, 2, 3] rfl) hf
        refine lv_iload hx hb dX4_read_51 (lv_at hl 4 rfl) ?_
        refine lv_bipush (v := 40) hx hb dX4_read_53 (by decide) ?_
        refine lv_icmp_gt (tgt := 99) hx hb dX4_read_55 (by decide) (fun c26 => ?_) (fun c26 => ?_)
        · have hf := zif_p c26 hf
          cases hf
          have hk51 : ((y3l51, σl51) : (Int32 × zM)) = t51 := hk51
          have hf := hfo51
          rw [← hk51] at hf
          have hf : (f_X4_read_B99 σl51 x1 x2 y3l51) = some (r, σ') := hf
          exact KJ99 y3l51 σl51 H locs ls hG hS (lv_sub hl [0, 1, 2, 3] rfl) hf
        · have hf := zif_n c26 hf
          refine lv_iload_n hx hb dX4_read_58 rfl (lv_at hl 3 rfl) ?_
          refine lv_if_eq (tgt := 99) hx hb dX4_read_59 (by decide) (fun c27 => ?_) (fun c27 => ?_)
          · have hf := zif_p c27 hf
            cases hf
            have hk51 : ((y3l51, σl51) : (Int32 × zM)) = t51 := hk51
            have hf := hfo51
            rw [← hk51] at hf
            have hf : (f_X4_read_B99 σl51 x1 x2 y3l51) = some (r, σ') := hf
            exact KJ99 y3l51 σl51 H locs ls hG hS (lv_sub hl [0, 1, 2, 3] rfl) hf
          · have hf := zif_n c27 hf
            refine lv_aload_n hx hb dX4_read_62 rfl (lv_at hl 0 rfl) ?_
            refine lv_iconst (v := 0) hx hb dX4_read_63 (by decide) ?_
            obtain ⟨r28, er28, hf⟩ := zbi hf
            refine z_callV (n := 1) (rest := []) (st1 := [.int r28]) (c0 := 4) (i0 := 0) (hZ.2.1 (4, 0) (by decide)) (by rfl) S hG hS hZ (fun _ _ h => h) (c_X4_isKind l D aC zs A nl ad σl51 0 r28 er28) zw_357 zw_358 zw_359 zw_27 zw_360 (by decide +kernel) ⟨rfl, rfl⟩ ⟨(Nat.le_of_ble_eq_true rfl), (Nat.le_of_ble_eq_true rfl)⟩ hl.1 rfl (by rfl) (by rfl) (Nat.le_of_ble_eq_true rfl) dX4_read_64 ⟨Nat.zero_le _, Nat.zero_le _⟩ (fun H locs hz29 hG hS => ?_)
            refine lv_if_ne (tgt := 99) hx hb dX4_read_67 (by decide) (fun c30 => ?_) (fun c30 => ?_)
            · have hf := zif_n c30 hf
              cases hf
              have hk51 : ((y3l51, σl51) : (Int32 × zM)) = t51 := hk51
              have hf := hfo51
              rw [← hk51] at hf
              have hf : (f_X4_read_B99 σl51 x1 x2 y3l51) = some (r, σ') := hf
              exact KJ99 y3l51 σl51 H locs ls hG hS (lv_sub hl [0, 1, 2, 3] rfl) hf
            · have hf := zif_p c30 hf
              refine lv_aload_n hx hb dX4_read_70 rfl (lv_at hl 0 rfl) ?_
              refine z_get (c0 := 4) (i0 := 0) (k0 := 7) (T := TX4) (v := va_rf (Option.map (fun j => ad 0 j 0) (zR σl51 4 0 7))) S hG (hZ.2.1 (4, 0) (by decide)) rfl inlX4 (by decide) rfl zw_117 rfl dX4_read_71 ?_
              rcases hE32 : (zR σl51 4 0 7) with _ | j31
              · have hf := znu_n0 hE32 hf
                refine W.eq (g2 := F0 m 74 ls [.null]) (by first | rfl | (rw [hE32]; rfl)) ?_
                cases hf
              · have hf := znu_s0 hE32 hf
                refine W.eq (g2 := F0 m 74 ls [.ref (ad 0 j31 0)]) (by first | rfl | (rw [hE32]; rfl)) ?_
                refine z_callV (n := 0) (rest := []) (st1 := [.int (f_X0_isFull σl51 j31)]) (c0 := 0) (i0 := j31) ((fun j h => hG.2.2.2.1 4 0 7 j rfl h) j31 hE32) (by rfl) S hG hS hZ (fun _ _ h => h) (c_X0_isFull l D aC zs A nl ad σl51 j31 (f_X0_isFull σl51 j31) ((fun j h => hG.2.2.2.1 4 0 7 j rfl h) j31 hE32) rfl) zw_361 zw_362 zw_363 zw_76 zw_364 (by decide +kernel) ⟨rfl, rfl⟩ ⟨(Nat.le_of_ble_eq_true rfl), (Nat.le_of_ble_eq_true rfl)⟩ hl.1 rfl (by rfl) (by rfl) (Nat.le_of_ble_eq_true rfl) dX4_read_74 ⟨Nat.zero_le _, Nat.zero_le _⟩ (fun H locs hz33 hG hS => ?_)
                refine lv_if_ne (tgt := 91) hx hb dX4_read_77 (by decide) (fun c34 => ?_) (fun c34 => ?_)
                · have hf := zif_n c34 hf
                  exact KJ91_51 y4l51 σl51 H locs ls hG hS (lv_sub hl [0, 1, 2, 4] rfl) hf
                · have hf := zif_p c34 hf
                  refine lv_aload_n hx hb dX4_read_80 rfl (lv_at hl 0 rfl) ?_
                  obtain ⟨q35, eq35, hf⟩ := zbi hf
                  refine z_callV (n := 0) (rest := []) (st1 := [.int q35.1]) (c0 := 4) (i0 := 0) (hZ.2.1 (4, 0) (by decide)) (by rfl) S hG hS hZ (fun _ _ h => h) (c_X4_statement l D aC zs A nl ad σl51 q35.1 q35.2 eq35) zw_365 zw_366 zw_367 zw_27 zw_368 (by decide +kernel) ⟨rfl, rfl⟩ ⟨(Nat.le_of_ble_eq_true rfl), (Nat.le_of_ble_eq_true rfl)⟩ hl.1 rfl (by rfl) (by rfl) (Nat.le_of_ble_eq_true rfl) dX4_read_81 ⟨Nat.zero_le _, Nat.zero_le _⟩ (fun H locs hz36 hG hS => ?_)
                  have Kv39 : ∀ (v39 : Int32) (ls : Array Slot), lv_has ls 5 [(0, .ref (ad 4 0 0)), (1, .int x1), (2, .ref (ad 0 x2 0)), (3, .int y3l51), (4, .int y4l51)] → (some (.inl (v39, (y4l51 + 1), q35.2))) = some rr51 → zWk p l e ({ frames := 66, cells := 0, slots := 0, locals := 1511 } : Room) s m args below meth c A (some (.int r)) (fun t => zG D aC A nl ad σ' t t.heap ∧ (r = 0 ∨ r = 1)) H locs (F0 m 92 ls [.int v39]) := by
                    intro v39 ls hl hf
                    refine lv_istore_n (lv' := [(3, .int v39), (0, .ref (ad 4 0 0)), (1, .int x1), (2, .ref (ad 0 x2 0)), (4, .int y4l51)]) hx hb dX4_read_92 rfl hl (by decide) rfl (fun ls hl => ?_)
                    refine lv_iinc (v := (y4l51 + 1)) (lv' := [(4, .int (y4l51 + 1)), (3, .int v39), (0, .ref (ad 4 0 0)), (1, .int x1), (2, .ref (ad 0 x2 0))]) hx hb dX4_read_93 hl (k := 4) rfl rfl (by decide) rfl (fun ls hl => ?_)
                    refine lv_goto (tgt := 51) hx hb dX4_read_96 (by decide) ?_
                    cases hf
                    exact ih51 v39 (y4l51 + 1) q35.2 H locs ls hG hS (lv_sub hl [2, 3, 4, 1, 0] rfl) hk51
                  refine lv_if_eq (tgt := 91) hx hb dX4_read_84 (by decide) (fun c38 => ?_) (fun c38 => ?_)
                  · rw [if_pos c38] at hf
                    refine lv_iconst (v := 0) hx hb dX4_read_91 (by decide) ?_
                    exact Kv39 _ ls hl hf
                  · rw [if_neg c38] at hf
                    refine lv_iconst (v := 1) hx hb dX4_read_87 (by decide) ?_
                    refine lv_goto (tgt := 92) hx hb dX4_read_88 (by decide) ?_
                    exact Kv39 _ ls hl hf
    exact KL51 zFu 1 0 σb46 H locs ls hG hS (lv_sub hl [2, 3, 4, 1, 0] rfl) hw51
  have hK0 : ∀ (H : Heap) (locs : List Loc) (ls : Array Slot), zG D aC A nl ad σ s H → va_S A s.heap H locs → lv_has ls 5 [(0, .ref (ad 4 0 0)), (1, .int x1), (2, .ref (ad 0 x2 0))] → f_X4_read σ x1 x2 = some (r, σ') → zWk p l e ({ frames := 66, cells := 0, slots := 0, locals := 1511 } : Room) s m args below meth c A (some (.int r)) (fun t => zG D aC A nl ad σ' t t.heap ∧ (r = 0 ∨ r = 1)) H locs (F0 m 0 ls []) := by
    intro H locs ls hG hS hl hf
    unfold f_X4_read at hf
    refine lv_aload_n hx hb dX4_read_0 rfl (lv_at hl 0 rfl) ?_
    refine lv_aload_n hx hb dX4_read_1 rfl (lv_at hl 2 rfl) ?_
    refine z_putR (x := (some x2)) (cn := RX0) (c0 := 4) (i0 := 0) (k0 := 7) (T := TX4) S hG hS tyX4 tyX4_ok nmX4 (hZ.2.1 (4, 0) (by decide)) rfl inlX4 (by decide) rfl rfl zw_117 (by rfl) (by decide +kernel) rfl (fun _ h => by cases h; exact h_x2) dX4_read_2 (fun H locs hG hS => ?_)
    obtain ⟨σ1, eσ1, hf⟩ := zlt_s hf
    rw [← eσ1] at hG
    refine lv_aload_n hx hb dX4_read_5 rfl (lv_at hl 0 rfl) ?_
    refine z_get (c0 := 4) (i0 := 0) (k0 := 7) (T := TX4) (v := va_rf (Option.map (fun j => ad 0 j 0) (zR σ1 4 0 7))) S hG (hZ.2.1 (4, 0) (by decide)) rfl inlX4 (by decide) rfl zw_117 rfl dX4_read_6 ?_
    rcases hE3 : (zR σ1 4 0 7) with _ | j2
    · have hf := znu_n0 hE3 hf
      refine W.eq (g2 := F0 m 9 ls [.null]) (by first | rfl | (rw [hE3]; rfl)) ?_
      cases hf
    · have hf := znu_s0 hE3 hf
      refine W.eq (g2 := F0 m 9 ls [.ref (ad 0 j2 0)]) (by first | rfl | (rw [hE3]; rfl)) ?_
      obtain ⟨σ4, eσ4, hf⟩ := zbi hf
      refine z_callV (n := 0) (rest := []) (st1 := []) (c0 := 0) (i0 := j2) ((fun j h => hG.2.2.2.1 4 0 7 j rfl h) j2 hE3) (by rfl) S hG hS hZ (fun _ _ h => h) (c_X0_wipe l D aC zs zfX A nl ad σ1 j2 σ4 ((fun j h => hG.2.2.2.1 4 0 7 j rfl h) j2 hE3) eσ4) zw_321 zw_99 zw_100 zw_76 zw_101 (by decide +kernel) ⟨rfl, rfl⟩ ⟨(Nat.le_of_ble_eq_true rfl), (Nat.le_of_ble_eq_true rfl)⟩ hl.1 rfl (by rfl) (by rfl) (Nat.le_of_ble_eq_true rfl) dX4_read_9 ⟨Nat.zero_le _, Nat.zero_le _⟩ (fun H locs hz5 hG hS => ?_)
      refine lv_aload_n hx hb dX4_read_12 rfl (lv_at hl 0 rfl) ?_
      refine lv_iload_n hx hb dX4_read_13 rfl (lv_at hl 1 rfl) ?_
      obtain ⟨σ6, eσ6, hf⟩ := zbi hf
      refine z_callV (n := 1) (rest := []) (st1 := []) (c0 := 4) (i0 := 0) (hZ.2.1 (4, 0) (by decide)) (by rfl) S hG hS hZ (fun _ _ h => h) (c_X4_split l D aC zs A nl ad σ4 x1 σ6 eσ6) zw_322 zw_323 zw_324 zw_27 zw_325 (by decide +kernel) ⟨rfl, rfl⟩ ⟨(Nat.le_of_ble_eq_true rfl), (Nat.le_of_ble_eq_true rfl)⟩ hl.1 rfl (by rfl) (by rfl) (Nat.le_of_ble_eq_true rfl) dX4_read_14 ⟨Nat.zero_le _, Nat.zero_le _⟩ (fun H locs hz7 hG hS => ?_)
      refine lv_aload_n hx hb dX4_read_17 rfl (lv_at hl 0 rfl) ?_
      refine lv_iconst (v := 0) hx hb dX4_read_18 (by decide) ?_
      refine z_putI (c0 := 4) (i0 := 0) (k0 := 8) (T := TX4) S hG hS tyX4 tyX4_ok nmX4 (hZ.2.1 (4, 0) (by decide)) rfl inlX4 (by decide) rfl rfl zw_118 (by decide +kernel) rfl dX4_read_19 (fun H locs hG hS => ?_)
      obtain ⟨σ8, eσ8, hf⟩ := zlt_s hf
      rw [← eσ8] at hG
      refine lv_iconst (v := 0) hx hb dX4_read_22 (by decide) ?_
      refine lv_istore_n (lv' := [(3, .int 0), (0, .ref (ad 4 0 0)), (1, .int x1), (2, .ref (ad 0 x2 0))]) hx hb dX4_read_23 rfl hl (by decide) rfl (fun ls hl => ?_)
      obtain ⟨t24, hw24, hfo24⟩ := zbi hf
      have KL24 : ∀ (n : Nat) (y3l24 : Int32) (σl24 : zM) (H : Heap) (locs : List Loc) (ls : Array Slot), zG D aC A nl ad σl24 s H → va_S A s.heap H locs → lv_has ls 5 [(0, .ref (ad 4 0 0)), (1, .int x1), (2, .ref (ad 0 x2 0)), (3, .int y3l24)] → zwh (fun (q : (Int32 × zM)) => f_X4_read_L24 x1 x2 q.1 q.2) n (y3l24, σl24) = some t24 → zWk p l e ({ frames := 66, cells := 0, slots := 0, locals := 1511 } : Room) s m args below meth c A (some (.int r)) (fun t => zG D aC A nl ad σ' t t.heap ∧ (r = 0 ∨ r = 1)) H locs (F0 m 24 ls []) := by
        intro n
        induction n with
        | zero =>
          intro y3l24 σl24 H locs ls hG hS hl hw
          exact (zwh_0 hw).elim
        | succ n ih24 =>
          intro y3l24 σl24 H locs ls hG hS hl hw
          obtain ⟨rr24, hf, hk24⟩ := zwh_u hw
          have hf : f_X4_read_L24 x1 x2 y3l24 σl24 = some rr24 := hf
          unfold f_X4_read_L24 at hf
          refine lv_iload_n hx hb dX4_read_24 rfl (lv_at hl 3 rfl) ?_
          refine lv_aload_n hx hb dX4_read_25 rfl (lv_at hl 0 rfl) ?_
          refine z_get (c0 := 4) (i0 := 0) (k0 := 6) (T := TX4) (v := .ref (ad 4 0 7)) S hG (hZ.2.1 (4, 0) (by decide)) rfl inlX4 (by decide) rfl zw_115 rfl dX4_read_26 ?_
          refine z_alen (c0 := 4) (i0 := 0) (k0 := 6) (n := 6) (v := 13) S hG (hZ.2.1 (4, 0) (by decide)) (by decide) rfl (by decide) (by rfl) dX4_read_29 ?_
          refine lv_icmp_ge (tgt := 46) hx hb dX4_read_30 (by decide) (fun c42 => ?_) (fun c42 => ?_)
          · have hf := zif_p c42 hf
            cases hf
            have hk24 : (σl24 : zM) = t24 := hk24
            have hf := hfo24
            rw [← hk24] at hf
            have hf : (f_X4_read_B46 σl24 x1 x2) = some (r, σ') := hf
            exact KJ46 σl24 H locs ls hG hS (lv_sub hl [0, 1, 2] rfl) hf
          · have hf := zif_n c42 hf
            refine lv_aload_n hx hb dX4_read_33 rfl (lv_at hl 0 rfl) ?_
            refine z_get (c0 := 4) (i0 := 0) (k0 := 6) (T := TX4) (v := .ref (ad 4 0 7)) S hG (hZ.2.1 (4, 0) (by decide)) rfl inlX4 (by decide) rfl zw_115 rfl dX4_read_34 ?_
            refine lv_iload_n hx hb dX4_read_37 rfl (lv_at hl 3 rfl) ?_
            refine lv_iconst (v := 0) hx hb dX4_read_38 (by decide) ?_
            obtain ⟨i43, hi43, hf⟩ := zbi hf
            refine z_zast (c0 := 4) (i0 := 0) (k0 := 6) S hG hS (hZ.2.1 (4, 0) (by decide)) (by decide) rfl hi43 dX4_read_39 (fun H locs hG hS => ?_)
            obtain ⟨σ44, eσ44, hf⟩ := zlt_s hf
            rw [← eσ44] at hG
            refine lv_iinc (v := (y3l24 + 1)) (lv' := [(3, .int (y3l24 + 1)), (0, .ref (ad 4 0 0)), (1, .int x1), (2, .ref (ad 0 x2 0))]) hx hb dX4_read_40 hl (k := 3) rfl rfl (by decide) rfl (fun ls hl => ?_)
            refine lv_goto (tgt := 24) hx hb dX4_read_43 (by decide) ?_
            cases hf
            exact ih24 (y3l24 + 1) σ44 H locs ls hG hS (lv_sub hl [1, 2, 3, 0] rfl) hk24
      exact KL24 zFu 0 σ8 H locs ls hG hS (lv_sub hl [1, 2, 3, 0] rfl) hw24
  exact hK0 _ _ ls hG hS hl hf
set_option maxRecDepth 100000 in
set_option maxHeartbeats 4000000 in
theorem c_X12_breaks (l : Launch) (D : va_G) (aC : Nat → ClassId) (zs : Nat × Nat) (A : Nat → Prop) (nl : zNL) (ad : Nat → Nat → Nat → Nat) (σ : zM) (x1 : Int32) (x2 : Int32) (x3 : Int32) (r : Int32) (σ' : zM)  (hf : f_X12_breaks σ x1 x2 x3 = some (r, σ')) : Met l yX12_breaks (Cond.code yX12_breaks cX12_breaks 5 (some .boolean) :: wsL_law) ({ frames := 66, cells := 0, slots := 0, locals := 1587 } : Room) (zP D aC zs zfM A nl ad σ [.ref (ad 12 0 0), .int x1, .int x2, .int x3]) (zQ (some (.int r)) (fun t => zG D aC A nl ad σ' t t.heap ∧ (r = 0 ∨ r = 1)) A) 0 0 A := by
  refine Met.ofW (cc := cX12_breaks) (maxL := 5) (ret := (some .boolean)) (by decide) rfl ?_
  intro p e s m args below meth c s₁ B hml hv
  obtain ⟨rfl, hG, hZ⟩ := hv
  have hx := B.exec
  have hb := B.bytes
  have hr := B.returns
  have hts : ∀ w ∈ wsL_law, w.before ([.ref (ad 12 0 0), .int x1, .int x2, .int x3] : List Value).toArray s = true := fun w h => (atoms_spec B.pre) w (List.mem_cons_of_mem _ h)
  have hown : s.vm.findClass RX12 = some m.cls := findClass_of_methodNamed B.named
  have hlocks := B.notSynchronized
  have S : zS p m c cX12_breaks 5 s ([.ref (ad 12 0 0), .int x1, .int x2, .int x3] : List Value).toArray RX12 := ⟨hx, hb, hml, hown, hts⟩
  have hS : va_S A s.heap s.heap [] := va_S.rf
  have hl := lv_entry ([.ref (ad 12 0 0), .int x1, .int x2, .int x3]) (n := 5) (Nat.le_of_ble_eq_true rfl)
  rw [lg_entry_eq]
  generalize (lg_sl ([.ref (ad 12 0 0), .int x1, .int x2, .int x3]) ++ List.replicate (5 - (lg_sl ([.ref (ad 12 0 0), .int x1, .int x2, .int x3])).length) Slot.unset).toArray = ls at hl ⊢
  have hl : lv_has ls 5 [(0, .ref (ad 12 0 0)), (1, .int x1), (2, .int x2), (3, .int x3)] := hl
  generalize hargs : ([.ref (ad 12 0 0), .int x1, .int x2, .int x3] : List Value).toArray = args at S hts ⊢
  clear hargs
  have KJ135 : ∀ (σb135 : zM) (H : Heap) (locs : List Loc) (ls : Array Slot), zG D aC A nl ad σb135 s H → va_S A s.heap H locs → lv_has ls 5 [(0, .ref (ad 12 0 0)), (1, .int x1), (2, .int x2), (3, .int x3)] → (f_X12_breaks_B135 σb135 x1 x2 x3) = some (r, σ') → zWk p l e ({ frames := 66, cells := 0, slots := 0, locals := 1587 } : Room) s m args below meth c A (some (.int r)) (fun t => zG D aC A nl ad σ' t t.heap ∧ (r = 0 ∨ r = 1)) H locs (F0 m 135 ls []) := by
    intro   σb135 H locs ls hG hS hl hf
    unfold f_X12_breaks_B135 at hf
    refine lv_iconst (v := 1) hx hb dX12_breaks_135 (by decide) ?_
    refine lv_goto (tgt := 140) hx hb dX12_breaks_136 (by decide) ?_
    obtain ⟨hq1, hq2⟩ := Prod.mk.inj (Option.some.inj hf)
    subst hq1
    subst hq2
    exact z_zret S hG hS hlocks (Or.inr rfl) hr dX12_breaks_140
  have KJ93 : ∀ (σb93 : zM) (H : Heap) (locs : List Loc) (ls : Array Slot), zG D aC A nl ad σb93 s H → va_S A s.heap H locs → lv_has ls 5 [(0, .ref (ad 12 0 0)), (1, .int x1), (2, .int x2), (3, .int x3)] → (f_X12_breaks_B93 σb93 x1 x2 x3) = some (r, σ') → zWk p l e ({ frames := 66, cells := 0, slots := 0, locals := 1587 } : Room) s m args below meth c A (some (.int r)) (fun t => zG D aC A nl ad σ' t t.heap ∧ (r = 0 ∨ r = 1)) H locs (F0 m 93 ls []) := by
    intro   σb93 H locs ls hG hS hl hf
    unfold f_X12_breaks_B93 at hf
    refine lv_iconst (v := 1) hx hb dX12_breaks_93 (by decide) ?_
    refine lv_goto (tgt := 98) hx hb dX12_breaks_94 (by decide) ?_
    obtain ⟨hq1, hq2⟩ := Prod.mk.inj (Option.some.inj hf)
    subst hq1
    subst hq2
    exact z_zret S hG hS hlocks (Or.inr rfl) hr dX12_breaks_98
  have hK0 : ∀ (H : Heap) (locs : List Loc) (ls : Array Slot), zG D aC A nl ad σ s H → va_S A s.heap H locs → lv_has ls 5 [(0, .ref (ad 12 0 0)), (1, .int x1), (2, .int x2), (3, .int x3)] → f_X12_breaks σ x1 x2 x3 = some (r, σ') → zWk p l e ({ frames := 66, cells := 0, slots := 0, locals := 1587 } : Room) s m args below meth c A (some (.int r)) (fun t => zG D aC A nl ad σ' t t.heap ∧ (r = 0 ∨ r = 1)) H locs (F0 m 0 ls []) := by
    intro H locs ls hG hS hl hf
    unfold f_X12_breaks at hf
    refine lv_aload_n hx hb dX12_breaks_0 rfl (lv_at hl 0 rfl) ?_
    refine z_get (c0 := 12) (i0 := 0) (k0 := 27) (T := TX12) (v := .ref (ad 12 0 28)) S hG (hZ.2.1 (12, 0) (by decide)) rfl inlX12 (by decide) rfl zw_239 rfl dX12_breaks_1 ?_
    refine lv_iload_n hx hb dX12_breaks_4 rfl (lv_at hl 1 rfl) ?_
    obtain ⟨i1, hi1, hf⟩ := zbi hf
    refine z_iald (c0 := 12) (i0 := 0) (k0 := 27) S hG (hZ.2.1 (12, 0) (by decide)) (by decide) rfl hi1 dX12_breaks_5 ?_
    by_cases c2 : (zA σ 12 0 27 i1) = 11
    · have hf := zif_p c2 hf
      refine lv_tableIn (x := (zA σ 12 0 27 i1)) (off := 38) (tgt := 44) hx hb dX12_breaks_6 (by rw [c2]; decide) (by rw [c2]; decide) (by rw [c2]; decide) (by decide) ?_
      refine lv_aload_n hx hb dX12_breaks_44 rfl (lv_at hl 0 rfl) ?_
      refine lv_iload_n hx hb dX12_breaks_45 rfl (lv_at hl 2 rfl) ?_
      refine lv_aload_n hx hb dX12_breaks_46 rfl (lv_at hl 0 rfl) ?_
      refine z_get (c0 := 12) (i0 := 0) (k0 := 28) (T := TX12) (v := .ref (ad 12 0 29)) S hG (hZ.2.1 (12, 0) (by decide)) rfl inlX12 (by decide) rfl zw_240 rfl dX12_breaks_47 ?_
      refine lv_iload_n hx hb dX12_breaks_50 rfl (lv_at hl 1 rfl) ?_
      obtain ⟨i3, hi3, hf⟩ := zbi hf
      refine z_iald (c0 := 12) (i0 := 0) (k0 := 28) S hG (hZ.2.1 (12, 0) (by decide)) (by decide) rfl hi3 dX12_breaks_51 ?_
      obtain ⟨r4, er4, hf⟩ := zbi hf
      refine z_callV (n := 2) (rest := []) (st1 := [.int r4]) (c0 := 12) (i0 := 0) (hZ.2.1 (12, 0) (by decide)) (by rfl) S hG hS hZ (fun _ _ h => h) (c_X12_manyOf l D aC zs A nl ad σ x2 (zA σ 12 0 28 i3) r4 er4) zw_895 zw_896 zw_897 zw_5 zw_898 (by decide +kernel) ⟨rfl, rfl⟩ ⟨(Nat.le_of_ble_eq_true rfl), (Nat.le_of_ble_eq_true rfl)⟩ hl.1 rfl (by rfl) (by rfl) (Nat.le_of_ble_eq_true rfl) dX12_breaks_52 ⟨Nat.zero_le _, Nat.zero_le _⟩ (fun H locs hz5 hG hS => ?_)
      refine lv_aload_n hx hb dX12_breaks_55 rfl (lv_at hl 0 rfl) ?_
      refine z_get (c0 := 12) (i0 := 0) (k0 := 29) (T := TX12) (v := .ref (ad 12 0 30)) S hG (hZ.2.1 (12, 0) (by decide)) rfl inlX12 (by decide) rfl zw_241 rfl dX12_breaks_56 ?_
      refine lv_iload_n hx hb dX12_breaks_59 rfl (lv_at hl 1 rfl) ?_
      obtain ⟨i6, hi6, hf⟩ := zbi hf
      refine z_iald (c0 := 12) (i0 := 0) (k0 := 29) S hG (hZ.2.1 (12, 0) (by decide)) (by decide) rfl hi6 dX12_breaks_60 ?_
      refine lv_icmp_lt (tgt := 93) hx hb dX12_breaks_61 (by decide) (fun c7 => ?_) (fun c7 => ?_)
      · have hf := zif_p c7 hf
        exact KJ93 σ H locs ls hG hS (lv_sub hl [0, 1, 2, 3] rfl) hf
      · have hf := zif_n c7 hf
        refine lv_aload_n hx hb dX12_breaks_64 rfl (lv_at hl 0 rfl) ?_
        refine z_get (c0 := 12) (i0 := 0) (k0 := 30) (T := TX12) (v := .ref (ad 12 0 31)) S hG (hZ.2.1 (12, 0) (by decide)) rfl inlX12 (by decide) rfl zw_242 rfl dX12_breaks_65 ?_
        refine lv_iload_n hx hb dX12_breaks_68 rfl (lv_at hl 1 rfl) ?_
        obtain ⟨i8, hi8, hf⟩ := zbi hf
        refine z_iald (c0 := 12) (i0 := 0) (k0 := 30) S hG (hZ.2.1 (12, 0) (by decide)) (by decide) rfl hi8 dX12_breaks_69 ?_
        refine lv_if_le (tgt := 97) hx hb dX12_breaks_70 (by decide) (fun c9 => ?_) (fun c9 => ?_)
        · have hf := zif_p c9 hf
          refine lv_iconst (v := 0) hx hb dX12_breaks_97 (by decide) ?_
          obtain ⟨hq1, hq2⟩ := Prod.mk.inj (Option.some.inj hf)
          subst hq1
          subst hq2
          exact z_zret S hG hS hlocks (Or.inl rfl) hr dX12_breaks_98
        · have hf := zif_n c9 hf
          refine lv_aload_n hx hb dX12_breaks_73 rfl (lv_at hl 0 rfl) ?_
          refine lv_iload_n hx hb dX12_breaks_74 rfl (lv_at hl 2 rfl) ?_
          refine lv_aload_n hx hb dX12_breaks_75 rfl (lv_at hl 0 rfl) ?_
          refine z_get (c0 := 12) (i0 := 0) (k0 := 28) (T := TX12) (v := .ref (ad 12 0 29)) S hG (hZ.2.1 (12, 0) (by decide)) rfl inlX12 (by decide) rfl zw_240 rfl dX12_breaks_76 ?_
          refine lv_iload_n hx hb dX12_breaks_79 rfl (lv_at hl 1 rfl) ?_
          obtain ⟨i10, hi10, hf⟩ := zbi hf
          refine z_iald (c0 := 12) (i0 := 0) (k0 := 28) S hG (hZ.2.1 (12, 0) (by decide)) (by decide) rfl hi10 dX12_breaks_80 ?_
          obtain ⟨r11, er11, hf⟩ := zbi hf
          refine z_callV (n := 2) (rest := []) (st1 := [.int r11]) (c0 := 12) (i0 := 0) (hZ.2.1 (12, 0) (by decide)) (by rfl) S hG hS hZ (fun _ _ h => h) (c_X12_lightOf l D aC zs A nl ad σ x2 (zA σ 12 0 28 i10) r11 er11) zw_906 zw_907 zw_908 zw_5 zw_909 (by decide +kernel) ⟨rfl, rfl⟩ ⟨(Nat.le_of_ble_eq_true rfl), (Nat.le_of_ble_eq_true rfl)⟩ hl.1 rfl (by rfl) (by rfl) (Nat.le_of_ble_eq_true rfl) dX12_breaks_81 ⟨Nat.zero_le _, Nat.zero_le _⟩ (fun H locs hz12 hG hS => ?_)
          refine lv_aload_n hx hb dX12_breaks_84 rfl (lv_at hl 0 rfl) ?_
          refine z_get (c0 := 12) (i0 := 0) (k0 := 30) (T := TX12) (v := .ref (ad 12 0 31)) S hG (hZ.2.1 (12, 0) (by decide)) rfl inlX12 (by decide) rfl zw_242 rfl dX12_breaks_85 ?_
          refine lv_iload_n hx hb dX12_breaks_88 rfl (lv_at hl 1 rfl) ?_
          obtain ⟨i13, hi13, hf⟩ := zbi hf
          refine z_iald (c0 := 12) (i0 := 0) (k0 := 30) S hG (hZ.2.1 (12, 0) (by decide)) (by decide) rfl hi13 dX12_breaks_89 ?_
          refine lv_icmp_ge (tgt := 97) hx hb dX12_breaks_90 (by decide) (fun c14 => ?_) (fun c14 => ?_)
          · have hf := zif_p c14 hf
            refine lv_iconst (v := 0) hx hb dX12_breaks_97 (by decide) ?_
            obtain ⟨hq1, hq2⟩ := Prod.mk.inj (Option.some.inj hf)
            subst hq1
            subst hq2
            exact z_zret S hG hS hlocks (Or.inl rfl) hr dX12_breaks_98
          · have hf := zif_n c14 hf
            exact KJ93 σ H locs ls hG hS (lv_sub hl [0, 1, 2, 3] rfl) hf
    · have hf := zif_n c2 hf
      by_cases c15 : (zA σ 12 0 27 i1) = 12
      · have hf := zif_p c15 hf
        refine lv_tableIn (x := (zA σ 12 0 27 i1)) (off := 93) (tgt := 99) hx hb dX12_breaks_6 (by rw [c15]; decide) (by rw [c15]; decide) (by rw [c15]; decide) (by decide) ?_
        refine lv_aload_n hx hb dX12_breaks_99 rfl (lv_at hl 0 rfl) ?_
        refine lv_iload_n hx hb dX12_breaks_100 rfl (lv_at hl 2 rfl) ?_
        refine lv_aload_n hx hb dX12_breaks_101 rfl (lv_at hl 0 rfl) ?_
        refine z_get (c0 := 12) (i0 := 0) (k0 := 28) (T := TX12) (v := .ref (ad 12 0 29)) S hG (hZ.2.1 (12, 0) (by decide)) rfl inlX12 (by decide) rfl zw_240 rfl dX12_breaks_102 ?_
        refine lv_iload_n hx hb dX12_breaks_105 rfl (lv_at hl 1 rfl) ?_
        obtain ⟨i16, hi16, hf⟩ := zbi hf
        refine z_iald (c0 := 12) (i0 := 0) (k0 := 28) S hG (hZ.2.1 (12, 0) (by decide)) (by decide) rfl hi16 dX12_breaks_106 ?_
        refine lv_aload_n hx hb dX12_breaks_107 rfl (lv_at hl 0 rfl) ?_
        refine z_get (c0 := 12) (i0 := 0) (k0 := 29) (T := TX12) (v := .ref (ad 12 0 30)) S hG (hZ.2.1 (12, 0) (by decide)) rfl inlX12 (by decide) rfl zw_241 rfl dX12_breaks_108 ?_
        refine lv_iload_n hx hb dX12_breaks_111 rfl (lv_at hl 1 rfl) ?_
        obtain ⟨i17, hi17, hf⟩ := zbi hf
        refine z_iald (c0 := 12) (i0 := 0) (k0 := 29) S hG (hZ.2.1 (12, 0) (by decide)) (by decide) rfl hi17 dX12_breaks_112 ?_
        obtain ⟨q18, eq18, hf⟩ := zbi hf
        refine z_callV (n := 3) (rest := []) (st1 := [.int q18.1]) (c0 := 12) (i0 := 0) (hZ.2.1 (12, 0) (by decide)) (by rfl) S hG hS hZ (fun _ _ h => h) (c_X12_stepsOf l D aC zs A nl ad σ x2 (zA σ 12 0 28 i16) (zA σ 12 0 29 i17) q18.1 q18.2 eq18) zw_933 zw_934 zw_935 zw_5 zw_936 (by decide +kernel) ⟨rfl, rfl⟩ ⟨(Nat.le_of_ble_eq_true rfl), (Nat.le_of_ble_eq_true rfl)⟩ hl.1 rfl (by rfl) (by rfl) (Nat.le_of_ble_eq_true rfl) dX12_breaks_113 ⟨Nat.zero_le _, Nat.zero_le _⟩ (fun H locs hz19 hG hS => ?_)
        refine lv_istore (lv' := [(4, .int q18.1), (0, .ref (ad 12 0 0)), (1, .int x1), (2, .int x2), (3, .int x3)]) hx hb dX12_breaks_116 hl (by decide) rfl (fun ls hl => ?_)
        refine lv_iload hx hb dX12_breaks_118 (lv_at hl 0 rfl) ?_
        refine lv_iconst (v := (-1)) hx hb dX12_breaks_120 (by decide) ?_
        refine lv_icmp_eq (tgt := 135) hx hb dX12_breaks_121 (by decide) (fun c20 => ?_) (fun c20 => ?_)
        · have hf := zif_p c20 hf
          exact KJ135 q18.2 H locs ls hG hS (lv_sub hl [1, 2, 3, 4] rfl) hf
        · have hf := zif_n c20 hf
          refine lv_iload hx hb dX12_breaks_124 (lv_at hl 0 rfl) ?_
          refine lv_aload_n hx hb dX12_breaks_126 rfl (lv_at hl 1 rfl) ?_
          refine z_get (c0 := 12) (i0 := 0) (k0 := 30) (T := TX12) (v := .ref (ad 12 0 31)) S hG (hZ.2.1 (12, 0) (by decide)) rfl inlX12 (by decide) rfl zw_242 rfl dX12_breaks_127 ?_
          refine lv_iload_n hx hb dX12_breaks_130 rfl (lv_at hl 2 rfl) ?_
          obtain ⟨i21, hi21, hf⟩ := zbi hf
          refine z_iald (c0 := 12) (i0 := 0) (k0 := 30) S hG (hZ.2.1 (12, 0) (by decide)) (by decide) rfl hi21 dX12_breaks_131 ?_
          refine lv_icmp_le (tgt := 139) hx hb dX12_breaks_132 (by decide) (fun c22 => ?_) (fun c22 => ?_)
          · have hf := zif_p c22 hf
            refine lv_iconst (v := 0) hx hb dX12_breaks_139 (by decide) ?_
            obtain ⟨hq1, hq2⟩ := Prod.mk.inj (Option.some.inj hf)
            subst hq1
            subst hq2
            exact z_zret S hG hS hlocks (Or.inl rfl) hr dX12_breaks_140
          · have hf := zif_n c22 hf
            exact KJ135 q18.2 H locs ls hG hS (lv_sub hl [1, 2, 3, 4] rfl) hf
      · have hf := zif_n c15 hf
        by_cases c23 : (zA σ 12 0 27 i1) = 13
        · have hf := zif_p c23 hf
          refine lv_tableIn (x := (zA σ 12 0 27 i1)) (off := 135) (tgt := 141) hx hb dX12_breaks_6 (by rw [c23]; decide) (by rw [c23]; decide) (by rw [c23]; decide) (by decide) ?_
          refine lv_aload_n hx hb dX12_breaks_141 rfl (lv_at hl 0 rfl) ?_
          refine lv_iload_n hx hb dX12_breaks_142 rfl (lv_at hl 2 rfl) ?_
          refine lv_aload_n hx hb dX12_breaks_143 rfl (lv_at hl 0 rfl) ?_
          refine z_get (c0 := 12) (i0 := 0) (k0 := 28) (T := TX12) (v := .ref (ad 12 0 29)) S hG (hZ.2.1 (12, 0) (by decide)) rfl inlX12 (by decide) rfl zw_240 rfl dX12_breaks_144 ?_
          refine lv_iload_n hx hb dX12_breaks_147 rfl (lv_at hl 1 rfl) ?_
          obtain ⟨i24, hi24, hf⟩ := zbi hf
          refine z_iald (c0 := 12) (i0 := 0) (k0 := 28) S hG (hZ.2.1 (12, 0) (by decide)) (by decide) rfl hi24 dX12_breaks_148 ?_
          refine lv_aload_n hx hb dX12_breaks_149 rfl (lv_at hl 0 rfl) ?_
          refine z_get (c0 := 12) (i0 := 0) (k0 := 29) (T := TX12) (v := .ref (ad 12 0 30)) S hG (hZ.2.1 (12, 0) (by decide)) rfl inlX12 (by decide) rfl zw_241 rfl dX12_breaks_150 ?_
          refine lv_iload_n hx hb dX12_breaks_153 rfl (lv_at hl 1 rfl) ?_
          obtain ⟨i25, hi25, hf⟩ := zbi hf
          refine z_iald (c0 := 12) (i0 := 0) (k0 := 29) S hG (hZ.2.1 (12, 0) (by decide)) (by decide) rfl hi25 dX12_breaks_154 ?_
          obtain ⟨q26, eq26, hf⟩ := zbi hf
          refine z_callV (n := 3) (rest := []) (st1 := [.int q26.1]) (c0 := 12) (i0 := 0) (hZ.2.1 (12, 0) (by decide)) (by rfl) S hG hS hZ (fun _ _ h => h) (c_X12_stepsOf l D aC zs A nl ad σ x2 (zA σ 12 0 28 i24) (zA σ 12 0 29 i25) q26.1 q26.2 eq26) zw_933 zw_934 zw_935 zw_5 zw_936 (by decide +kernel) ⟨rfl, rfl⟩ ⟨(Nat.le_of_ble_eq_true rfl), (Nat.le_of_ble_eq_true rfl)⟩ hl.1 rfl (by rfl) (by rfl) (Nat.le_of_ble_eq_true rfl) dX12_breaks_155 ⟨Nat.zero_le _, Nat.zero_le _⟩ (fun H locs hz27 hG hS => ?_)
          refine lv_istore (lv' := [(4, .int q26.1), (0, .ref (ad 12 0 0)), (1, .int x1), (2, .int x2), (3, .int x3)]) hx hb dX12_breaks_158 hl (by decide) rfl (fun ls hl => ?_)
          refine lv_iload hx hb dX12_breaks_160 (lv_at hl 0 rfl) ?_
          refine lv_iconst (v := (-1)) hx hb dX12_breaks_162 (by decide) ?_
          refine lv_icmp_eq (tgt := 181) hx hb dX12_breaks_163 (by decide) (fun c28 => ?_) (fun c28 => ?_)
          · have hf := zif_p c28 hf
            refine lv_iconst (v := 0) hx hb dX12_breaks_181 (by decide) ?_
            obtain ⟨hq1, hq2⟩ := Prod.mk.inj (Option.some.inj hf)
            subst hq1
            subst hq2
            exact z_zret S hG hS hlocks (Or.inl rfl) hr dX12_breaks_182
          · have hf := zif_n c28 hf
            refine lv_iload hx hb dX12_breaks_166 (lv_at hl 0 rfl) ?_
            refine lv_aload_n hx hb dX12_breaks_168 rfl (lv_at hl 1 rfl) ?_
            refine z_get (c0 := 12) (i0 := 0) (k0 := 30) (T := TX12) (v := .ref (ad 12 0 31)) S hG (hZ.2.1 (12, 0) (by decide)) rfl inlX12 (by decide) rfl zw_242 rfl dX12_breaks_169 ?_
            refine lv_iload_n hx hb dX12_breaks_172 rfl (lv_at hl 2 rfl) ?_
            obtain ⟨i29, hi29, hf⟩ := zbi hf
            refine z_iald (c0 := 12) (i0 := 0) (k0 := 30) S hG (hZ.2.1 (12, 0) (by decide)) (by decide) rfl hi29 dX12_breaks_173 ?_
            refine lv_icmp_ge (tgt := 181) hx hb dX12_breaks_174 (by decide) (fun c30 => ?_) (fun c30 => ?_)
            · have hf := zif_p c30 hf
              refine lv_iconst (v := 0) hx hb dX12_breaks_181 (by decide) ?_
              obtain ⟨hq1, hq2⟩ := Prod.mk.inj (Option.some.inj hf)
              subst hq1
              subst hq2
              exact z_zret S hG hS hlocks (Or.inl rfl) hr dX12_breaks_182
            · have hf := zif_n c30 hf
              refine lv_iconst (v := 1) hx hb dX12_breaks_177 (by decide) ?_
              refine lv_goto (tgt := 182) hx hb dX12_breaks_178 (by decide) ?_
              obtain ⟨hq1, hq2⟩ := Prod.mk.inj (Option.some.inj hf)
              subst hq1
              subst hq2
              exact z_zret S hG hS hlocks (Or.inr rfl) hr dX12_breaks_182
        · have hf := zif_n c23 hf
          by_cases c31 : (zA σ 12 0 27 i1) = 15
          · have hf := zif_p c31 hf
            refine lv_tableIn (x := (zA σ 12 0 27 i1)) (off := 177) (tgt := 183) hx hb dX12_breaks_6 (by rw [c31]; decide) (by rw [c31]; decide) (by rw [c31]; decide) (by decide) ?_
            refine lv_aload_n hx hb dX12_breaks_183 rfl (lv_at hl 0 rfl) ?_
            refine lv_iload_n hx hb dX12_breaks_184 rfl (lv_at hl 2 rfl) ?_
            refine lv_iload_n hx hb dX12_breaks_185 rfl (lv_at hl 3 rfl) ?_
            obtain ⟨r32, er32, hf⟩ := zbi hf
            refine z_callV (n := 2) (rest := []) (st1 := [.int r32]) (c0 := 12) (i0 := 0) (hZ.2.1 (12, 0) (by decide)) (by rfl) S hG hS hZ (fun _ _ h => h) (c_X12_costBy l D aC zs A nl ad σ x2 x3 r32 er32) zw_962 zw_963 zw_964 zw_5 zw_965 (by decide +kernel) ⟨rfl, rfl⟩ ⟨(Nat.le_of_ble_eq_true rfl), (Nat.le_of_ble_eq_true rfl)⟩ hl.1 rfl (by rfl) (by rfl) (Nat.le_of_ble_eq_true rfl) dX12_breaks_186 ⟨Nat.zero_le _, Nat.zero_le _⟩ (fun H locs hz33 hG hS => ?_)
            refine lv_aload_n hx hb dX12_breaks_189 rfl (lv_at hl 0 rfl) ?_
            refine z_get (c0 := 12) (i0 := 0) (k0 := 28) (T := TX12) (v := .ref (ad 12 0 29)) S hG (hZ.2.1 (12, 0) (by decide)) rfl inlX12 (by decide) rfl zw_240 rfl dX12_breaks_190 ?_
            refine lv_iload_n hx hb dX12_breaks_193 rfl (lv_at hl 1 rfl) ?_
            obtain ⟨i34, hi34, hf⟩ := zbi hf
            refine z_iald (c0 := 12) (i0 := 0) (k0 := 28) S hG (hZ.2.1 (12, 0) (by decide)) (by decide) rfl hi34 dX12_breaks_194 ?_
            refine lv_icmp_le (tgt := 202) hx hb dX12_breaks_195 (by decide) (fun c35 => ?_) (fun c35 => ?_)
            · have hf := zif_p c35 hf
              refine lv_iconst (v := 0) hx hb dX12_breaks_202 (by decide) ?_
              obtain ⟨hq1, hq2⟩ := Prod.mk.inj (Option.some.inj hf)
              subst hq1
              subst hq2
              exact z_zret S hG hS hlocks (Or.inl rfl) hr dX12_breaks_203
            · have hf := zif_n c35 hf
              refine lv_iconst (v := 1) hx hb dX12_breaks_198 (by decide) ?_
              refine lv_goto (tgt := 203) hx hb dX12_breaks_199 (by decide) ?_
              obtain ⟨hq1, hq2⟩ := Prod.mk.inj (Option.some.inj hf)
              subst hq1
              subst hq2
              exact z_zret S hG hS hlocks (Or.inr rfl) hr dX12_breaks_203
          · have hf := zif_n c31 hf
            by_cases c36 : (zA σ 12 0 27 i1) = 16
            · have hf := zif_p c36 hf
              refine lv_tableIn (x := (zA σ 12 0 27 i1)) (off := 198) (tgt := 204) hx hb dX12_breaks_6 (by rw [c36]; decide) (by rw [c36]; decide) (by rw [c36]; decide) (by decide) ?_
              refine lv_aload_n hx hb dX12_breaks_204 rfl (lv_at hl 0 rfl) ?_
              refine lv_aload_n hx hb dX12_breaks_205 rfl (lv_at hl 0 rfl) ?_
              refine z_get (c0 := 12) (i0 := 0) (k0 := 28) (T := TX12) (v := .ref (ad 12 0 29)) S hG (hZ.2.1 (12, 0) (by decide)) rfl inlX12 (by decide) rfl zw_240 rfl dX12_breaks_206 ?_
              refine lv_iload_n hx hb dX12_breaks_209 rfl (lv_at hl 1 rfl) ?_
              obtain ⟨i37, hi37, hf⟩ := zbi hf
              refine z_iald (c0 := 12) (i0 := 0) (k0 := 28) S hG (hZ.2.1 (12, 0) (by decide)) (by decide) rfl hi37 dX12_breaks_210 ?_
              refine lv_iload_n hx hb dX12_breaks_211 rfl (lv_at hl 2 rfl) ?_
              refine lv_iload_n hx hb dX12_breaks_212 rfl (lv_at hl 3 rfl) ?_
              obtain ⟨r38, er38, hf⟩ := zbi hf
              refine z_callV (n := 3) (rest := []) (st1 := [.int r38]) (c0 := 12) (i0 := 0) (hZ.2.1 (12, 0) (by decide)) (by rfl) S hG hS hZ (fun _ _ h => h) (c_X12_holds l D aC zs A nl ad σ (zA σ 12 0 28 i37) x2 x3 r38 er38) zw_1052 zw_1053 zw_1054 zw_5 zw_1055 (by decide +kernel) ⟨rfl, rfl⟩ ⟨(Nat.le_of_ble_eq_true rfl), (Nat.le_of_ble_eq_true rfl)⟩ hl.1 rfl (by rfl) (by rfl) (Nat.le_of_ble_eq_true rfl) dX12_breaks_213 ⟨Nat.zero_le _, Nat.zero_le _⟩ (fun H locs hz39 hG hS => ?_)
              obtain ⟨hq1, hq2⟩ := Prod.mk.inj (Option.some.inj hf)
              subst hq1
              subst hq2
              exact z_zret S hG hS hlocks hz39 hr dX12_breaks_216
            · have hf := zif_n c36 hf
              by_cases c40 : (zA σ 12 0 27 i1) = 14
              · refine lv_tableIn (x := (zA σ 12 0 27 i1)) (off := 211) (tgt := 217) hx hb dX12_breaks_6 (by rw [c40]; decide) (by rw [c40]; decide) (by rw [c40]; decide) (by decide) ?_
                refine lv_iconst (v := 0) hx hb dX12_breaks_217 (by decide) ?_
                obtain ⟨hq1, hq2⟩ := Prod.mk.inj (Option.some.inj hf)
                subst hq1
                subst hq2
                exact z_zret S hG hS hlocks (Or.inl rfl) hr dX12_breaks_218
              · have hout : (zA σ 12 0 27 i1).toInt < 11 ∨ 16 < (zA σ 12 0 27 i1).toInt := by
                  rcases (show (zA σ 12 0 27 i1).toInt < 11 ∨ 16 < (zA σ 12 0 27 i1).toInt ∨ (zA σ 12 0 27 i1).toInt = 11 ∨ (zA σ 12 0 27 i1).toInt = 12 ∨ (zA σ 12 0 27 i1).toInt = 13 ∨ (zA σ 12 0 27 i1).toInt = 14 ∨ (zA σ 12 0 27 i1).toInt = 15 ∨ (zA σ 12 0 27 i1).toInt = 16 by omega) with h | h | h | h | h | h | h | h
                  · exact Or.inl h
                  · exact Or.inr h
                  · exact absurd (Int32.toInt_inj.mp (h.trans (by decide : (11 : Int) = (11 : Int32).toInt))) c2
                  · exact absurd (Int32.toInt_inj.mp (h.trans (by decide : (12 : Int) = (12 : Int32).toInt))) c15
                  · exact absurd (Int32.toInt_inj.mp (h.trans (by decide : (13 : Int) = (13 : Int32).toInt))) c23
                  · exact absurd (Int32.toInt_inj.mp (h.trans (by decide : (14 : Int) = (14 : Int32).toInt))) c40
                  · exact absurd (Int32.toInt_inj.mp (h.trans (by decide : (15 : Int) = (15 : Int32).toInt))) c31
                  · exact absurd (Int32.toInt_inj.mp (h.trans (by decide : (16 : Int) = (16 : Int32).toInt))) c36
                refine lv_tableOut (x := (zA σ 12 0 27 i1)) (tgt := 217) hx hb dX12_breaks_6 hout (by decide) ?_
                refine lv_iconst (v := 0) hx hb dX12_breaks_217 (by decide) ?_
                obtain ⟨hq1, hq2⟩ := Prod.mk.inj (Option.some.inj hf)
                subst hq1
                subst hq2
                exact z_zret S hG hS hlocks (Or.inl rfl) hr dX12_breaks_218
  exact hK0 _ _ ls hG hS hl hf
set_option maxRecDepth 100000 in
set_option maxHeartbeats 4000000 in
theorem c_X12_whyOf (l : Launch) (D : va_G) (aC : Nat → ClassId) (zs : Nat × Nat) (A : Nat → Prop) (nl : zNL) (ad : Nat → Nat → Nat → Nat) (σ : zM) (x1 : Int32) (r : Int32) (σ' : zM)  (hf : f_X12_whyOf σ x1 = some (r, σ')) : Met l yX12_whyOf (Cond.code yX12_whyOf cX12_whyOf 4 (some .int) :: wsL_law) ({ frames := 67, cells := 0, slots := 0, locals := 1611 } : Room) (zP D aC zs zfM A nl ad σ [.ref (ad 12 0 0), .int x1]) (zQ (some (.int r)) (fun t => zG D aC A nl ad σ' t t.heap ∧ True) A) 0 0 A := by
  refine Met.ofW (cc := cX12_whyOf) (maxL := 4) (ret := (some .int)) (by decide) rfl ?_
  intro p e s m args below meth c s₁ B hml hv
  obtain ⟨rfl, hG, hZ⟩ := hv
  have hx := B.exec
  have hb := B.bytes
  have hr := B.returns
  have hts : ∀ w ∈ wsL_law, w.before ([.ref (ad 12 0 0), .int x1] : List Value).toArray s = true := fun w h => (atoms_spec B.pre) w (List.mem_cons_of_mem _ h)
  have hown : s.vm.findClass RX12 = some m.cls := findClass_of_methodNamed B.named
  have hlocks := B.notSynchronized
  have S : zS p m c cX12_whyOf 4 s ([.ref (ad 12 0 0), .int x1] : List Value).toArray RX12 := ⟨hx, hb, hml, hown, hts⟩
  have hS : va_S A s.heap s.heap [] := va_S.rf
  have hl := lv_entry ([.ref (ad 12 0 0), .int x1]) (n := 4) (Nat.le_of_ble_eq_true rfl)
  rw [lg_entry_eq]
  generalize (lg_sl ([.ref (ad 12 0 0), .int x1]) ++ List.replicate (4 - (lg_sl ([.ref (ad 12 0 0), .int x1])).length) Slot.unset).toArray = ls at hl ⊢
  have hl : lv_has ls 4 [(0, .ref (ad 12 0 0)), (1, .int x1)] := hl
  generalize hargs : ([.ref (ad 12 0 0), .int x1] : List Value).toArray = args at S hts ⊢
  clear hargs
  have KJ41 : ∀ (y3b41 : Int32)  (σb41 : zM) (H : Heap) (locs : List Loc) (ls : Array Slot), zG D aC A nl ad σb41 s H → va_S A s.heap H locs → lv_has ls 4 [(0, .ref (ad 12 0 0)), (1, .int x1), (3, .int y3b41)] → (f_X12_whyOf_B41 σb41 x1 y3b41) = some (r, σ') → zWk p l e ({ frames := 67, cells := 0, slots := 0, locals := 1611 } : Room) s m args below meth c A (some (.int r)) (fun t => zG D aC A nl ad σ' t t.heap ∧ True) H locs (F0 m 41 ls []) := by
    intro y3b41  σb41 H locs ls hG hS hl hf
    unfold f_X12_whyOf_B41 at hf
    refine lv_iload_n hx hb dX12_whyOf_41 rfl (lv_at hl 2 rfl) ?_
    refine lv_bipush (v := 40) hx hb dX12_whyOf_42 (by decide) ?_
    refine z_irem (v := (zrem y3b41 40)) hx hb dX12_whyOf_44 (by decide) rfl ?_
    obtain ⟨hq1, hq2⟩ := Prod.mk.inj (Option.some.inj hf)
    subst hq1
    subst hq2
    exact z_iret S hG hS hlocks trivial hr dX12_whyOf_45
  have hK0 : ∀ (H : Heap) (locs : List Loc) (ls : Array Slot), zG D aC A nl ad σ s H → va_S A s.heap H locs → lv_has ls 4 [(0, .ref (ad 12 0 0)), (1, .int x1)] → f_X12_whyOf σ x1 = some (r, σ') → zWk p l e ({ frames := 67, cells := 0, slots := 0, locals := 1611 } : Room) s m args below meth c A (some (.int r)) (fun t => zG D aC A nl ad σ' t t.heap ∧ True) H locs (F0 m 0 ls []) := by
    intro H locs ls hG hS hl hf
    unfold f_X12_whyOf at hf
    refine lv_aload_n hx hb dX12_whyOf_0 rfl (lv_at hl 0 rfl) ?_
    refine lv_iload_n hx hb dX12_whyOf_1 rfl (lv_at hl 1 rfl) ?_
    obtain ⟨r1, er1, hf⟩ := zbi hf
    refine z_callV (n := 1) (rest := []) (st1 := [.int r1]) (c0 := 12) (i0 := 0) (hZ.2.1 (12, 0) (by decide)) (by rfl) S hG hS hZ (fun _ _ h => h) (c_X12_briefOf l D aC zs A nl ad σ x1 r1 er1) zw_1044 zw_1045 zw_1046 zw_5 zw_1047 (by decide +kernel) ⟨rfl, rfl⟩ ⟨(Nat.le_of_ble_eq_true rfl), (Nat.le_of_ble_eq_true rfl)⟩ hl.1 rfl (by rfl) (by rfl) (Nat.le_of_ble_eq_true rfl) dX12_whyOf_2 ⟨Nat.zero_le _, Nat.zero_le _⟩ (fun H locs hz2 hG hS => ?_)
    refine lv_istore_n (lv' := [(2, .int r1), (0, .ref (ad 12 0 0)), (1, .int x1)]) hx hb dX12_whyOf_5 rfl hl (by decide) rfl (fun ls hl => ?_)
    refine lv_bipush (v := 40) hx hb dX12_whyOf_6 (by decide) ?_
    refine lv_iload_n hx hb dX12_whyOf_8 rfl (lv_at hl 0 rfl) ?_
    refine lv_imul hx hb dX12_whyOf_9 ?_
    refine lv_istore_n (lv' := [(3, .int (40 * r1)), (2, .int r1), (0, .ref (ad 12 0 0)), (1, .int x1)]) hx hb dX12_whyOf_10 rfl hl (by decide) rfl (fun ls hl => ?_)
    obtain ⟨t11, hw11, hfo11⟩ := zbi hf
    have KL11 : ∀ (n : Nat) (y3l11 : Int32) (σl11 : zM) (H : Heap) (locs : List Loc) (ls : Array Slot), zG D aC A nl ad σl11 s H → va_S A s.heap H locs → lv_has ls 4 [(0, .ref (ad 12 0 0)), (1, .int x1), (2, .int r1), (3, .int y3l11)] → zwh (fun (q : (Int32 × zM)) => f_X12_whyOf_L11 x1 r1 q.1 q.2) n (y3l11, σl11) = some t11 → zWk p l e ({ frames := 67, cells := 0, slots := 0, locals := 1611 } : Room) s m args below meth c A (some (.int r)) (fun t => zG D aC A nl ad σ' t t.heap ∧ True) H locs (F0 m 11 ls []) := by
      intro n
      induction n with
      | zero =>
        intro y3l11 σl11 H locs ls hG hS hl hw
        exact (zwh_0 hw).elim
      | succ n ih11 =>
        intro y3l11 σl11 H locs ls hG hS hl hw
        obtain ⟨rr11, hf, hk11⟩ := zwh_u hw
        have hf : f_X12_whyOf_L11 x1 r1 y3l11 σl11 = some rr11 := hf
        unfold f_X12_whyOf_L11 at hf
        refine lv_iload_n hx hb dX12_whyOf_11 rfl (lv_at hl 2 rfl) ?_
        refine lv_iconst (v := (-1)) hx hb dX12_whyOf_12 (by decide) ?_
        refine lv_icmp_eq (tgt := 52) hx hb dX12_whyOf_13 (by decide) (fun c9 => ?_) (fun c9 => ?_)
        · have hf := zif_p c9 hf
          cases hf
          have hk11 : ((.inr σl11) : ((Int32 × zM) ⊕ zM)) = t11 := hk11
          have hf := hfo11
          rw [← hk11] at hf
          have hf : (some ((-1), σl11)) = some (r, σ') := hf
          refine lv_iconst (v := (-1)) hx hb dX12_whyOf_52 (by decide) ?_
          obtain ⟨hq1, hq2⟩ := Prod.mk.inj (Option.some.inj hf)
          subst hq1
          subst hq2
          exact z_iret S hG hS hlocks trivial hr dX12_whyOf_53
        · have hf := zif_n c9 hf
          refine lv_iload_n hx hb dX12_whyOf_16 rfl (lv_at hl 3 rfl) ?_
          refine lv_bipush (v := 40) hx hb dX12_whyOf_17 (by decide) ?_
          refine lv_iload_n hx hb dX12_whyOf_19 rfl (lv_at hl 2 rfl) ?_
          refine lv_imul hx hb dX12_whyOf_20 ?_
          refine lv_aload_n hx hb dX12_whyOf_21 rfl (lv_at hl 0 rfl) ?_
          refine z_get (c0 := 12) (i0 := 0) (k0 := 25) (T := TX12) (v := .ref (ad 12 0 26)) S hG (hZ.2.1 (12, 0) (by decide)) rfl inlX12 (by decide) rfl zw_237 rfl dX12_whyOf_22 ?_
          refine lv_iload_n hx hb dX12_whyOf_25 rfl (lv_at hl 2 rfl) ?_
          obtain ⟨i10, hi10, hf⟩ := zbi hf
          refine z_iald (c0 := 12) (i0 := 0) (k0 := 25) S hG (hZ.2.1 (12, 0) (by decide)) (by decide) rfl hi10 dX12_whyOf_26 ?_
          refine lv_iadd hx hb dX12_whyOf_27 ?_
          refine lv_icmp_ge (tgt := 52) hx hb dX12_whyOf_28 (by decide) (fun c11 => ?_) (fun c11 => ?_)
          · have hf := zif_p c11 hf
            cases hf
            have hk11 : ((.inr σl11) : ((Int32 × zM) ⊕ zM)) = t11 := hk11
            have hf := hfo11
            rw [← hk11] at hf
            have hf : (some ((-1), σl11)) = some (r, σ') := hf
            refine lv_iconst (v := (-1)) hx hb dX12_whyOf_52 (by decide) ?_
            obtain ⟨hq1, hq2⟩ := Prod.mk.inj (Option.some.inj hf)
            subst hq1
            subst hq2
            exact z_iret S hG hS hlocks trivial hr dX12_whyOf_53
          · have hf := zif_n c11 hf
            refine lv_aload_n hx hb dX12_whyOf_31 rfl (lv_at hl 0 rfl) ?_
            refine lv_iload_n hx hb dX12_whyOf_32 rfl (lv_at hl 3 rfl) ?_
            refine lv_iload_n hx hb dX12_whyOf_33 rfl (lv_at hl 1 rfl) ?_
            refine lv_iload_n hx hb dX12_whyOf_34 rfl (lv_at hl 2 rfl) ?_
            obtain ⟨q12, eq12, hf⟩ := zbi hf
            refine z_callV (n := 3) (rest := []) (st1 := [.int q12.1]) (c0 := 12) (i0 := 0) (hZ.2.1 (12, 0) (by decide)) (by rfl) S hG hS hZ (fun _ _ h => h) (c_X12_breaks l D aC zs A nl ad σl11 y3l11 x1 r1 q12.1 q12.2 eq12) zw_1048 zw_1049 zw_1050 zw_5 zw_1051 (by decide +kernel) ⟨rfl, rfl⟩ ⟨(Nat.le_of_ble_eq_true rfl), (Nat.le_of_ble_eq_true rfl)⟩ hl.1 rfl (by rfl) (by rfl) (Nat.le_of_ble_eq_true rfl) dX12_whyOf_35 ⟨Nat.zero_le _, Nat.zero_le _⟩ (fun H locs hz13 hG hS => ?_)
            refine lv_if_eq (tgt := 46) hx hb dX12_whyOf_38 (by decide) (fun c14 => ?_) (fun c14 => ?_)
            · have hf := zif_p c14 hf
              refine lv_iinc (v := (y3l11 + 1)) (lv' := [(3, .int (y3l11 + 1)), (0, .ref (ad 12 0 0)), (1, .int x1), (2, .int r1)]) hx hb dX12_whyOf_46 hl (k := 3) rfl rfl (by decide) rfl (fun ls hl => ?_)
              refine lv_goto (tgt := 11) hx hb dX12_whyOf_49 (by decide) ?_
              cases hf
              exact ih11 (y3l11 + 1) q12.2 H locs ls hG hS (lv_sub hl [1, 2, 3, 0] rfl) hk11
            · have hf := zif_n c14 hf
              cases hf
              have hk11 : ((.inl (y3l11, q12.2)) : ((Int32 × zM) ⊕ zM)) = t11 := hk11
              have hf := hfo11
              rw [← hk11] at hf
              have hf : (f_X12_whyOf_B41 q12.2 x1 y3l11) = some (r, σ') := hf
              exact KJ41 y3l11 q12.2 H locs ls hG hS (lv_sub hl [0, 1, 3] rfl) hf
    exact KL11 zFu (40 * r1) σ H locs ls hG hS (lv_sub hl [2, 3, 1, 0] rfl) hw11
  exact hK0 _ _ ls hG hS hl hf
set_option maxRecDepth 100000 in
set_option maxHeartbeats 4000000 in
theorem c_X12_why (l : Launch) (D : va_G) (aC : Nat → ClassId) (zs : Nat × Nat) (A : Nat → Prop) (nl : zNL) (ad : Nat → Nat → Nat → Nat) (σ : zM) (x1 : Int32) (r : Int32) (σ' : zM)  (hf : f_X12_why σ x1 = some (r, σ')) : Met l yX12_why (Cond.code yX12_why cX12_why 2 (some .int) :: wsL_law) ({ frames := 68, cells := 0, slots := 0, locals := 1634 } : Room) (zP D aC zs zfM A nl ad σ [.ref (ad 12 0 0), .int x1]) (zQ (some (.int r)) (fun t => zG D aC A nl ad σ' t t.heap ∧ True) A) 0 0 A := by
  refine Met.ofW (cc := cX12_why) (maxL := 2) (ret := (some .int)) (by decide) rfl ?_
  intro p e s m args below meth c s₁ B hml hv
  obtain ⟨rfl, hG, hZ⟩ := hv
  have hx := B.exec
  have hb := B.bytes
  have hr := B.returns
  have hts : ∀ w ∈ wsL_law, w.before ([.ref (ad 12 0 0), .int x1] : List Value).toArray s = true := fun w h => (atoms_spec B.pre) w (List.mem_cons_of_mem _ h)
  have hown : s.vm.findClass RX12 = some m.cls := findClass_of_methodNamed B.named
  have hlocks := B.notSynchronized
  have S : zS p m c cX12_why 2 s ([.ref (ad 12 0 0), .int x1] : List Value).toArray RX12 := ⟨hx, hb, hml, hown, hts⟩
  have hS : va_S A s.heap s.heap [] := va_S.rf
  have hl := lv_entry ([.ref (ad 12 0 0), .int x1]) (n := 2) (Nat.le_of_ble_eq_true rfl)
  rw [lg_entry_eq]
  generalize (lg_sl ([.ref (ad 12 0 0), .int x1]) ++ List.replicate (2 - (lg_sl ([.ref (ad 12 0 0), .int x1])).length) Slot.unset).toArray = ls at hl ⊢
  have hl : lv_has ls 2 [(0, .ref (ad 12 0 0)), (1, .int x1)] := hl
  generalize hargs : ([.ref (ad 12 0 0), .int x1] : List Value).toArray = args at S hts ⊢
  clear hargs
  have hK0 : ∀ (H : Heap) (locs : List Loc) (ls : Array Slot), zG D aC A nl ad σ s H → va_S A s.heap H locs → lv_has ls 2 [(0, .ref (ad 12 0 0)), (1, .int x1)] → f_X12_why σ x1 = some (r, σ') → zWk p l e ({ frames := 68, cells := 0, slots := 0, locals := 1634 } : Room) s m args below meth c A (some (.int r)) (fun t => zG D aC A nl ad σ' t t.heap ∧ True) H locs (F0 m 0 ls []) := by
    intro H locs ls hG hS hl hf
    unfold f_X12_why at hf
    refine lv_aload_n hx hb dX12_why_0 rfl (lv_at hl 0 rfl) ?_
    refine lv_iload_n hx hb dX12_why_1 rfl (lv_at hl 1 rfl) ?_
    refine z_callV (n := 1) (rest := []) (st1 := [.int (f_X12_isScheme σ x1)]) (c0 := 12) (i0 := 0) (hZ.2.1 (12, 0) (by decide)) (by rfl) S hG hS hZ (fun _ _ h => h) (c_X12_isScheme l D aC zs A nl ad σ x1 (f_X12_isScheme σ x1) rfl) zw_837 zw_838 zw_839 zw_5 zw_840 (by decide +kernel) ⟨rfl, rfl⟩ ⟨(Nat.le_of_ble_eq_true rfl), (Nat.le_of_ble_eq_true rfl)⟩ hl.1 rfl (by rfl) (by rfl) (Nat.le_of_ble_eq_true rfl) dX12_why_2 ⟨Nat.zero_le _, Nat.zero_le _⟩ (fun H locs hz1 hG hS => ?_)
    refine lv_if_eq (tgt := 16) hx hb dX12_why_5 (by decide) (fun c2 => ?_) (fun c2 => ?_)
    · have hf := zif_p c2 hf
      refine lv_bipush (v := (-2)) hx hb dX12_why_16 (by decide) ?_
      obtain ⟨hq1, hq2⟩ := Prod.mk.inj (Option.some.inj hf)
      subst hq1
      subst hq2
      exact z_iret S hG hS hlocks trivial hr dX12_why_18
    · have hf := zif_n c2 hf
      refine lv_aload_n hx hb dX12_why_8 rfl (lv_at hl 0 rfl) ?_
      refine lv_iload_n hx hb dX12_why_9 rfl (lv_at hl 1 rfl) ?_
      obtain ⟨q3, eq3, hf⟩ := zbi hf
      refine z_callV (n := 1) (rest := []) (st1 := [.int q3.1]) (c0 := 12) (i0 := 0) (hZ.2.1 (12, 0) (by decide)) (by rfl) S hG hS hZ (fun _ _ h => h) (c_X12_whyOf l D aC zs A nl ad σ x1 q3.1 q3.2 eq3) zw_1040 zw_1041 zw_1042 zw_5 zw_1043 (by decide +kernel) ⟨rfl, rfl⟩ ⟨(Nat.le_of_ble_eq_true rfl), (Nat.le_of_ble_eq_true rfl)⟩ hl.1 rfl (by rfl) (by rfl) (Nat.le_of_ble_eq_true rfl) dX12_why_10 ⟨Nat.zero_le _, Nat.zero_le _⟩ (fun H locs hz4 hG hS => ?_)
      refine lv_goto (tgt := 18) hx hb dX12_why_13 (by decide) ?_
      obtain ⟨hq1, hq2⟩ := Prod.mk.inj (Option.some.inj hf)
      subst hq1
      subst hq2
      exact z_iret S hG hS hlocks trivial hr dX12_why_18
  exact hK0 _ _ ls hG hS hl hf
set_option maxRecDepth 100000 in
set_option maxHeartbeats 4000000 in
theorem c_X12_mends (l : Launch) (D : va_G) (aC : Nat → ClassId) (zs : Nat × Nat) (A : Nat → Prop) (nl : zNL) (ad : Nat → Nat → Nat → Nat) (σ : zM) (x1 : Int32)  (σ' : zM)  (hf : f_X12_mends σ x1 = some σ') : Met l yX12_mends (Cond.code yX12_mends cX12_mends 5 none :: wsL_law) ({ frames := 68, cells := 0, slots := 0, locals := 1634 } : Room) (zP D aC zs zfM A nl ad σ [.ref (ad 12 0 0), .int x1]) (zQ none (fun t => zG D aC A nl ad σ' t t.heap ∧ True) A) 0 0 A := by
  refine Met.ofW (cc := cX12_mends) (maxL := 5) (ret := none) (by decide) rfl ?_
  intro p e s m args below meth c s₁ B hml hv
  obtain ⟨rfl, hG, hZ⟩ := hv
  have hx := B.exec
  have hb := B.bytes
  have hr := B.returns
  have hts : ∀ w ∈ wsL_law, w.before ([.ref (ad 12 0 0), .int x1] : List Value).toArray s = true := fun w h => (atoms_spec B.pre) w (List.mem_cons_of_mem _ h)
  have hown : s.vm.findClass RX12 = some m.cls := findClass_of_methodNamed B.named
  have hlocks := B.notSynchronized
  have S : zS p m c cX12_mends 5 s ([.ref (ad 12 0 0), .int x1] : List Value).toArray RX12 := ⟨hx, hb, hml, hown, hts⟩
  have hS : va_S A s.heap s.heap [] := va_S.rf
  have hl := lv_entry ([.ref (ad 12 0 0), .int x1]) (n := 5) (Nat.le_of_ble_eq_true rfl)
  rw [lg_entry_eq]
  generalize (lg_sl ([.ref (ad 12 0 0), .int x1]) ++ List.replicate (5 - (lg_sl ([.ref (ad 12 0 0), .int x1])).length) Slot.unset).toArray = ls at hl ⊢
  have hl : lv_has ls 5 [(0, .ref (ad 12 0 0)), (1, .int x1)] := hl
  generalize hargs : ([.ref (ad 12 0 0), .int x1] : List Value).toArray = args at S hts ⊢
  clear hargs
  have hK0 : ∀ (H : Heap) (locs : List Loc) (ls : Array Slot), zG D aC A nl ad σ s H → va_S A s.heap H locs → lv_has ls 5 [(0, .ref (ad 12 0 0)), (1, .int x1)] → f_X12_mends σ x1 = some σ' → zWk p l e ({ frames := 68, cells := 0, slots := 0, locals := 1634 } : Room) s m args below meth c A none (fun t => zG D aC A nl ad σ' t t.heap ∧ True) H locs (F0 m 0 ls []) := by
    intro H locs ls hG hS hl hf
    unfold f_X12_mends at hf
    refine lv_aload_n hx hb dX12_mends_0 rfl (lv_at hl 0 rfl) ?_
    refine z_get (c0 := 12) (i0 := 0) (k0 := 10) (T := TX12) (v := .ref (ad 12 0 11)) S hG (hZ.2.1 (12, 0) (by decide)) rfl inlX12 (by decide) rfl zw_231 rfl dX12_mends_1 ?_
    refine lv_iload_n hx hb dX12_mends_4 rfl (lv_at hl 1 rfl) ?_
    obtain ⟨i1, hi1, hf⟩ := zbi hf
    refine z_iald (c0 := 12) (i0 := 0) (k0 := 10) S hG (hZ.2.1 (12, 0) (by decide)) (by decide) rfl hi1 dX12_mends_5 ?_
    refine lv_aload_n hx hb dX12_mends_6 rfl (lv_at hl 0 rfl) ?_
    refine z_get (c0 := 12) (i0 := 0) (k0 := 2) (T := TX12) (v := .int (zI σ 12 0 2)) S hG (hZ.2.1 (12, 0) (by decide)) rfl inlX12 (by decide) rfl zw_224 rfl dX12_mends_7 ?_
    refine lv_icmp_ne (tgt := 14) hx hb dX12_mends_10 (by decide) (fun c2 => ?_) (fun c2 => ?_)
    · have hf := zif_n c2 hf
      refine lv_aload_n hx hb dX12_mends_14 rfl (lv_at hl 0 rfl) ?_
      refine z_get (c0 := 12) (i0 := 0) (k0 := 10) (T := TX12) (v := .ref (ad 12 0 11)) S hG (hZ.2.1 (12, 0) (by decide)) rfl inlX12 (by decide) rfl zw_231 rfl dX12_mends_15 ?_
      refine lv_iload_n hx hb dX12_mends_18 rfl (lv_at hl 1 rfl) ?_
      refine lv_aload_n hx hb dX12_mends_19 rfl (lv_at hl 0 rfl) ?_
      refine z_get (c0 := 12) (i0 := 0) (k0 := 2) (T := TX12) (v := .int (zI σ 12 0 2)) S hG (hZ.2.1 (12, 0) (by decide)) rfl inlX12 (by decide) rfl zw_224 rfl dX12_mends_20 ?_
      obtain ⟨i3, hi3, hf⟩ := zbi hf
      refine z_iast (c0 := 12) (i0 := 0) (k0 := 10) S hG hS (hZ.2.1 (12, 0) (by decide)) (by decide) rfl hi3 dX12_mends_23 (fun H locs hG hS => ?_)
      obtain ⟨σ4, eσ4, hf⟩ := zlt_s hf
      rw [← eσ4] at hG
      refine lv_aload_n hx hb dX12_mends_24 rfl (lv_at hl 0 rfl) ?_
      refine z_get (c0 := 12) (i0 := 0) (k0 := 11) (T := TX12) (v := .ref (ad 12 0 12)) S hG (hZ.2.1 (12, 0) (by decide)) rfl inlX12 (by decide) rfl zw_232 rfl dX12_mends_25 ?_
      refine lv_iload_n hx hb dX12_mends_28 rfl (lv_at hl 1 rfl) ?_
      refine lv_iconst (v := 0) hx hb dX12_mends_29 (by decide) ?_
      obtain ⟨i5, hi5, hf⟩ := zbi hf
      refine z_iast (c0 := 12) (i0 := 0) (k0 := 11) S hG hS (hZ.2.1 (12, 0) (by decide)) (by decide) rfl hi5 dX12_mends_30 (fun H locs hG hS => ?_)
      obtain ⟨σ6, eσ6, hf⟩ := zlt_s hf
      rw [← eσ6] at hG
      refine lv_aload_n hx hb dX12_mends_31 rfl (lv_at hl 0 rfl) ?_
      refine z_get (c0 := 12) (i0 := 0) (k0 := 12) (T := TX12) (v := .ref (ad 12 0 13)) S hG (hZ.2.1 (12, 0) (by decide)) rfl inlX12 (by decide) rfl zw_233 rfl dX12_mends_32 ?_
      refine lv_iload_n hx hb dX12_mends_35 rfl (lv_at hl 1 rfl) ?_
      refine lv_iconst (v := (-1)) hx hb dX12_mends_36 (by decide) ?_
      obtain ⟨i7, hi7, hf⟩ := zbi hf
      refine z_iast (c0 := 12) (i0 := 0) (k0 := 12) S hG hS (hZ.2.1 (12, 0) (by decide)) (by decide) rfl hi7 dX12_mends_37 (fun H locs hG hS => ?_)
      obtain ⟨σ8, eσ8, hf⟩ := zlt_s hf
      rw [← eσ8] at hG
      refine lv_aload_n hx hb dX12_mends_38 rfl (lv_at hl 0 rfl) ?_
      refine lv_iload_n hx hb dX12_mends_39 rfl (lv_at hl 1 rfl) ?_
      obtain ⟨q9, eq9, hf⟩ := zbi hf
      refine z_callV (n := 1) (rest := []) (st1 := [.int q9.1]) (c0 := 12) (i0 := 0) (hZ.2.1 (12, 0) (by decide)) (by rfl) S hG hS hZ (fun _ _ h => h) (c_X12_whyOf l D aC zs A nl ad σ8 x1 q9.1 q9.2 eq9) zw_1040 zw_1041 zw_1042 zw_5 zw_1043 (by decide +kernel) ⟨rfl, rfl⟩ ⟨(Nat.le_of_ble_eq_true rfl), (Nat.le_of_ble_eq_true rfl)⟩ hl.1 rfl (by rfl) (by rfl) (Nat.le_of_ble_eq_true rfl) dX12_mends_40 ⟨Nat.zero_le _, Nat.zero_le _⟩ (fun H locs hz10 hG hS => ?_)
      refine lv_iconst (v := (-1)) hx hb dX12_mends_43 (by decide) ?_
      refine lv_icmp_ne (tgt := 48) hx hb dX12_mends_44 (by decide) (fun c11 => ?_) (fun c11 => ?_)
      · have hf := zif_n c11 hf
        refine lv_aload_n hx hb dX12_mends_48 rfl (lv_at hl 0 rfl) ?_
        refine z_get (c0 := 12) (i0 := 0) (k0 := 11) (T := TX12) (v := .ref (ad 12 0 12)) S hG (hZ.2.1 (12, 0) (by decide)) rfl inlX12 (by decide) rfl zw_232 rfl dX12_mends_49 ?_
        refine lv_iload_n hx hb dX12_mends_52 rfl (lv_at hl 1 rfl) ?_
        refine lv_iconst (v := 2) hx hb dX12_mends_53 (by decide) ?_
        obtain ⟨i12, hi12, hf⟩ := zbi hf
        refine z_iast (c0 := 12) (i0 := 0) (k0 := 11) S hG hS (hZ.2.1 (12, 0) (by decide)) (by decide) rfl hi12 dX12_mends_54 (fun H locs hG hS => ?_)
        obtain ⟨σ13, eσ13, hf⟩ := zlt_s hf
        rw [← eσ13] at hG
        refine lv_iconst (v := 0) hx hb dX12_mends_55 (by decide) ?_
        refine lv_istore_n (lv' := [(2, .int 0), (0, .ref (ad 12 0 0)), (1, .int x1)]) hx hb dX12_mends_56 rfl hl (by decide) rfl (fun ls hl => ?_)
        obtain ⟨t57, hw57, hfo57⟩ := zbi hf
        have KL57 : ∀ (n : Nat) (y2l57 : Int32) (σl57 : zM) (H : Heap) (locs : List Loc) (ls : Array Slot), zG D aC A nl ad σl57 s H → va_S A s.heap H locs → lv_has ls 5 [(0, .ref (ad 12 0 0)), (1, .int x1), (2, .int y2l57)] → zwh (fun (q : (Int32 × zM)) => f_X12_mends_L57 x1 q.1 q.2) n (y2l57, σl57) = some t57 → zWk p l e ({ frames := 68, cells := 0, slots := 0, locals := 1634 } : Room) s m args below meth c A none (fun t => zG D aC A nl ad σ' t t.heap ∧ True) H locs (F0 m 57 ls []) := by
          intro n
          induction n with
          | zero =>
            intro y2l57 σl57 H locs ls hG hS hl hw
            exact (zwh_0 hw).elim
          | succ n ih57 =>
            intro y2l57 σl57 H locs ls hG hS hl hw
            obtain ⟨rr57, hf, hk57⟩ := zwh_u hw
            have hf : f_X12_mends_L57 x1 y2l57 σl57 = some rr57 := hf
            unfold f_X12_mends_L57 at hf
            have KJ161_57 : ∀ (y2b161 : Int32) (y3b161 : Int32)  (σb161_57 : zM) (H : Heap) (locs : List Loc) (ls : Array Slot), zG D aC A nl ad σb161_57 s H → va_S A s.heap H locs → lv_has ls 5 [(0, .ref (ad 12 0 0)), (1, .int x1), (2, .int y2b161), (3, .int y3b161)] → (f_X12_mends_B161_57 σb161_57 x1 y2b161 y3b161) = some rr57 → zWk p l e ({ frames := 68, cells := 0, slots := 0, locals := 1634 } : Room) s m args below meth c A none (fun t => zG D aC A nl ad σ' t t.heap ∧ True) H locs (F0 m 161 ls []) := by
              intro y2b161 y3b161  σb161_57 H locs ls hG hS hl hf
              unfold f_X12_mends_B161_57 at hf
              refine lv_aload_n hx hb dX12_mends_161 rfl (lv_at hl 0 rfl) ?_
              refine z_get (c0 := 12) (i0 := 0) (k0 := 3) (T := TX12) (v := .ref (ad 12 0 4)) S hG (hZ.2.1 (12, 0) (by decide)) rfl inlX12 (by decide) rfl zw_225 rfl dX12_mends_162 ?_
              refine lv_sipush (v := 160) hx hb dX12_mends_165 (by decide) ?_
              refine lv_iload_n hx hb dX12_mends_168 rfl (lv_at hl 1 rfl) ?_
              refine lv_imul hx hb dX12_mends_169 ?_
              refine lv_iload_n hx hb dX12_mends_170 rfl (lv_at hl 2 rfl) ?_
              refine lv_iadd hx hb dX12_mends_171 ?_
              refine lv_iload_n hx hb dX12_mends_172 rfl (lv_at hl 3 rfl) ?_
              obtain ⟨i57, hi57, hf⟩ := zbi hf
              refine z_iast (c0 := 12) (i0 := 0) (k0 := 3) S hG hS (hZ.2.1 (12, 0) (by decide)) (by decide) rfl hi57 dX12_mends_173 (fun H locs hG hS => ?_)
              obtain ⟨σ58, eσ58, hf⟩ := zlt_s hf
              rw [← eσ58] at hG
              refine lv_iinc (v := (y2b161 + 1)) (lv' := [(2, .int (y2b161 + 1)), (0, .ref (ad 12 0 0)), (1, .int x1), (3, .int y3b161)]) hx hb dX12_mends_174 hl (k := 2) rfl rfl (by decide) rfl (fun ls hl => ?_)
              refine lv_goto (tgt := 57) hx hb dX12_mends_177 (by decide) ?_
              cases hf
              exact ih57 (y2b161 + 1) σ58 H locs ls hG hS (lv_sub hl [1, 2, 0] rfl) hk57
            refine lv_iload_n hx hb dX12_mends_57 rfl (lv_at hl 2 rfl) ?_
            refine lv_sipush (v := 160) hx hb dX12_mends_58 (by decide) ?_
            refine lv_icmp_ge (tgt := 180) hx hb dX12_mends_61 (by decide) (fun c51 => ?_) (fun c51 => ?_)
            · have hf := zif_p c51 hf
              cases hf
              have hk57 : (σl57 : zM) = t57 := hk57
              have hf := hfo57
              rw [← hk57] at hf
              have hf : (some σl57) = some σ' := hf
              have hq := (Option.some.inj hf)
              subst hq
              exact z_vret S hG hS hlocks trivial hr dX12_mends_180
            · have hf := zif_n c51 hf
              refine lv_aload_n hx hb dX12_mends_64 rfl (lv_at hl 0 rfl) ?_
              refine z_get (c0 := 12) (i0 := 0) (k0 := 11) (T := TX12) (v := .ref (ad 12 0 12)) S hG (hZ.2.1 (12, 0) (by decide)) rfl inlX12 (by decide) rfl zw_232 rfl dX12_mends_65 ?_
              refine lv_iload_n hx hb dX12_mends_68 rfl (lv_at hl 1 rfl) ?_
              obtain ⟨i52, hi52, hf⟩ := zbi hf
              refine z_iald (c0 := 12) (i0 := 0) (k0 := 11) S hG (hZ.2.1 (12, 0) (by decide)) (by decide) rfl hi52 dX12_mends_69 ?_
              refine lv_iconst (v := 2) hx hb dX12_mends_70 (by decide) ?_
              refine lv_icmp_ne (tgt := 180) hx hb dX12_mends_71 (by decide) (fun c53 => ?_) (fun c53 => ?_)
              · have hf := zif_n c53 hf
                cases hf
                have hk57 : (σl57 : zM) = t57 := hk57
                have hf := hfo57
                rw [← hk57] at hf
                have hf : (some σl57) = some σ' := hf
                have hq := (Option.some.inj hf)
                subst hq
                exact z_vret S hG hS hlocks trivial hr dX12_mends_180
              · have hf := zif_p c53 hf
                refine lv_aload_n hx hb dX12_mends_74 rfl (lv_at hl 0 rfl) ?_
                refine lv_iload_n hx hb dX12_mends_75 rfl (lv_at hl 1 rfl) ?_
                refine lv_iload_n hx hb dX12_mends_76 rfl (lv_at hl 2 rfl) ?_
                obtain ⟨r54, er54, hf⟩ := zbi hf
                refine z_callV (n := 2) (rest := []) (st1 := [.int r54]) (c0 := 12) (i0 := 0) (hZ.2.1 (12, 0) (by decide)) (by rfl) S hG hS hZ (fun _ _ h => h) (c_X12_at l D aC zs A nl ad σl57 x1 y2l57 r54 er54) zw_899 zw_900 zw_901 zw_5 zw_902 (by decide +kernel) ⟨rfl, rfl⟩ ⟨(Nat.le_of_ble_eq_true rfl), (Nat.le_of_ble_eq_true rfl)⟩ hl.1 rfl (by rfl) (by rfl) (Nat.le_of_ble_eq_true rfl) dX12_mends_77 ⟨Nat.zero_le _, Nat.zero_le _⟩ (fun H locs hz55 hG hS => ?_)
                refine lv_istore_n (lv' := [(3, .int r54), (0, .ref (ad 12 0 0)), (1, .int x1), (2, .int y2l57)]) hx hb dX12_mends_80 rfl hl (by decide) rfl (fun ls hl => ?_)
                refine lv_iconst (v := 0) hx hb dX12_mends_81 (by decide) ?_
                refine lv_istore (lv' := [(4, .int 0), (3, .int r54), (0, .ref (ad 12 0 0)), (1, .int x1), (2, .int y2l57)]) hx hb dX12_mends_82 hl (by decide) rfl (fun ls hl => ?_)
                obtain ⟨t84, hw84, hfo84⟩ := zbi hf
                have KL84 : ∀ (n : Nat) (y4l84 : Int32) (σl84 : zM) (H : Heap) (locs : List Loc) (ls : Array Slot), zG D aC A nl ad σl84 s H → va_S A s.heap H locs → lv_has ls 5 [(0, .ref (ad 12 0 0)), (1, .int x1), (2, .int y2l57), (3, .int r54), (4, .int y4l84)] → zwh (fun (q : (Int32 × zM)) => f_X12_mends_L84 x1 y2l57 r54 q.1 q.2) n (y4l84, σl84) = some t84 → zWk p l e ({ frames := 68, cells := 0, slots := 0, locals := 1634 } : Room) s m args below meth c A none (fun t => zG D aC A nl ad σ' t t.heap ∧ True) H locs (F0 m 84 ls []) := by
                  intro n
                  induction n with
                  | zero =>
                    intro y4l84 σl84 H locs ls hG hS hl hw
                    exact (zwh_0 hw).elim
                  | succ n ih84 =>
                    intro y4l84 σl84 H locs ls hG hS hl hw
                    obtain ⟨rr84, hf, hk84⟩ := zwh_u hw
                    have hf : f_X12_mends_L84 x1 y2l57 r54 y4l84 σl84 = some rr84 := hf
                    unfold f_X12_mends_L84 at hf
                    have KJ155_84 : ∀ (y4b155 : Int32)  (σb155_84 : zM) (H : Heap) (locs : List Loc) (ls : Array Slot), zG D aC A nl ad σb155_84 s H → va_S A s.heap H locs → lv_has ls 5 [(0, .ref (ad 12 0 0)), (1, .int x1), (2, .int y2l57), (3, .int r54), (4, .int y4b155)] → (f_X12_mends_B155_84 σb155_84 x1 y2l57 r54 y4b155) = some rr84 → zWk p l e ({ frames := 68, cells := 0, slots := 0, locals := 1634 } : Room) s m args below meth c A none (fun t => zG D aC A nl ad σ' t t.heap ∧ True) H locs (F0 m 155 ls []) := by
                      intro y4b155  σb155_84 H locs ls hG hS hl hf
                      unfold f_X12_mends_B155_84 at hf
                      refine lv_iinc (v := (y4b155 + 1)) (lv' := [(4, .int (y4b155 + 1)), (0, .ref (ad 12 0 0)), (1, .int x1), (2, .int y2l57), (3, .int r54)]) hx hb dX12_mends_155 hl (k := 4) rfl rfl (by decide) rfl (fun ls hl => ?_)
                      refine lv_goto (tgt := 84) hx hb dX12_mends_158 (by decide) ?_
                      cases hf
                      exact ih84 (y4b155 + 1) σb155_84 H locs ls hG hS (lv_sub hl [1, 2, 3, 4, 0] rfl) hk84
                    refine lv_iload hx hb dX12_mends_84 (lv_at hl 4 rfl) ?_
                    refine lv_bipush (v := 14) hx hb dX12_mends_86 (by decide) ?_
                    refine lv_icmp_gt (tgt := 161) hx hb dX12_mends_88 (by decide) (fun c73 => ?_) (fun c73 => ?_)
                    · have hf := zif_p c73 hf
                      cases hf
                      have hk84 : (σl84 : zM) = t84 := hk84
                      have hf := hfo84
                      rw [← hk84] at hf
                      have hf : (f_X12_mends_B161_57 σl84 x1 y2l57 r54) = some rr57 := hf
                      exact KJ161_57 y2l57 r54 σl84 H locs ls hG hS (lv_sub hl [0, 1, 2, 3] rfl) hf
                    · have hf := zif_n c73 hf
                      refine lv_aload_n hx hb dX12_mends_91 rfl (lv_at hl 0 rfl) ?_
                      refine z_get (c0 := 12) (i0 := 0) (k0 := 11) (T := TX12) (v := .ref (ad 12 0 12)) S hG (hZ.2.1 (12, 0) (by decide)) rfl inlX12 (by decide) rfl zw_232 rfl dX12_mends_92 ?_
                      refine lv_iload_n hx hb dX12_mends_95 rfl (lv_at hl 1 rfl) ?_
                      obtain ⟨i74, hi74, hf⟩ := zbi hf
                      refine z_iald (c0 := 12) (i0 := 0) (k0 := 11) S hG (hZ.2.1 (12, 0) (by decide)) (by decide) rfl hi74 dX12_mends_96 ?_
                      refine lv_iconst (v := 2) hx hb dX12_mends_97 (by decide) ?_
                      refine lv_icmp_ne (tgt := 161) hx hb dX12_mends_98 (by decide) (fun c75 => ?_) (fun c75 => ?_)
                      · have hf := zif_n c75 hf
                        cases hf
                        have hk84 : (σl84 : zM) = t84 := hk84
                        have hf := hfo84
                        rw [← hk84] at hf
                        have hf : (f_X12_mends_B161_57 σl84 x1 y2l57 r54) = some rr57 := hf
                        exact KJ161_57 y2l57 r54 σl84 H locs ls hG hS (lv_sub hl [0, 1, 2, 3] rfl) hf
                      · have hf := zif_p c75 hf
                        refine lv_iload hx hb dX12_mends_101 (lv_at hl 4 rfl) ?_
                        refine lv_iload_n hx hb dX12_mends_103 rfl (lv_at hl 3 rfl) ?_
                        refine lv_icmp_ne (tgt := 110) hx hb dX12_mends_104 (by decide) (fun c76 => ?_) (fun c76 => ?_)
                        · have hf := zif_n c76 hf
                          refine lv_aload_n hx hb dX12_mends_110 rfl (lv_at hl 0 rfl) ?_
                          refine z_get (c0 := 12) (i0 := 0) (k0 := 3) (T := TX12) (v := .ref (ad 12 0 4)) S hG (hZ.2.1 (12, 0) (by decide)) rfl inlX12 (by decide) rfl zw_225 rfl dX12_mends_111 ?_
                          refine lv_sipush (v := 160) hx hb dX12_mends_114 (by decide) ?_
                          refine lv_iload_n hx hb dX12_mends_117 rfl (lv_at hl 1 rfl) ?_
                          refine lv_imul hx hb dX12_mends_118 ?_
                          refine lv_iload_n hx hb dX12_mends_119 rfl (lv_at hl 2 rfl) ?_
                          refine lv_iadd hx hb dX12_mends_120 ?_
                          refine lv_iload hx hb dX12_mends_121 (lv_at hl 4 rfl) ?_
                          obtain ⟨i77, hi77, hf⟩ := zbi hf
                          refine z_iast (c0 := 12) (i0 := 0) (k0 := 3) S hG hS (hZ.2.1 (12, 0) (by decide)) (by decide) rfl hi77 dX12_mends_123 (fun H locs hG hS => ?_)
                          obtain ⟨σ78, eσ78, hf⟩ := zlt_s hf
                          rw [← eσ78] at hG
                          refine lv_aload_n hx hb dX12_mends_124 rfl (lv_at hl 0 rfl) ?_
                          refine lv_iload_n hx hb dX12_mends_125 rfl (lv_at hl 1 rfl) ?_
                          obtain ⟨q79, eq79, hf⟩ := zbi hf
                          refine z_callV (n := 1) (rest := []) (st1 := [.int q79.1]) (c0 := 12) (i0 := 0) (hZ.2.1 (12, 0) (by decide)) (by rfl) S hG hS hZ (fun _ _ h => h) (c_X12_whyOf l D aC zs A nl ad σ78 x1 q79.1 q79.2 eq79) zw_1040 zw_1041 zw_1042 zw_5 zw_1043 (by decide +kernel) ⟨rfl, rfl⟩ ⟨(Nat.le_of_ble_eq_true rfl), (Nat.le_of_ble_eq_true rfl)⟩ hl.1 rfl (by rfl) (by rfl) (Nat.le_of_ble_eq_true rfl) dX12_mends_126 ⟨Nat.zero_le _, Nat.zero_le _⟩ (fun H locs hz80 hG hS => ?_)
                          refine lv_iconst (v := (-1)) hx hb dX12_mends_129 (by decide) ?_
                          refine lv_icmp_ne (tgt := 155) hx hb dX12_mends_130 (by decide) (fun c81 => ?_) (fun c81 => ?_)
                          · have hf := zif_n c81 hf
                            exact KJ155_84 y4l84 q79.2 H locs ls hG hS (lv_sub hl [0, 1, 2, 3, 4] rfl) hf
                          · have hf := zif_p c81 hf
                            refine lv_aload_n hx hb dX12_mends_133 rfl (lv_at hl 0 rfl) ?_
                            refine z_get (c0 := 12) (i0 := 0) (k0 := 11) (T := TX12) (v := .ref (ad 12 0 12)) S hG (hZ.2.1 (12, 0) (by decide)) rfl inlX12 (by decide) rfl zw_232 rfl dX12_mends_134 ?_
                            refine lv_iload_n hx hb dX12_mends_137 rfl (lv_at hl 1 rfl) ?_
                            refine lv_iconst (v := 1) hx hb dX12_mends_138 (by decide) ?_
                            obtain ⟨i82, hi82, hf⟩ := zbi hf
                            refine z_iast (c0 := 12) (i0 := 0) (k0 := 11) S hG hS (hZ.2.1 (12, 0) (by decide)) (by decide) rfl hi82 dX12_mends_139 (fun H locs hG hS => ?_)
                            obtain ⟨σ83, eσ83, hf⟩ := zlt_s hf
                            rw [← eσ83] at hG
                            refine lv_aload_n hx hb dX12_mends_140 rfl (lv_at hl 0 rfl) ?_
                            refine z_get (c0 := 12) (i0 := 0) (k0 := 12) (T := TX12) (v := .ref (ad 12 0 13)) S hG (hZ.2.1 (12, 0) (by decide)) rfl inlX12 (by decide) rfl zw_233 rfl dX12_mends_141 ?_
                            refine lv_iload_n hx hb dX12_mends_144 rfl (lv_at hl 1 rfl) ?_
                            refine lv_iload_n hx hb dX12_mends_145 rfl (lv_at hl 2 rfl) ?_
                            obtain ⟨i84, hi84, hf⟩ := zbi hf
                            refine z_iast (c0 := 12) (i0 := 0) (k0 := 12) S hG hS (hZ.2.1 (12, 0) (by decide)) (by decide) rfl hi84 dX12_mends_146 (fun H locs hG hS => ?_)
                            obtain ⟨σ85, eσ85, hf⟩ := zlt_s hf
                            rw [← eσ85] at hG
                            refine lv_aload_n hx hb dX12_mends_147 rfl (lv_at hl 0 rfl) ?_
                            refine z_get (c0 := 12) (i0 := 0) (k0 := 13) (T := TX12) (v := .ref (ad 12 0 14)) S hG (hZ.2.1 (12, 0) (by decide)) rfl inlX12 (by decide) rfl zw_234 rfl dX12_mends_148 ?_
                            refine lv_iload_n hx hb dX12_mends_151 rfl (lv_at hl 1 rfl) ?_
                            refine lv_iload hx hb dX12_mends_152 (lv_at hl 4 rfl) ?_
                            obtain ⟨i86, hi86, hf⟩ := zbi hf
                            refine z_iast (c0 := 12) (i0 := 0) (k0 := 13) S hG hS (hZ.2.1 (12, 0) (by decide)) (by decide) rfl hi86 dX12_mends_154 (fun H locs hG hS => ?_)
                            obtain ⟨σ87, eσ87, hf⟩ := zlt_s hf
                            rw [← eσ87] at hG
                            exact KJ155_84 y4l84 σ87 H locs ls hG hS (lv_sub hl [0, 1, 2, 3, 4] rfl) hf
                        · have hf := zif_p c76 hf
                          refine lv_goto (tgt := 155) hx hb dX12_mends_107 (by decide) ?_
                          exact KJ155_84 y4l84 σl84 H locs ls hG hS (lv_sub hl [0, 1, 2, 3, 4] rfl) hf
                exact KL84 zFu 0 σl57 H locs ls hG hS (lv_sub hl [2, 3, 4, 1, 0] rfl) hw84
        exact KL57 zFu 0 σ13 H locs ls hG hS (lv_sub hl [1, 2, 0] rfl) hw57
      · have hf := zif_p c11 hf
        have hq := (Option.some.inj hf)
        subst hq
        exact z_vret S hG hS hlocks trivial hr dX12_mends_47
    · have hf := zif_p c2 hf
      have hq := (Option.some.inj hf)
      subst hq
      exact z_vret S hG hS hlocks trivial hr dX12_mends_13
  exact hK0 _ _ ls hG hS hl hf
set_option maxRecDepth 100000 in
set_option maxHeartbeats 4000000 in
theorem c_X12_mend (l : Launch) (D : va_G) (aC : Nat → ClassId) (zs : Nat × Nat) (A : Nat → Prop) (nl : zNL) (ad : Nat → Nat → Nat → Nat) (σ : zM) (x1 : Int32) (x2 : Int32) (r : Int32) (σ' : zM)  (hf : f_X12_mend σ x1 x2 = some (r, σ')) : Met l yX12_mend (Cond.code yX12_mend cX12_mend 4 (some .int) :: wsL_law) ({ frames := 69, cells := 0, slots := 0, locals := 1658 } : Room) (zP D aC zs zfM A nl ad σ [.ref (ad 12 0 0), .int x1, .int x2]) (zQ (some (.int r)) (fun t => zG D aC A nl ad σ' t t.heap ∧ True) A) 0 0 A := by
  refine Met.ofW (cc := cX12_mend) (maxL := 4) (ret := (some .int)) (by decide) rfl ?_
  intro p e s m args below meth c s₁ B hml hv
  obtain ⟨rfl, hG, hZ⟩ := hv
  have hx := B.exec
  have hb := B.bytes
  have hr := B.returns
  have hts : ∀ w ∈ wsL_law, w.before ([.ref (ad 12 0 0), .int x1, .int x2] : List Value).toArray s = true := fun w h => (atoms_spec B.pre) w (List.mem_cons_of_mem _ h)
  have hown : s.vm.findClass RX12 = some m.cls := findClass_of_methodNamed B.named
  have hlocks := B.notSynchronized
  have S : zS p m c cX12_mend 4 s ([.ref (ad 12 0 0), .int x1, .int x2] : List Value).toArray RX12 := ⟨hx, hb, hml, hown, hts⟩
  have hS : va_S A s.heap s.heap [] := va_S.rf
  have hl := lv_entry ([.ref (ad 12 0 0), .int x1, .int x2]) (n := 4) (Nat.le_of_ble_eq_true rfl)
  rw [lg_entry_eq]
  generalize (lg_sl ([.ref (ad 12 0 0), .int x1, .int x2]) ++ List.replicate (4 - (lg_sl ([.ref (ad 12 0 0), .int x1, .int x2])).length) Slot.unset).toArray = ls at hl ⊢
  have hl : lv_has ls 4 [(0, .ref (ad 12 0 0)), (1, .int x1), (2, .int x2)] := hl
  generalize hargs : ([.ref (ad 12 0 0), .int x1, .int x2] : List Value).toArray = args at S hts ⊢
  clear hargs
  have hK0 : ∀ (H : Heap) (locs : List Loc) (ls : Array Slot), zG D aC A nl ad σ s H → va_S A s.heap H locs → lv_has ls 4 [(0, .ref (ad 12 0 0)), (1, .int x1), (2, .int x2)] → f_X12_mend σ x1 x2 = some (r, σ') → zWk p l e ({ frames := 69, cells := 0, slots := 0, locals := 1658 } : Room) s m args below meth c A (some (.int r)) (fun t => zG D aC A nl ad σ' t t.heap ∧ True) H locs (F0 m 0 ls []) := by
    intro H locs ls hG hS hl hf
    unfold f_X12_mend at hf
    refine lv_aload_n hx hb dX12_mend_0 rfl (lv_at hl 0 rfl) ?_
    refine lv_iload_n hx hb dX12_mend_1 rfl (lv_at hl 1 rfl) ?_
    refine z_callV (n := 1) (rest := []) (st1 := [.int (f_X12_isScheme σ x1)]) (c0 := 12) (i0 := 0) (hZ.2.1 (12, 0) (by decide)) (by rfl) S hG hS hZ (fun _ _ h => h) (c_X12_isScheme l D aC zs A nl ad σ x1 (f_X12_isScheme σ x1) rfl) zw_837 zw_838 zw_839 zw_5 zw_840 (by decide +kernel) ⟨rfl, rfl⟩ ⟨(Nat.le_of_ble_eq_true rfl), (Nat.le_of_ble_eq_true rfl)⟩ hl.1 rfl (by rfl) (by rfl) (Nat.le_of_ble_eq_true rfl) dX12_mend_2 ⟨Nat.zero_le _, Nat.zero_le _⟩ (fun H locs hz1 hG hS => ?_)
    refine lv_if_eq (tgt := 17) hx hb dX12_mend_5 (by decide) (fun c2 => ?_) (fun c2 => ?_)
    · have hf := zif_p c2 hf
      refine lv_iconst (v := (-1)) hx hb dX12_mend_17 (by decide) ?_
      obtain ⟨hq1, hq2⟩ := Prod.mk.inj (Option.some.inj hf)
      subst hq1
      subst hq2
      exact z_iret S hG hS hlocks trivial hr dX12_mend_18
    · have hf := zif_n c2 hf
      refine lv_iload_n hx hb dX12_mend_8 rfl (lv_at hl 2 rfl) ?_
      refine lv_iconst (v := 0) hx hb dX12_mend_9 (by decide) ?_
      refine lv_iconst (v := 4) hx hb dX12_mend_10 (by decide) ?_
      refine z_callS (n := 3) (rest := []) (st1 := [.int (f_X12_isIn x2 0 4)]) S hG hS hZ (fun _ _ h => h) (c_X12_isIn l D aC zs A nl ad σ x2 0 4 (f_X12_isIn x2 0 4) rfl) zw_514 zw_515 zw_5 zw_516 (by decide +kernel) ⟨rfl, rfl⟩ ⟨(Nat.le_of_ble_eq_true rfl), (Nat.le_of_ble_eq_true rfl)⟩ hl.1 rfl (by rfl) (by rfl) (Nat.le_of_ble_eq_true rfl) dX12_mend_11 ⟨Nat.zero_le _, Nat.zero_le _⟩ (fun H locs hz3 hG hS => ?_)
      refine lv_if_ne (tgt := 19) hx hb dX12_mend_14 (by decide) (fun c4 => ?_) (fun c4 => ?_)
      · have hf := zif_n c4 hf
        refine lv_aload_n hx hb dX12_mend_19 rfl (lv_at hl 0 rfl) ?_
        refine lv_iload_n hx hb dX12_mend_20 rfl (lv_at hl 1 rfl) ?_
        obtain ⟨σ5, eσ5, hf⟩ := zbi hf
        refine z_callV (n := 1) (rest := []) (st1 := []) (c0 := 12) (i0 := 0) (hZ.2.1 (12, 0) (by decide)) (by rfl) S hG hS hZ (fun _ _ h => h) (c_X12_mends l D aC zs A nl ad σ x1 σ5 eσ5) zw_1085 zw_1086 zw_1087 zw_5 zw_1088 (by decide +kernel) ⟨rfl, rfl⟩ ⟨(Nat.le_of_ble_eq_true rfl), (Nat.le_of_ble_eq_true rfl)⟩ hl.1 rfl (by rfl) (by rfl) (Nat.le_of_ble_eq_true rfl) dX12_mend_21 ⟨Nat.zero_le _, Nat.zero_le _⟩ (fun H locs hz6 hG hS => ?_)
        refine lv_aload_n hx hb dX12_mend_24 rfl (lv_at hl 0 rfl) ?_
        refine z_get (c0 := 12) (i0 := 0) (k0 := 12) (T := TX12) (v := .ref (ad 12 0 13)) S hG (hZ.2.1 (12, 0) (by decide)) rfl inlX12 (by decide) rfl zw_233 rfl dX12_mend_25 ?_
        refine lv_iload_n hx hb dX12_mend_28 rfl (lv_at hl 1 rfl) ?_
        obtain ⟨i7, hi7, hf⟩ := zbi hf
        refine z_iald (c0 := 12) (i0 := 0) (k0 := 12) S hG (hZ.2.1 (12, 0) (by decide)) (by decide) rfl hi7 dX12_mend_29 ?_
        refine lv_istore_n (lv' := [(3, .int (zA σ5 12 0 12 i7)), (0, .ref (ad 12 0 0)), (1, .int x1), (2, .int x2)]) hx hb dX12_mend_30 rfl hl (by decide) rfl (fun ls hl => ?_)
        refine lv_iload_n hx hb dX12_mend_31 rfl (lv_at hl 3 rfl) ?_
        refine lv_if_ne (tgt := 42) hx hb dX12_mend_32 (by decide) (fun c8 => ?_) (fun c8 => ?_)
        · have hf := zif_n c8 hf
          refine lv_iload_n hx hb dX12_mend_42 rfl (lv_at hl 0 rfl) ?_
          refine lv_iconst (v := (-1)) hx hb dX12_mend_43 (by decide) ?_
          refine lv_icmp_ne (tgt := 49) hx hb dX12_mend_44 (by decide) (fun c9 => ?_) (fun c9 => ?_)
          · have hf := zif_n c9 hf
            refine lv_iload_n hx hb dX12_mend_49 rfl (lv_at hl 3 rfl) ?_
            refine lv_iconst (v := 1) hx hb dX12_mend_50 (by decide) ?_
            refine lv_icmp_ne (tgt := 61) hx hb dX12_mend_51 (by decide) (fun c10 => ?_) (fun c10 => ?_)
            · have hf := zif_n c10 hf
              refine lv_iload_n hx hb dX12_mend_61 rfl (lv_at hl 3 rfl) ?_
              refine lv_iconst (v := 2) hx hb dX12_mend_62 (by decide) ?_
              refine lv_icmp_ne (tgt := 73) hx hb dX12_mend_63 (by decide) (fun c11 => ?_) (fun c11 => ?_)
              · have hf := zif_n c11 hf
                refine lv_iload_n hx hb dX12_mend_73 rfl (lv_at hl 3 rfl) ?_
                refine lv_iconst (v := 3) hx hb dX12_mend_74 (by decide) ?_
                refine lv_icmp_ne (tgt := 88) hx hb dX12_mend_75 (by decide) (fun c12 => ?_) (fun c12 => ?_)
                · have hf := zif_n c12 hf
                  refine lv_aload_n hx hb dX12_mend_88 rfl (lv_at hl 1 rfl) ?_
                  refine z_get (c0 := 12) (i0 := 0) (k0 := 13) (T := TX12) (v := .ref (ad 12 0 14)) S hG (hZ.2.1 (12, 0) (by decide)) rfl inlX12 (by decide) rfl zw_234 rfl dX12_mend_89 ?_
                  refine lv_iload_n hx hb dX12_mend_92 rfl (lv_at hl 2 rfl) ?_
                  obtain ⟨i13, hi13, hf⟩ := zbi hf
                  refine z_iald (c0 := 12) (i0 := 0) (k0 := 13) S hG (hZ.2.1 (12, 0) (by decide)) (by decide) rfl hi13 dX12_mend_93 ?_
                  obtain ⟨hq1, hq2⟩ := Prod.mk.inj (Option.some.inj hf)
                  subst hq1
                  subst hq2
                  exact z_iret S hG hS hlocks trivial hr dX12_mend_94
                · have hf := zif_p c12 hf
                  refine lv_iload_n hx hb dX12_mend_78 rfl (lv_at hl 0 rfl) ?_
                  refine lv_bipush (v := 80) hx hb dX12_mend_79 (by decide) ?_
                  refine z_irem (v := (zrem (zA σ5 12 0 12 i7) 80)) hx hb dX12_mend_81 (by decide) rfl ?_
                  refine lv_bipush (v := 10) hx hb dX12_mend_82 (by decide) ?_
                  refine lv_idiv hx hb dX12_mend_84 (by decide) ?_
                  refine lv_goto (tgt := 94) hx hb dX12_mend_85 (by decide) ?_
                  obtain ⟨hq1, hq2⟩ := Prod.mk.inj (Option.some.inj hf)
                  subst hq1
                  subst hq2
                  exact z_iret S hG hS hlocks trivial hr dX12_mend_94
              · have hf := zif_p c11 hf
                refine lv_iload_n hx hb dX12_mend_66 rfl (lv_at hl 0 rfl) ?_
                refine lv_bipush (v := 10) hx hb dX12_mend_67 (by decide) ?_
                refine z_irem (v := (zrem (zA σ5 12 0 12 i7) 10)) hx hb dX12_mend_69 (by decide) rfl ?_
                refine lv_goto (tgt := 94) hx hb dX12_mend_70 (by decide) ?_
                obtain ⟨hq1, hq2⟩ := Prod.mk.inj (Option.some.inj hf)
                subst hq1
                subst hq2
                exact z_iret S hG hS hlocks trivial hr dX12_mend_94
            · have hf := zif_p c10 hf
              refine lv_iload_n hx hb dX12_mend_54 rfl (lv_at hl 0 rfl) ?_
              refine lv_bipush (v := 80) hx hb dX12_mend_55 (by decide) ?_
              refine lv_idiv hx hb dX12_mend_57 (by decide) ?_
              refine lv_goto (tgt := 94) hx hb dX12_mend_58 (by decide) ?_
              obtain ⟨hq1, hq2⟩ := Prod.mk.inj (Option.some.inj hf)
              subst hq1
              subst hq2
              exact z_iret S hG hS hlocks trivial hr dX12_mend_94
          · have hf := zif_p c9 hf
            refine lv_iconst (v := (-1)) hx hb dX12_mend_47 (by decide) ?_
            obtain ⟨hq1, hq2⟩ := Prod.mk.inj (Option.some.inj hf)
            subst hq1
            subst hq2
            exact z_iret S hG hS hlocks trivial hr dX12_mend_48
        · have hf := zif_p c8 hf
          refine lv_aload_n hx hb dX12_mend_35 rfl (lv_at hl 1 rfl) ?_
          refine z_get (c0 := 12) (i0 := 0) (k0 := 11) (T := TX12) (v := .ref (ad 12 0 12)) S hG (hZ.2.1 (12, 0) (by decide)) rfl inlX12 (by decide) rfl zw_232 rfl dX12_mend_36 ?_
          refine lv_iload_n hx hb dX12_mend_39 rfl (lv_at hl 2 rfl) ?_
          obtain ⟨i14, hi14, hf⟩ := zbi hf
          refine z_iald (c0 := 12) (i0 := 0) (k0 := 11) S hG (hZ.2.1 (12, 0) (by decide)) (by decide) rfl hi14 dX12_mend_40 ?_
          obtain ⟨hq1, hq2⟩ := Prod.mk.inj (Option.some.inj hf)
          subst hq1
          subst hq2
          exact z_iret S hG hS hlocks trivial hr dX12_mend_41
      · have hf := zif_p c4 hf
        refine lv_iconst (v := (-1)) hx hb dX12_mend_17 (by decide) ?_
        obtain ⟨hq1, hq2⟩ := Prod.mk.inj (Option.some.inj hf)
        subst hq1
        subst hq2
        exact z_iret S hG hS hlocks trivial hr dX12_mend_18
  exact hK0 _ _ ls hG hS hl hf
set_option maxRecDepth 100000 in
set_option maxHeartbeats 4000000 in
theorem c_X12_outs (l : Launch) (D : va_G) (aC : Nat → ClassId) (zs : Nat × Nat) (A : Nat → Prop) (nl : zNL) (ad : Nat → Nat → Nat → Nat) (σ : zM) (x1 : Int32) (r : Int32) (σ' : zM)  (hf : f_X12_outs σ x1 = some (r, σ')) : Met l yX12_outs (Cond.code yX12_outs cX12_outs 2 (some .boolean) :: wsL_law) ({ frames := 64, cells := 0, slots := 0, locals := 1468 } : Room) (zP D aC zs zfM A nl ad σ [.ref (ad 12 0 0), .int x1]) (zQ (some (.int r)) (fun t => zG D aC A nl ad σ' t t.heap ∧ (r = 0 ∨ r = 1)) A) 0 0 A := by
  refine Met.ofW (cc := cX12_outs) (maxL := 2) (ret := (some .boolean)) (by decide) rfl ?_
  intro p e s m args below meth c s₁ B hml hv
  obtain ⟨rfl, hG, hZ⟩ := hv
  have hx := B.exec
  have hb := B.bytes
  have hr := B.returns
  have hts : ∀ w ∈ wsL_law, w.before ([.ref (ad 12 0 0), .int x1] : List Value).toArray s = true := fun w h => (atoms_spec B.pre) w (List.mem_cons_of_mem _ h)
  have hown : s.vm.findClass RX12 = some m.cls := findClass_of_methodNamed B.named
  have hlocks := B.notSynchronized
  have S : zS p m c cX12_outs 2 s ([.ref (ad 12 0 0), .int x1] : List Value).toArray RX12 := ⟨hx, hb, hml, hown, hts⟩
  have hS : va_S A s.heap s.heap [] := va_S.rf
  have hl := lv_entry ([.ref (ad 12 0 0), .int x1]) (n := 2) (Nat.le_of_ble_eq_true rfl)
  rw [lg_entry_eq]
  generalize (lg_sl ([.ref (ad 12 0 0), .int x1]) ++ List.replicate (2 - (lg_sl ([.ref (ad 12 0 0), .int x1])).length) Slot.unset).toArray = ls at hl ⊢
  have hl : lv_has ls 2 [(0, .ref (ad 12 0 0)), (1, .int x1)] := hl
  generalize hargs : ([.ref (ad 12 0 0), .int x1] : List Value).toArray = args at S hts ⊢
  clear hargs
  have hK0 : ∀ (H : Heap) (locs : List Loc) (ls : Array Slot), zG D aC A nl ad σ s H → va_S A s.heap H locs → lv_has ls 2 [(0, .ref (ad 12 0 0)), (1, .int x1)] → f_X12_outs σ x1 = some (r, σ') → zWk p l e ({ frames := 64, cells := 0, slots := 0, locals := 1468 } : Room) s m args below meth c A (some (.int r)) (fun t => zG D aC A nl ad σ' t t.heap ∧ (r = 0 ∨ r = 1)) H locs (F0 m 0 ls []) := by
    intro H locs ls hG hS hl hf
    unfold f_X12_outs at hf
    refine lv_aload_n hx hb dX12_outs_0 rfl (lv_at hl 0 rfl) ?_
    refine z_get (c0 := 12) (i0 := 0) (k0 := 27) (T := TX12) (v := .ref (ad 12 0 28)) S hG (hZ.2.1 (12, 0) (by decide)) rfl inlX12 (by decide) rfl zw_239 rfl dX12_outs_1 ?_
    refine lv_iload_n hx hb dX12_outs_4 rfl (lv_at hl 1 rfl) ?_
    refine lv_bipush (v := 16) hx hb dX12_outs_5 (by decide) ?_
    obtain ⟨i1, hi1, hf⟩ := zbi hf
    refine z_iast (c0 := 12) (i0 := 0) (k0 := 27) S hG hS (hZ.2.1 (12, 0) (by decide)) (by decide) rfl hi1 dX12_outs_7 (fun H locs hG hS => ?_)
    obtain ⟨σ2, eσ2, hf⟩ := zlt_s hf
    rw [← eσ2] at hG
    refine lv_aload_n hx hb dX12_outs_8 rfl (lv_at hl 0 rfl) ?_
    refine lv_ldc2 (v := 26982) hx hb hown (hts _ zw_571) dX12_outs_9 ?_
    obtain ⟨q3, eq3, hf⟩ := zbi hf
    refine z_callV (n := 1) (rest := []) (st1 := [.int q3.1]) (c0 := 12) (i0 := 0) (hZ.2.1 (12, 0) (by decide)) (by rfl) S hG hS hZ (fun _ _ h => h) (c_X12_takes l D aC zs A nl ad σ2 26982 q3.1 q3.2 eq3) zw_546 zw_547 zw_548 zw_5 zw_549 (by decide +kernel) ⟨rfl, rfl⟩ ⟨(Nat.le_of_ble_eq_true rfl), (Nat.le_of_ble_eq_true rfl)⟩ hl.1 rfl (by rfl) (by rfl) (Nat.le_of_ble_eq_true rfl) dX12_outs_12 ⟨Nat.zero_le _, Nat.zero_le _⟩ (fun H locs hz4 hG hS => ?_)
    refine lv_if_ne (tgt := 20) hx hb dX12_outs_15 (by decide) (fun c5 => ?_) (fun c5 => ?_)
    · have hf := zif_n c5 hf
      refine lv_aload_n hx hb dX12_outs_20 rfl (lv_at hl 0 rfl) ?_
      refine lv_iconst (v := 0) hx hb dX12_outs_21 (by decide) ?_
      refine z_putI (c0 := 12) (i0 := 0) (k0 := 22) (T := TX12) S hG hS tyX12 tyX12_ok nmX12 (hZ.2.1 (12, 0) (by decide)) rfl inlX12 (by decide) rfl rfl zw_626 (by decide +kernel) rfl dX12_outs_22 (fun H locs hG hS => ?_)
      obtain ⟨σ6, eσ6, hf⟩ := zlt_s hf
      rw [← eσ6] at hG
      refine lv_aload_n hx hb dX12_outs_25 rfl (lv_at hl 0 rfl) ?_
      refine z_get (c0 := 12) (i0 := 0) (k0 := 28) (T := TX12) (v := .ref (ad 12 0 29)) S hG (hZ.2.1 (12, 0) (by decide)) rfl inlX12 (by decide) rfl zw_240 rfl dX12_outs_26 ?_
      refine lv_iload_n hx hb dX12_outs_29 rfl (lv_at hl 1 rfl) ?_
      refine lv_aload_n hx hb dX12_outs_30 rfl (lv_at hl 0 rfl) ?_
      obtain ⟨q7, eq7, hf⟩ := zbi hf
      refine z_callV (n := 0) (rest := [.int x1, .ref (ad 12 0 29)]) (st1 := [.int q7.1, .int x1, .ref (ad 12 0 29)]) (c0 := 12) (i0 := 0) (hZ.2.1 (12, 0) (by decide)) (by rfl) S hG hS hZ (fun _ _ h => h) (c_X12_any l D aC zs A nl ad σ6 q7.1 q7.2 eq7) zw_627 zw_628 zw_629 zw_5 zw_630 (by decide +kernel) ⟨rfl, rfl⟩ ⟨(Nat.le_of_ble_eq_true rfl), (Nat.le_of_ble_eq_true rfl)⟩ hl.1 rfl (by rfl) (by rfl) (Nat.le_of_ble_eq_true rfl) dX12_outs_31 ⟨Nat.zero_le _, Nat.zero_le _⟩ (fun H locs hz8 hG hS => ?_)
      obtain ⟨i9, hi9, hf⟩ := zbi hf
      refine z_iast (c0 := 12) (i0 := 0) (k0 := 28) S hG hS (hZ.2.1 (12, 0) (by decide)) (by decide) rfl hi9 dX12_outs_34 (fun H locs hG hS => ?_)
      obtain ⟨σ10, eσ10, hf⟩ := zlt_s hf
      rw [← eσ10] at hG
      refine lv_aload_n hx hb dX12_outs_35 rfl (lv_at hl 0 rfl) ?_
      refine z_get (c0 := 12) (i0 := 0) (k0 := 28) (T := TX12) (v := .ref (ad 12 0 29)) S hG (hZ.2.1 (12, 0) (by decide)) rfl inlX12 (by decide) rfl zw_240 rfl dX12_outs_36 ?_
      refine lv_iload_n hx hb dX12_outs_39 rfl (lv_at hl 1 rfl) ?_
      obtain ⟨i11, hi11, hf⟩ := zbi hf
      refine z_iald (c0 := 12) (i0 := 0) (k0 := 28) S hG (hZ.2.1 (12, 0) (by decide)) (by decide) rfl hi11 dX12_outs_40 ?_
      refine lv_iconst (v := (-1)) hx hb dX12_outs_41 (by decide) ?_
      refine lv_icmp_eq (tgt := 49) hx hb dX12_outs_42 (by decide) (fun c12 => ?_) (fun c12 => ?_)
      · have hf := zif_p c12 hf
        refine lv_iconst (v := 0) hx hb dX12_outs_49 (by decide) ?_
        obtain ⟨hq1, hq2⟩ := Prod.mk.inj (Option.some.inj hf)
        subst hq1
        subst hq2
        exact z_zret S hG hS hlocks (Or.inl rfl) hr dX12_outs_50
      · have hf := zif_n c12 hf
        refine lv_iconst (v := 1) hx hb dX12_outs_45 (by decide) ?_
        refine lv_goto (tgt := 50) hx hb dX12_outs_46 (by decide) ?_
        obtain ⟨hq1, hq2⟩ := Prod.mk.inj (Option.some.inj hf)
        subst hq1
        subst hq2
        exact z_zret S hG hS hlocks (Or.inr rfl) hr dX12_outs_50
    · have hf := zif_p c5 hf
      refine lv_iconst (v := 0) hx hb dX12_outs_18 (by decide) ?_
      obtain ⟨hq1, hq2⟩ := Prod.mk.inj (Option.some.inj hf)
      subst hq1
      subst hq2
      exact z_zret S hG hS hlocks (Or.inl rfl) hr dX12_outs_19
  exact hK0 _ _ ls hG hS hl hf
set_option maxRecDepth 100000 in
set_option maxHeartbeats 4000000 in
theorem c_X12_reads (l : Launch) (D : va_G) (aC : Nat → ClassId) (zs : Nat × Nat) (A : Nat → Prop) (nl : zNL) (ad : Nat → Nat → Nat → Nat) (σ : zM) (x1 : Int32) (r : Int32) (σ' : zM)  (hf : f_X12_reads σ x1 = some (r, σ')) : Met l yX12_reads (Cond.code yX12_reads cX12_reads 2 (some .boolean) :: wsL_law) ({ frames := 65, cells := 0, slots := 0, locals := 1489 } : Room) (zP D aC zs zfM A nl ad σ [.ref (ad 12 0 0), .int x1]) (zQ (some (.int r)) (fun t => zG D aC A nl ad σ' t t.heap ∧ (r = 0 ∨ r = 1)) A) 0 0 A := by
  refine Met.ofW (cc := cX12_reads) (maxL := 2) (ret := (some .boolean)) (by decide) rfl ?_
  intro p e s m args below meth c s₁ B hml hv
  obtain ⟨rfl, hG, hZ⟩ := hv
  have hx := B.exec
  have hb := B.bytes
  have hr := B.returns
  have hts : ∀ w ∈ wsL_law, w.before ([.ref (ad 12 0 0), .int x1] : List Value).toArray s = true := fun w h => (atoms_spec B.pre) w (List.mem_cons_of_mem _ h)
  have hown : s.vm.findClass RX12 = some m.cls := findClass_of_methodNamed B.named
  have hlocks := B.notSynchronized
  have S : zS p m c cX12_reads 2 s ([.ref (ad 12 0 0), .int x1] : List Value).toArray RX12 := ⟨hx, hb, hml, hown, hts⟩
  have hS : va_S A s.heap s.heap [] := va_S.rf
  have hl := lv_entry ([.ref (ad 12 0 0), .int x1]) (n := 2) (Nat.le_of_ble_eq_true rfl)
  rw [lg_entry_eq]
  generalize (lg_sl ([.ref (ad 12 0 0), .int x1]) ++ List.replicate (2 - (lg_sl ([.ref (ad 12 0 0), .int x1])).length) Slot.unset).toArray = ls at hl ⊢
  have hl : lv_has ls 2 [(0, .ref (ad 12 0 0)), (1, .int x1)] := hl
  generalize hargs : ([.ref (ad 12 0 0), .int x1] : List Value).toArray = args at S hts ⊢
  clear hargs
  have hK0 : ∀ (H : Heap) (locs : List Loc) (ls : Array Slot), zG D aC A nl ad σ s H → va_S A s.heap H locs → lv_has ls 2 [(0, .ref (ad 12 0 0)), (1, .int x1)] → f_X12_reads σ x1 = some (r, σ') → zWk p l e ({ frames := 65, cells := 0, slots := 0, locals := 1489 } : Room) s m args below meth c A (some (.int r)) (fun t => zG D aC A nl ad σ' t t.heap ∧ (r = 0 ∨ r = 1)) H locs (F0 m 0 ls []) := by
    intro H locs ls hG hS hl hf
    unfold f_X12_reads at hf
    refine lv_aload_n hx hb dX12_reads_0 rfl (lv_at hl 0 rfl) ?_
    refine lv_ldc2 (v := 1919905645) hx hb hown (hts _ zw_529) dX12_reads_1 ?_
    obtain ⟨q1, eq1, hf⟩ := zbi hf
    refine z_callV (n := 1) (rest := []) (st1 := [.int q1.1]) (c0 := 12) (i0 := 0) (hZ.2.1 (12, 0) (by decide)) (by rfl) S hG hS hZ (fun _ _ h => h) (c_X12_takes l D aC zs A nl ad σ 1919905645 q1.1 q1.2 eq1) zw_546 zw_547 zw_548 zw_5 zw_549 (by decide +kernel) ⟨rfl, rfl⟩ ⟨(Nat.le_of_ble_eq_true rfl), (Nat.le_of_ble_eq_true rfl)⟩ hl.1 rfl (by rfl) (by rfl) (Nat.le_of_ble_eq_true rfl) dX12_reads_4 ⟨Nat.zero_le _, Nat.zero_le _⟩ (fun H locs hz2 hG hS => ?_)
    refine lv_if_eq (tgt := 16) hx hb dX12_reads_7 (by decide) (fun c3 => ?_) (fun c3 => ?_)
    · have hf := zif_p c3 hf
      refine lv_aload_n hx hb dX12_reads_16 rfl (lv_at hl 0 rfl) ?_
      refine lv_ldc2 (v := 1852137842) hx hb hown (hts _ zw_530) dX12_reads_17 ?_
      obtain ⟨q4, eq4, hf⟩ := zbi hf
      refine z_callV (n := 1) (rest := []) (st1 := [.int q4.1]) (c0 := 12) (i0 := 0) (hZ.2.1 (12, 0) (by decide)) (by rfl) S hG hS hZ (fun _ _ h => h) (c_X12_takes l D aC zs A nl ad q1.2 1852137842 q4.1 q4.2 eq4) zw_546 zw_547 zw_548 zw_5 zw_549 (by decide +kernel) ⟨rfl, rfl⟩ ⟨(Nat.le_of_ble_eq_true rfl), (Nat.le_of_ble_eq_true rfl)⟩ hl.1 rfl (by rfl) (by rfl) (Nat.le_of_ble_eq_true rfl) dX12_reads_20 ⟨Nat.zero_le _, Nat.zero_le _⟩ (fun H locs hz5 hG hS => ?_)
      refine lv_if_eq (tgt := 37) hx hb dX12_reads_23 (by decide) (fun c6 => ?_) (fun c6 => ?_)
      · have hf := zif_p c6 hf
        refine lv_aload_n hx hb dX12_reads_37 rfl (lv_at hl 0 rfl) ?_
        refine lv_ldc2 (v := 418497262196) hx hb hown (hts _ zw_532) dX12_reads_38 ?_
        obtain ⟨q7, eq7, hf⟩ := zbi hf
        refine z_callV (n := 1) (rest := []) (st1 := [.int q7.1]) (c0 := 12) (i0 := 0) (hZ.2.1 (12, 0) (by decide)) (by rfl) S hG hS hZ (fun _ _ h => h) (c_X12_takes l D aC zs A nl ad q4.2 418497262196 q7.1 q7.2 eq7) zw_546 zw_547 zw_548 zw_5 zw_549 (by decide +kernel) ⟨rfl, rfl⟩ ⟨(Nat.le_of_ble_eq_true rfl), (Nat.le_of_ble_eq_true rfl)⟩ hl.1 rfl (by rfl) (by rfl) (Nat.le_of_ble_eq_true rfl) dX12_reads_41 ⟨Nat.zero_le _, Nat.zero_le _⟩ (fun H locs hz8 hG hS => ?_)
        refine lv_if_eq (tgt := 58) hx hb dX12_reads_44 (by decide) (fun c9 => ?_) (fun c9 => ?_)
        · have hf := zif_p c9 hf
          refine lv_aload_n hx hb dX12_reads_58 rfl (lv_at hl 0 rfl) ?_
          refine lv_ldc2 (v := 1918989413) hx hb hown (hts _ zw_534) dX12_reads_59 ?_
          obtain ⟨q10, eq10, hf⟩ := zbi hf
          refine z_callV (n := 1) (rest := []) (st1 := [.int q10.1]) (c0 := 12) (i0 := 0) (hZ.2.1 (12, 0) (by decide)) (by rfl) S hG hS hZ (fun _ _ h => h) (c_X12_takes l D aC zs A nl ad q7.2 1918989413 q10.1 q10.2 eq10) zw_546 zw_547 zw_548 zw_5 zw_549 (by decide +kernel) ⟨rfl, rfl⟩ ⟨(Nat.le_of_ble_eq_true rfl), (Nat.le_of_ble_eq_true rfl)⟩ hl.1 rfl (by rfl) (by rfl) (Nat.le_of_ble_eq_true rfl) dX12_reads_62 ⟨Nat.zero_le _, Nat.zero_le _⟩ (fun H locs hz11 hG hS => ?_)
          refine lv_if_eq (tgt := 74) hx hb dX12_reads_65 (by decide) (fun c12 => ?_) (fun c12 => ?_)
          · have hf := zif_p c12 hf
            refine lv_aload_n hx hb dX12_reads_74 rfl (lv_at hl 0 rfl) ?_
            refine lv_ldc2 (v := 2002873452) hx hb hown (hts _ zw_535) dX12_reads_75 ?_
            obtain ⟨q13, eq13, hf⟩ := zbi hf
            refine z_callV (n := 1) (rest := []) (st1 := [.int q13.1]) (c0 := 12) (i0 := 0) (hZ.2.1 (12, 0) (by decide)) (by rfl) S hG hS hZ (fun _ _ h => h) (c_X12_takes l D aC zs A nl ad q10.2 2002873452 q13.1 q13.2 eq13) zw_546 zw_547 zw_548 zw_5 zw_549 (by decide +kernel) ⟨rfl, rfl⟩ ⟨(Nat.le_of_ble_eq_true rfl), (Nat.le_of_ble_eq_true rfl)⟩ hl.1 rfl (by rfl) (by rfl) (Nat.le_of_ble_eq_true rfl) dX12_reads_78 ⟨Nat.zero_le _, Nat.zero_le _⟩ (fun H locs hz14 hG hS => ?_)
            refine lv_if_eq (tgt := 95) hx hb dX12_reads_81 (by decide) (fun c15 => ?_) (fun c15 => ?_)
            · have hf := zif_p c15 hf
              refine lv_aload_n hx hb dX12_reads_95 rfl (lv_at hl 0 rfl) ?_
              refine lv_ldc2 (v := 7823737) hx hb hown (hts _ zw_536) dX12_reads_96 ?_
              obtain ⟨q16, eq16, hf⟩ := zbi hf
              refine z_callV (n := 1) (rest := []) (st1 := [.int q16.1]) (c0 := 12) (i0 := 0) (hZ.2.1 (12, 0) (by decide)) (by rfl) S hG hS hZ (fun _ _ h => h) (c_X12_takes l D aC zs A nl ad q13.2 7823737 q16.1 q16.2 eq16) zw_546 zw_547 zw_548 zw_5 zw_549 (by decide +kernel) ⟨rfl, rfl⟩ ⟨(Nat.le_of_ble_eq_true rfl), (Nat.le_of_ble_eq_true rfl)⟩ hl.1 rfl (by rfl) (by rfl) (Nat.le_of_ble_eq_true rfl) dX12_reads_99 ⟨Nat.zero_le _, Nat.zero_le _⟩ (fun H locs hz17 hG hS => ?_)
              refine lv_if_eq (tgt := 116) hx hb dX12_reads_102 (by decide) (fun c18 => ?_) (fun c18 => ?_)
              · have hf := zif_p c18 hf
                refine lv_aload_n hx hb dX12_reads_116 rfl (lv_at hl 0 rfl) ?_
                refine lv_ldc2 (v := 495873780082) hx hb hown (hts _ zw_537) dX12_reads_117 ?_
                obtain ⟨q19, eq19, hf⟩ := zbi hf
                refine z_callV (n := 1) (rest := []) (st1 := [.int q19.1]) (c0 := 12) (i0 := 0) (hZ.2.1 (12, 0) (by decide)) (by rfl) S hG hS hZ (fun _ _ h => h) (c_X12_takes l D aC zs A nl ad q16.2 495873780082 q19.1 q19.2 eq19) zw_546 zw_547 zw_548 zw_5 zw_549 (by decide +kernel) ⟨rfl, rfl⟩ ⟨(Nat.le_of_ble_eq_true rfl), (Nat.le_of_ble_eq_true rfl)⟩ hl.1 rfl (by rfl) (by rfl) (Nat.le_of_ble_eq_true rfl) dX12_reads_120 ⟨Nat.zero_le _, Nat.zero_le _⟩ (fun H locs hz20 hG hS => ?_)
                refine lv_if_eq (tgt := 137) hx hb dX12_reads_123 (by decide) (fun c21 => ?_) (fun c21 => ?_)
                · have hf := zif_p c21 hf
                  refine lv_aload_n hx hb dX12_reads_137 rfl (lv_at hl 0 rfl) ?_
                  refine lv_ldc2 (v := 1668248436) hx hb hown (hts _ zw_538) dX12_reads_138 ?_
                  obtain ⟨q22, eq22, hf⟩ := zbi hf
                  refine z_callV (n := 1) (rest := []) (st1 := [.int q22.1]) (c0 := 12) (i0 := 0) (hZ.2.1 (12, 0) (by decide)) (by rfl) S hG hS hZ (fun _ _ h => h) (c_X12_takes l D aC zs A nl ad q19.2 1668248436 q22.1 q22.2 eq22) zw_546 zw_547 zw_548 zw_5 zw_549 (by decide +kernel) ⟨rfl, rfl⟩ ⟨(Nat.le_of_ble_eq_true rfl), (Nat.le_of_ble_eq_true rfl)⟩ hl.1 rfl (by rfl) (by rfl) (Nat.le_of_ble_eq_true rfl) dX12_reads_141 ⟨Nat.zero_le _, Nat.zero_le _⟩ (fun H locs hz23 hG hS => ?_)
                  refine lv_if_eq (tgt := 153) hx hb dX12_reads_144 (by decide) (fun c24 => ?_) (fun c24 => ?_)
                  · have hf := zif_p c24 hf
                    refine lv_aload_n hx hb dX12_reads_153 rfl (lv_at hl 0 rfl) ?_
                    refine lv_ldc2 (v := 7304564) hx hb hown (hts _ zw_539) dX12_reads_154 ?_
                    obtain ⟨q25, eq25, hf⟩ := zbi hf
                    refine z_callV (n := 1) (rest := []) (st1 := [.int q25.1]) (c0 := 12) (i0 := 0) (hZ.2.1 (12, 0) (by decide)) (by rfl) S hG hS hZ (fun _ _ h => h) (c_X12_takes l D aC zs A nl ad q22.2 7304564 q25.1 q25.2 eq25) zw_546 zw_547 zw_548 zw_5 zw_549 (by decide +kernel) ⟨rfl, rfl⟩ ⟨(Nat.le_of_ble_eq_true rfl), (Nat.le_of_ble_eq_true rfl)⟩ hl.1 rfl (by rfl) (by rfl) (Nat.le_of_ble_eq_true rfl) dX12_reads_157 ⟨Nat.zero_le _, Nat.zero_le _⟩ (fun H locs hz26 hG hS => ?_)
                    refine lv_if_eq (tgt := 169) hx hb dX12_reads_160 (by decide) (fun c27 => ?_) (fun c27 => ?_)
                    · have hf := zif_p c27 hf
                      refine lv_aload_n hx hb dX12_reads_169 rfl (lv_at hl 0 rfl) ?_
                      refine lv_ldc2 (v := 427021005669) hx hb hown (hts _ zw_540) dX12_reads_170 ?_
                      obtain ⟨q28, eq28, hf⟩ := zbi hf
                      refine z_callV (n := 1) (rest := []) (st1 := [.int q28.1]) (c0 := 12) (i0 := 0) (hZ.2.1 (12, 0) (by decide)) (by rfl) S hG hS hZ (fun _ _ h => h) (c_X12_takes l D aC zs A nl ad q25.2 427021005669 q28.1 q28.2 eq28) zw_546 zw_547 zw_548 zw_5 zw_549 (by decide +kernel) ⟨rfl, rfl⟩ ⟨(Nat.le_of_ble_eq_true rfl), (Nat.le_of_ble_eq_true rfl)⟩ hl.1 rfl (by rfl) (by rfl) (Nat.le_of_ble_eq_true rfl) dX12_reads_173 ⟨Nat.zero_le _, Nat.zero_le _⟩ (fun H locs hz29 hG hS => ?_)
                      refine lv_if_eq (tgt := 190) hx hb dX12_reads_176 (by decide) (fun c30 => ?_) (fun c30 => ?_)
                      · have hf := zif_p c30 hf
                        refine lv_aload_n hx hb dX12_reads_190 rfl (lv_at hl 0 rfl) ?_
                        refine lv_ldc2 (v := 1801807216) hx hb hown (hts _ zw_542) dX12_reads_191 ?_
                        obtain ⟨q31, eq31, hf⟩ := zbi hf
                        refine z_callV (n := 1) (rest := []) (st1 := [.int q31.1]) (c0 := 12) (i0 := 0) (hZ.2.1 (12, 0) (by decide)) (by rfl) S hG hS hZ (fun _ _ h => h) (c_X12_takes l D aC zs A nl ad q28.2 1801807216 q31.1 q31.2 eq31) zw_546 zw_547 zw_548 zw_5 zw_549 (by decide +kernel) ⟨rfl, rfl⟩ ⟨(Nat.le_of_ble_eq_true rfl), (Nat.le_of_ble_eq_true rfl)⟩ hl.1 rfl (by rfl) (by rfl) (Nat.le_of_ble_eq_true rfl) dX12_reads_194 ⟨Nat.zero_le _, Nat.zero_le _⟩ (fun H locs hz32 hG hS => ?_)
                        refine lv_if_eq (tgt := 210) hx hb dX12_reads_197 (by decide) (fun c33 => ?_) (fun c33 => ?_)
                        · have hf := zif_p c33 hf
                          refine lv_aload_n hx hb dX12_reads_210 rfl (lv_at hl 0 rfl) ?_
                          refine lv_ldc2 (v := 1987015781) hx hb hown (hts _ zw_543) dX12_reads_211 ?_
                          obtain ⟨q34, eq34, hf⟩ := zbi hf
                          refine z_callV (n := 1) (rest := []) (st1 := [.int q34.1]) (c0 := 12) (i0 := 0) (hZ.2.1 (12, 0) (by decide)) (by rfl) S hG hS hZ (fun _ _ h => h) (c_X12_takes l D aC zs A nl ad q31.2 1987015781 q34.1 q34.2 eq34) zw_546 zw_547 zw_548 zw_5 zw_549 (by decide +kernel) ⟨rfl, rfl⟩ ⟨(Nat.le_of_ble_eq_true rfl), (Nat.le_of_ble_eq_true rfl)⟩ hl.1 rfl (by rfl) (by rfl) (Nat.le_of_ble_eq_true rfl) dX12_reads_214 ⟨Nat.zero_le _, Nat.zero_le _⟩ (fun H locs hz35 hG hS => ?_)
                          refine lv_if_eq (tgt := 226) hx hb dX12_reads_217 (by decide) (fun c36 => ?_) (fun c36 => ?_)
                          · have hf := zif_p c36 hf
                            refine lv_aload_n hx hb dX12_reads_226 rfl (lv_at hl 0 rfl) ?_
                            refine lv_ldc2 (v := 7629157) hx hb hown (hts _ zw_544) dX12_reads_227 ?_
                            obtain ⟨q37, eq37, hf⟩ := zbi hf
                            refine z_callV (n := 1) (rest := []) (st1 := [.int q37.1]) (c0 := 12) (i0 := 0) (hZ.2.1 (12, 0) (by decide)) (by rfl) S hG hS hZ (fun _ _ h => h) (c_X12_takes l D aC zs A nl ad q34.2 7629157 q37.1 q37.2 eq37) zw_546 zw_547 zw_548 zw_5 zw_549 (by decide +kernel) ⟨rfl, rfl⟩ ⟨(Nat.le_of_ble_eq_true rfl), (Nat.le_of_ble_eq_true rfl)⟩ hl.1 rfl (by rfl) (by rfl) (Nat.le_of_ble_eq_true rfl) dX12_reads_230 ⟨Nat.zero_le _, Nat.zero_le _⟩ (fun H locs hz38 hG hS => ?_)
                            refine lv_if_eq (tgt := 242) hx hb dX12_reads_233 (by decide) (fun c39 => ?_) (fun c39 => ?_)
                            · have hf := zif_p c39 hf
                              refine lv_aload_n hx hb dX12_reads_242 rfl (lv_at hl 0 rfl) ?_
                              refine lv_ldc2 (v := 6710629) hx hb hown (hts _ zw_545) dX12_reads_243 ?_
                              obtain ⟨q40, eq40, hf⟩ := zbi hf
                              refine z_callV (n := 1) (rest := []) (st1 := [.int q40.1]) (c0 := 12) (i0 := 0) (hZ.2.1 (12, 0) (by decide)) (by rfl) S hG hS hZ (fun _ _ h => h) (c_X12_takes l D aC zs A nl ad q37.2 6710629 q40.1 q40.2 eq40) zw_546 zw_547 zw_548 zw_5 zw_549 (by decide +kernel) ⟨rfl, rfl⟩ ⟨(Nat.le_of_ble_eq_true rfl), (Nat.le_of_ble_eq_true rfl)⟩ hl.1 rfl (by rfl) (by rfl) (Nat.le_of_ble_eq_true rfl) dX12_reads_246 ⟨Nat.zero_le _, Nat.zero_le _⟩ (fun H locs hz41 hG hS => ?_)
                              refine lv_if_eq (tgt := 264) hx hb dX12_reads_249 (by decide) (fun c42 => ?_) (fun c42 => ?_)
                              · have hf := zif_p c42 hf
                                refine lv_iconst (v := 0) hx hb dX12_reads_264 (by decide) ?_
                                obtain ⟨hq1, hq2⟩ := Prod.mk.inj (Option.some.inj hf)
                                subst hq1
                                subst hq2
                                exact z_zret S hG hS hlocks (Or.inl rfl) hr dX12_reads_265
                              · have hf := zif_n c42 hf
                                refine lv_aload_n hx hb dX12_reads_252 rfl (lv_at hl 0 rfl) ?_
                                refine lv_iload_n hx hb dX12_reads_253 rfl (lv_at hl 1 rfl) ?_
                                obtain ⟨q43, eq43, hf⟩ := zbi hf
                                refine z_callV (n := 1) (rest := []) (st1 := [.int q43.1]) (c0 := 12) (i0 := 0) (hZ.2.1 (12, 0) (by decide)) (by rfl) S hG hS hZ (fun _ _ h => h) (c_X12_fees l D aC zs A nl ad q40.2 x1 q43.1 q43.2 eq43) zw_655 zw_656 zw_657 zw_5 zw_658 (by decide +kernel) ⟨rfl, rfl⟩ ⟨(Nat.le_of_ble_eq_true rfl), (Nat.le_of_ble_eq_true rfl)⟩ hl.1 rfl (by rfl) (by rfl) (Nat.le_of_ble_eq_true rfl) dX12_reads_254 ⟨Nat.zero_le _, Nat.zero_le _⟩ (fun H locs hz44 hG hS => ?_)
                                refine lv_if_eq (tgt := 264) hx hb dX12_reads_257 (by decide) (fun c45 => ?_) (fun c45 => ?_)
                                · have hf := zif_p c45 hf
                                  refine lv_iconst (v := 0) hx hb dX12_reads_264 (by decide) ?_
                                  obtain ⟨hq1, hq2⟩ := Prod.mk.inj (Option.some.inj hf)
                                  subst hq1
                                  subst hq2
                                  exact z_zret S hG hS hlocks (Or.inl rfl) hr dX12_reads_265
                                · have hf := zif_n c45 hf
                                  refine lv_iconst (v := 1) hx hb dX12_reads_260 (by decide) ?_
                                  refine lv_goto (tgt := 265) hx hb dX12_reads_261 (by decide) ?_
                                  obtain ⟨hq1, hq2⟩ := Prod.mk.inj (Option.some.inj hf)
                                  subst hq1
                                  subst hq2
                                  exact z_zret S hG hS hlocks (Or.inr rfl) hr dX12_reads_265
                            · have hf := zif_n c39 hf
                              refine lv_aload_n hx hb dX12_reads_236 rfl (lv_at hl 0 rfl) ?_
                              refine lv_iload_n hx hb dX12_reads_237 rfl (lv_at hl 1 rfl) ?_
                              obtain ⟨q46, eq46, hf⟩ := zbi hf
                              refine z_callV (n := 1) (rest := []) (st1 := [.int q46.1]) (c0 := 12) (i0 := 0) (hZ.2.1 (12, 0) (by decide)) (by rfl) S hG hS hZ (fun _ _ h => h) (c_X12_ties l D aC zs A nl ad q37.2 x1 q46.1 q46.2 eq46) zw_651 zw_652 zw_653 zw_5 zw_654 (by decide +kernel) ⟨rfl, rfl⟩ ⟨(Nat.le_of_ble_eq_true rfl), (Nat.le_of_ble_eq_true rfl)⟩ hl.1 rfl (by rfl) (by rfl) (Nat.le_of_ble_eq_true rfl) dX12_reads_238 ⟨Nat.zero_le _, Nat.zero_le _⟩ (fun H locs hz47 hG hS => ?_)
                              obtain ⟨hq1, hq2⟩ := Prod.mk.inj (Option.some.inj hf)
                              subst hq1
                              subst hq2
                              exact z_zret S hG hS hlocks hz47 hr dX12_reads_241
                          · have hf := zif_n c36 hf
                            refine lv_aload_n hx hb dX12_reads_220 rfl (lv_at hl 0 rfl) ?_
                            refine lv_iload_n hx hb dX12_reads_221 rfl (lv_at hl 1 rfl) ?_
                            obtain ⟨q48, eq48, hf⟩ := zbi hf
                            refine z_callV (n := 1) (rest := []) (st1 := [.int q48.1]) (c0 := 12) (i0 := 0) (hZ.2.1 (12, 0) (by decide)) (by rfl) S hG hS hZ (fun _ _ h => h) (c_X12_votes l D aC zs A nl ad q34.2 x1 q48.1 q48.2 eq48) zw_647 zw_648 zw_649 zw_5 zw_650 (by decide +kernel) ⟨rfl, rfl⟩ ⟨(Nat.le_of_ble_eq_true rfl), (Nat.le_of_ble_eq_true rfl)⟩ hl.1 rfl (by rfl) (by rfl) (Nat.le_of_ble_eq_true rfl) dX12_reads_222 ⟨Nat.zero_le _, Nat.zero_le _⟩ (fun H locs hz49 hG hS => ?_)
                            obtain ⟨hq1, hq2⟩ := Prod.mk.inj (Option.some.inj hf)
                            subst hq1
                            subst hq2
                            exact z_zret S hG hS hlocks hz49 hr dX12_reads_225
                        · have hf := zif_n c33 hf
                          refine lv_aload_n hx hb dX12_reads_200 rfl (lv_at hl 0 rfl) ?_
                          refine lv_iload_n hx hb dX12_reads_201 rfl (lv_at hl 1 rfl) ?_
                          refine lv_iconst (v := 5) hx hb dX12_reads_202 (by decide) ?_
                          refine lv_iconst (v := 1) hx hb dX12_reads_203 (by decide) ?_
                          refine lv_bipush (v := 10) hx hb dX12_reads_204 (by decide) ?_
                          obtain ⟨q50, eq50, hf⟩ := zbi hf
                          refine z_callV (n := 4) (rest := []) (st1 := [.int q50.1]) (c0 := 12) (i0 := 0) (hZ.2.1 (12, 0) (by decide)) (by rfl) S hG hS hZ (fun _ _ h => h) (c_X12_plain l D aC zs A nl ad q31.2 x1 5 1 10 q50.1 q50.2 eq50) zw_614 zw_615 zw_616 zw_5 zw_617 (by decide +kernel) ⟨rfl, rfl⟩ ⟨(Nat.le_of_ble_eq_true rfl), (Nat.le_of_ble_eq_true rfl)⟩ hl.1 rfl (by rfl) (by rfl) (Nat.le_of_ble_eq_true rfl) dX12_reads_206 ⟨Nat.zero_le _, Nat.zero_le _⟩ (fun H locs hz51 hG hS => ?_)
                          obtain ⟨hq1, hq2⟩ := Prod.mk.inj (Option.some.inj hf)
                          subst hq1
                          subst hq2
                          exact z_zret S hG hS hlocks hz51 hr dX12_reads_209
                      · have hf := zif_n c30 hf
                        refine lv_aload_n hx hb dX12_reads_179 rfl (lv_at hl 0 rfl) ?_
                        refine lv_iload_n hx hb dX12_reads_180 rfl (lv_at hl 1 rfl) ?_
                        refine lv_iconst (v := 4) hx hb dX12_reads_181 (by decide) ?_
                        refine lv_iconst (v := 0) hx hb dX12_reads_182 (by decide) ?_
                        refine lv_ldcw (v := 999999) hx hb hown (hts _ zw_541) dX12_reads_183 ?_
                        obtain ⟨q52, eq52, hf⟩ := zbi hf
                        refine z_callV (n := 4) (rest := []) (st1 := [.int q52.1]) (c0 := 12) (i0 := 0) (hZ.2.1 (12, 0) (by decide)) (by rfl) S hG hS hZ (fun _ _ h => h) (c_X12_plain l D aC zs A nl ad q28.2 x1 4 0 999999 q52.1 q52.2 eq52) zw_614 zw_615 zw_616 zw_5 zw_617 (by decide +kernel) ⟨rfl, rfl⟩ ⟨(Nat.le_of_ble_eq_true rfl), (Nat.le_of_ble_eq_true rfl)⟩ hl.1 rfl (by rfl) (by rfl) (Nat.le_of_ble_eq_true rfl) dX12_reads_186 ⟨Nat.zero_le _, Nat.zero_le _⟩ (fun H locs hz53 hG hS => ?_)
                        obtain ⟨hq1, hq2⟩ := Prod.mk.inj (Option.some.inj hf)
                        subst hq1
                        subst hq2
                        exact z_zret S hG hS hlocks hz53 hr dX12_reads_189
                    · have hf := zif_n c27 hf
                      refine lv_aload_n hx hb dX12_reads_163 rfl (lv_at hl 0 rfl) ?_
                      refine lv_iload_n hx hb dX12_reads_164 rfl (lv_at hl 1 rfl) ?_
                      obtain ⟨q54, eq54, hf⟩ := zbi hf
                      refine z_callV (n := 1) (rest := []) (st1 := [.int q54.1]) (c0 := 12) (i0 := 0) (hZ.2.1 (12, 0) (by decide)) (by rfl) S hG hS hZ (fun _ _ h => h) (c_X12_outs l D aC zs A nl ad q25.2 x1 q54.1 q54.2 eq54) zw_622 zw_623 zw_624 zw_5 zw_625 (by decide +kernel) ⟨rfl, rfl⟩ ⟨(Nat.le_of_ble_eq_true rfl), (Nat.le_of_ble_eq_true rfl)⟩ hl.1 rfl (by rfl) (by rfl) (Nat.le_of_ble_eq_true rfl) dX12_reads_165 ⟨Nat.zero_le _, Nat.zero_le _⟩ (fun H locs hz55 hG hS => ?_)
                      obtain ⟨hq1, hq2⟩ := Prod.mk.inj (Option.some.inj hf)
                      subst hq1
                      subst hq2
                      exact z_zret S hG hS hlocks hz55 hr dX12_reads_168
                  · have hf := zif_n c24 hf
                    refine lv_aload_n hx hb dX12_reads_147 rfl (lv_at hl 0 rfl) ?_
                    refine lv_iload_n hx hb dX12_reads_148 rfl (lv_at hl 1 rfl) ?_
                    obtain ⟨q56, eq56, hf⟩ := zbi hf
                    refine z_callV (n := 1) (rest := []) (st1 := [.int q56.1]) (c0 := 12) (i0 := 0) (hZ.2.1 (12, 0) (by decide)) (by rfl) S hG hS hZ (fun _ _ h => h) (c_X12_costs l D aC zs A nl ad q22.2 x1 q56.1 q56.2 eq56) zw_618 zw_619 zw_620 zw_5 zw_621 (by decide +kernel) ⟨rfl, rfl⟩ ⟨(Nat.le_of_ble_eq_true rfl), (Nat.le_of_ble_eq_true rfl)⟩ hl.1 rfl (by rfl) (by rfl) (Nat.le_of_ble_eq_true rfl) dX12_reads_149 ⟨Nat.zero_le _, Nat.zero_le _⟩ (fun H locs hz57 hG hS => ?_)
                    obtain ⟨hq1, hq2⟩ := Prod.mk.inj (Option.some.inj hf)
                    subst hq1
                    subst hq2
                    exact z_zret S hG hS hlocks hz57 hr dX12_reads_152
                · have hf := zif_n c21 hf
                  refine lv_aload_n hx hb dX12_reads_126 rfl (lv_at hl 0 rfl) ?_
                  refine lv_iload_n hx hb dX12_reads_127 rfl (lv_at hl 1 rfl) ?_
                  refine lv_iconst (v := 2) hx hb dX12_reads_128 (by decide) ?_
                  refine lv_iconst (v := 0) hx hb dX12_reads_129 (by decide) ?_
                  refine lv_sipush (v := 9999) hx hb dX12_reads_130 (by decide) ?_
                  obtain ⟨q58, eq58, hf⟩ := zbi hf
                  refine z_callV (n := 4) (rest := []) (st1 := [.int q58.1]) (c0 := 12) (i0 := 0) (hZ.2.1 (12, 0) (by decide)) (by rfl) S hG hS hZ (fun _ _ h => h) (c_X12_plain l D aC zs A nl ad q19.2 x1 2 0 9999 q58.1 q58.2 eq58) zw_614 zw_615 zw_616 zw_5 zw_617 (by decide +kernel) ⟨rfl, rfl⟩ ⟨(Nat.le_of_ble_eq_true rfl), (Nat.le_of_ble_eq_true rfl)⟩ hl.1 rfl (by rfl) (by rfl) (Nat.le_of_ble_eq_true rfl) dX12_reads_133 ⟨Nat.zero_le _, Nat.zero_le _⟩ (fun H locs hz59 hG hS => ?_)
                  obtain ⟨hq1, hq2⟩ := Prod.mk.inj (Option.some.inj hf)
                  subst hq1
                  subst hq2
                  exact z_zret S hG hS hlocks hz59 hr dX12_reads_136
              · have hf := zif_n c18 hf
                refine lv_aload_n hx hb dX12_reads_105 rfl (lv_at hl 0 rfl) ?_
                refine lv_iload_n hx hb dX12_reads_106 rfl (lv_at hl 1 rfl) ?_
                refine lv_iconst (v := 1) hx hb dX12_reads_107 (by decide) ?_
                refine lv_iconst (v := 0) hx hb dX12_reads_108 (by decide) ?_
                refine lv_sipush (v := 9999) hx hb dX12_reads_109 (by decide) ?_
                obtain ⟨q60, eq60, hf⟩ := zbi hf
                refine z_callV (n := 4) (rest := []) (st1 := [.int q60.1]) (c0 := 12) (i0 := 0) (hZ.2.1 (12, 0) (by decide)) (by rfl) S hG hS hZ (fun _ _ h => h) (c_X12_plain l D aC zs A nl ad q16.2 x1 1 0 9999 q60.1 q60.2 eq60) zw_614 zw_615 zw_616 zw_5 zw_617 (by decide +kernel) ⟨rfl, rfl⟩ ⟨(Nat.le_of_ble_eq_true rfl), (Nat.le_of_ble_eq_true rfl)⟩ hl.1 rfl (by rfl) (by rfl) (Nat.le_of_ble_eq_true rfl) dX12_reads_112 ⟨Nat.zero_le _, Nat.zero_le _⟩ (fun H locs hz61 hG hS => ?_)
                obtain ⟨hq1, hq2⟩ := Prod.mk.inj (Option.some.inj hf)
                subst hq1
                subst hq2
                exact z_zret S hG hS hlocks hz61 hr dX12_reads_115
            · have hf := zif_n c15 hf
              refine lv_aload_n hx hb dX12_reads_84 rfl (lv_at hl 0 rfl) ?_
              refine lv_iload_n hx hb dX12_reads_85 rfl (lv_at hl 1 rfl) ?_
              refine lv_iconst (v := 0) hx hb dX12_reads_86 (by decide) ?_
              refine lv_iconst (v := 0) hx hb dX12_reads_87 (by decide) ?_
              refine lv_sipush (v := 9999) hx hb dX12_reads_88 (by decide) ?_
              obtain ⟨q62, eq62, hf⟩ := zbi hf
              refine z_callV (n := 4) (rest := []) (st1 := [.int q62.1]) (c0 := 12) (i0 := 0) (hZ.2.1 (12, 0) (by decide)) (by rfl) S hG hS hZ (fun _ _ h => h) (c_X12_plain l D aC zs A nl ad q13.2 x1 0 0 9999 q62.1 q62.2 eq62) zw_614 zw_615 zw_616 zw_5 zw_617 (by decide +kernel) ⟨rfl, rfl⟩ ⟨(Nat.le_of_ble_eq_true rfl), (Nat.le_of_ble_eq_true rfl)⟩ hl.1 rfl (by rfl) (by rfl) (Nat.le_of_ble_eq_true rfl) dX12_reads_91 ⟨Nat.zero_le _, Nat.zero_le _⟩ (fun H locs hz63 hG hS => ?_)
              obtain ⟨hq1, hq2⟩ := Prod.mk.inj (Option.some.inj hf)
              subst hq1
              subst hq2
              exact z_zret S hG hS hlocks hz63 hr dX12_reads_94
          · have hf := zif_n c12 hf
            refine lv_aload_n hx hb dX12_reads_68 rfl (lv_at hl 0 rfl) ?_
            refine lv_iload_n hx hb dX12_reads_69 rfl (lv_at hl 1 rfl) ?_
            obtain ⟨q64, eq64, hf⟩ := zbi hf
            refine z_callV (n := 1) (rest := []) (st1 := [.int q64.1]) (c0 := 12) (i0 := 0) (hZ.2.1 (12, 0) (by decide)) (by rfl) S hG hS hZ (fun _ _ h => h) (c_X12_rates l D aC zs A nl ad q10.2 x1 q64.1 q64.2 eq64) zw_610 zw_611 zw_612 zw_5 zw_613 (by decide +kernel) ⟨rfl, rfl⟩ ⟨(Nat.le_of_ble_eq_true rfl), (Nat.le_of_ble_eq_true rfl)⟩ hl.1 rfl (by rfl) (by rfl) (Nat.le_of_ble_eq_true rfl) dX12_reads_70 ⟨Nat.zero_le _, Nat.zero_le _⟩ (fun H locs hz65 hG hS => ?_)
            obtain ⟨hq1, hq2⟩ := Prod.mk.inj (Option.some.inj hf)
            subst hq1
            subst hq2
            exact z_zret S hG hS hlocks hz65 hr dX12_reads_73
        · have hf := zif_n c9 hf
          refine lv_aload_n hx hb dX12_reads_47 rfl (lv_at hl 0 rfl) ?_
          refine lv_iload_n hx hb dX12_reads_48 rfl (lv_at hl 1 rfl) ?_
          refine lv_bipush (v := 13) hx hb dX12_reads_49 (by decide) ?_
          refine lv_ldc2 (v := 25209) hx hb hown (hts _ zw_533) dX12_reads_51 ?_
          obtain ⟨q66, eq66, hf⟩ := zbi hf
          refine z_callV (n := 3) (rest := []) (st1 := [.int q66.1]) (c0 := 12) (i0 := 0) (hZ.2.1 (12, 0) (by decide)) (by rfl) S hG hS hZ (fun _ _ h => h) (c_X12_pairs l D aC zs A nl ad q7.2 x1 13 25209 q66.1 q66.2 eq66) zw_602 zw_603 zw_604 zw_5 zw_605 (by decide +kernel) ⟨rfl, rfl⟩ ⟨(Nat.le_of_ble_eq_true rfl), (Nat.le_of_ble_eq_true rfl)⟩ hl.1 rfl (by rfl) (by rfl) (Nat.le_of_ble_eq_true rfl) dX12_reads_54 ⟨Nat.zero_le _, Nat.zero_le _⟩ (fun H locs hz67 hG hS => ?_)
          obtain ⟨hq1, hq2⟩ := Prod.mk.inj (Option.some.inj hf)
          subst hq1
          subst hq2
          exact z_zret S hG hS hlocks hz67 hr dX12_reads_57
      · have hf := zif_n c6 hf
        refine lv_aload_n hx hb dX12_reads_26 rfl (lv_at hl 0 rfl) ?_
        refine lv_iload_n hx hb dX12_reads_27 rfl (lv_at hl 1 rfl) ?_
        refine lv_bipush (v := 12) hx hb dX12_reads_28 (by decide) ?_
        refine lv_ldc2 (v := 131294808271214) hx hb hown (hts _ zw_531) dX12_reads_30 ?_
        obtain ⟨q68, eq68, hf⟩ := zbi hf
        refine z_callV (n := 3) (rest := []) (st1 := [.int q68.1]) (c0 := 12) (i0 := 0) (hZ.2.1 (12, 0) (by decide)) (by rfl) S hG hS hZ (fun _ _ h => h) (c_X12_pairs l D aC zs A nl ad q4.2 x1 12 131294808271214 q68.1 q68.2 eq68) zw_602 zw_603 zw_604 zw_5 zw_605 (by decide +kernel) ⟨rfl, rfl⟩ ⟨(Nat.le_of_ble_eq_true rfl), (Nat.le_of_ble_eq_true rfl)⟩ hl.1 rfl (by rfl) (by rfl) (Nat.le_of_ble_eq_true rfl) dX12_reads_33 ⟨Nat.zero_le _, Nat.zero_le _⟩ (fun H locs hz69 hG hS => ?_)
        obtain ⟨hq1, hq2⟩ := Prod.mk.inj (Option.some.inj hf)
        subst hq1
        subst hq2
        exact z_zret S hG hS hlocks hz69 hr dX12_reads_36
    · have hf := zif_n c3 hf
      refine lv_aload_n hx hb dX12_reads_10 rfl (lv_at hl 0 rfl) ?_
      refine lv_iload_n hx hb dX12_reads_11 rfl (lv_at hl 1 rfl) ?_
      obtain ⟨q70, eq70, hf⟩ := zbi hf
      refine z_callV (n := 1) (rest := []) (st1 := [.int q70.1]) (c0 := 12) (i0 := 0) (hZ.2.1 (12, 0) (by decide)) (by rfl) S hG hS hZ (fun _ _ h => h) (c_X12_rooms l D aC zs A nl ad q1.2 x1 q70.1 q70.2 eq70) zw_555 zw_556 zw_557 zw_5 zw_558 (by decide +kernel) ⟨rfl, rfl⟩ ⟨(Nat.le_of_ble_eq_true rfl), (Nat.le_of_ble_eq_true rfl)⟩ hl.1 rfl (by rfl) (by rfl) (Nat.le_of_ble_eq_true rfl) dX12_reads_12 ⟨Nat.zero_le _, Nat.zero_le _⟩ (fun H locs hz71 hG hS => ?_)
      obtain ⟨hq1, hq2⟩ := Prod.mk.inj (Option.some.inj hf)
      subst hq1
      subst hq2
      exact z_zret S hG hS hlocks hz71 hr dX12_reads_15
  exact hK0 _ _ ls hG hS hl hf
set_option maxRecDepth 100000 in
set_option maxHeartbeats 4000000 in
theorem c_X12_brief (l : Launch) (D : va_G) (aC : Nat → ClassId) (zs : Nat × Nat) (A : Nat → Prop) (nl : zNL) (ad : Nat → Nat → Nat → Nat) (σ : zM) (x1 : Int32) (r : Int32) (σ' : zM)  (hf : f_X12_brief σ x1 = some (r, σ')) : Met l yX12_brief (Cond.code yX12_brief cX12_brief 5 (some .int) :: wsL_law) ({ frames := 66, cells := 0, slots := 0, locals := 1510 } : Room) (zP D aC zs zfM A nl ad σ [.ref (ad 12 0 0), .int x1]) (zQ (some (.int r)) (fun t => zG D aC A nl ad σ' t t.heap ∧ True) A) 0 0 A := by
  refine Met.ofW (cc := cX12_brief) (maxL := 5) (ret := (some .int)) (by decide) rfl ?_
  intro p e s m args below meth c s₁ B hml hv
  obtain ⟨rfl, hG, hZ⟩ := hv
  have hx := B.exec
  have hb := B.bytes
  have hr := B.returns
  have hts : ∀ w ∈ wsL_law, w.before ([.ref (ad 12 0 0), .int x1] : List Value).toArray s = true := fun w h => (atoms_spec B.pre) w (List.mem_cons_of_mem _ h)
  have hown : s.vm.findClass RX12 = some m.cls := findClass_of_methodNamed B.named
  have hlocks := B.notSynchronized
  have S : zS p m c cX12_brief 5 s ([.ref (ad 12 0 0), .int x1] : List Value).toArray RX12 := ⟨hx, hb, hml, hown, hts⟩
  have hS : va_S A s.heap s.heap [] := va_S.rf
  have hl := lv_entry ([.ref (ad 12 0 0), .int x1]) (n := 5) (Nat.le_of_ble_eq_true rfl)
  rw [lg_entry_eq]
  generalize (lg_sl ([.ref (ad 12 0 0), .int x1]) ++ List.replicate (5 - (lg_sl ([.ref (ad 12 0 0), .int x1])).length) Slot.unset).toArray = ls at hl ⊢
  have hl : lv_has ls 5 [(0, .ref (ad 12 0 0)), (1, .int x1)] := hl
  generalize hargs : ([.ref (ad 12 0 0), .int x1] : List Value).toArray = args at S hts ⊢
  clear hargs
  have KJ176 : ∀ (y2b176 : Int32) (y3b176 : Int32) (y4b176 : Int32) (t1b176 : Int32)  (σb176 : zM) (H : Heap) (locs : List Loc) (ls : Array Slot), zG D aC A nl ad σb176 s H → va_S A s.heap H locs → lv_has ls 5 [(0, .ref (ad 12 0 0)), (1, .int x1), (2, .int y2b176), (3, .int y3b176), (4, .int y4b176)] → (f_X12_brief_B176 σb176 x1 y2b176 y3b176 y4b176 t1b176) = some (r, σ') → zWk p l e ({ frames := 66, cells := 0, slots := 0, locals := 1510 } : Room) s m args below meth c A (some (.int r)) (fun t => zG D aC A nl ad σ' t t.heap ∧ True) H locs (F0 m 176 ls [.int t1b176, .ref (ad 12 0 0)]) := by
    intro y2b176 y3b176 y4b176 t1b176  σb176 H locs ls hG hS hl hf
    unfold f_X12_brief_B176 at hf
    refine z_putI (c0 := 12) (i0 := 0) (k0 := 24) (T := TX12) S hG hS tyX12 tyX12_ok nmX12 (hZ.2.1 (12, 0) (by decide)) rfl inlX12 (by decide) rfl rfl zw_236 (by decide +kernel) rfl dX12_brief_176 (fun H locs hG hS => ?_)
    obtain ⟨σ13, eσ13, hf⟩ := zlt_s hf
    rw [← eσ13] at hG
    refine lv_iload hx hb dX12_brief_179 (lv_at hl 4 rfl) ?_
    refine lv_if_ne (tgt := 196) hx hb dX12_brief_181 (by decide) (fun c14 => ?_) (fun c14 => ?_)
    · have hf := zif_n c14 hf
      refine lv_aload_n hx hb dX12_brief_196 rfl (lv_at hl 0 rfl) ?_
      refine z_get (c0 := 12) (i0 := 0) (k0 := 26) (T := TX12) (v := .ref (ad 12 0 27)) S hG (hZ.2.1 (12, 0) (by decide)) rfl inlX12 (by decide) rfl zw_238 rfl dX12_brief_197 ?_
      refine lv_aload_n hx hb dX12_brief_200 rfl (lv_at hl 0 rfl) ?_
      refine z_get (c0 := 12) (i0 := 0) (k0 := 16) (T := TX12) (v := .int (zI σ13 12 0 16)) S hG (hZ.2.1 (12, 0) (by decide)) rfl inlX12 (by decide) rfl zw_508 rfl dX12_brief_201 ?_
      refine lv_aload_n hx hb dX12_brief_204 rfl (lv_at hl 0 rfl) ?_
      refine z_get (c0 := 12) (i0 := 0) (k0 := 0) (T := TX12) (v := .int (zI σ13 12 0 0)) S hG (hZ.2.1 (12, 0) (by decide)) rfl inlX12 (by decide) rfl zw_278 rfl dX12_brief_205 ?_
      obtain ⟨i15, hi15, hf⟩ := zbi hf
      refine z_iast (c0 := 12) (i0 := 0) (k0 := 26) S hG hS (hZ.2.1 (12, 0) (by decide)) (by decide) rfl hi15 dX12_brief_208 (fun H locs hG hS => ?_)
      obtain ⟨σ16, eσ16, hf⟩ := zlt_s hf
      rw [← eσ16] at hG
      refine lv_aload_n hx hb dX12_brief_209 rfl (lv_at hl 0 rfl) ?_
      refine lv_dup hx hb dX12_brief_210 rfl ?_
      refine z_get (c0 := 12) (i0 := 0) (k0 := 16) (T := TX12) (v := .int (zI σ16 12 0 16)) S hG (hZ.2.1 (12, 0) (by decide)) rfl inlX12 (by decide) rfl zw_508 rfl dX12_brief_211 ?_
      refine lv_iconst (v := 1) hx hb dX12_brief_214 (by decide) ?_
      refine lv_iadd hx hb dX12_brief_215 ?_
      refine z_putI (c0 := 12) (i0 := 0) (k0 := 16) (T := TX12) S hG hS tyX12 tyX12_ok nmX12 (hZ.2.1 (12, 0) (by decide)) rfl inlX12 (by decide) rfl rfl zw_508 (by decide +kernel) rfl dX12_brief_216 (fun H locs hG hS => ?_)
      obtain ⟨σ17, eσ17, hf⟩ := zlt_s hf
      rw [← eσ17] at hG
      refine lv_aload_n hx hb dX12_brief_219 rfl (lv_at hl 0 rfl) ?_
      refine lv_dup hx hb dX12_brief_220 rfl ?_
      refine z_get (c0 := 12) (i0 := 0) (k0 := 2) (T := TX12) (v := .int (zI σ17 12 0 2)) S hG (hZ.2.1 (12, 0) (by decide)) rfl inlX12 (by decide) rfl zw_224 rfl dX12_brief_221 ?_
      refine lv_iconst (v := 1) hx hb dX12_brief_224 (by decide) ?_
      refine lv_iadd hx hb dX12_brief_225 ?_
      refine z_putI (c0 := 12) (i0 := 0) (k0 := 2) (T := TX12) S hG hS tyX12 tyX12_ok nmX12 (hZ.2.1 (12, 0) (by decide)) rfl inlX12 (by decide) rfl rfl zw_224 (by decide +kernel) rfl dX12_brief_226 (fun H locs hG hS => ?_)
      obtain ⟨σ18, eσ18, hf⟩ := zlt_s hf
      rw [← eσ18] at hG
      refine lv_aload_n hx hb dX12_brief_229 rfl (lv_at hl 0 rfl) ?_
      refine z_get (c0 := 12) (i0 := 0) (k0 := 16) (T := TX12) (v := .int (zI σ18 12 0 16)) S hG (hZ.2.1 (12, 0) (by decide)) rfl inlX12 (by decide) rfl zw_508 rfl dX12_brief_230 ?_
      refine lv_iconst (v := 1) hx hb dX12_brief_233 (by decide) ?_
      refine lv_isub hx hb dX12_brief_234 ?_
      obtain ⟨hq1, hq2⟩ := Prod.mk.inj (Option.some.inj hf)
      subst hq1
      subst hq2
      exact z_iret S hG hS hlocks trivial hr dX12_brief_235
    · have hf := zif_p c14 hf
      refine lv_aload_n hx hb dX12_brief_184 rfl (lv_at hl 0 rfl) ?_
      refine lv_iload_n hx hb dX12_brief_185 rfl (lv_at hl 2 rfl) ?_
      refine z_putI (c0 := 12) (i0 := 0) (k0 := 18) (T := TX12) S hG hS tyX12 tyX12_ok nmX12 (hZ.2.1 (12, 0) (by decide)) rfl inlX12 (by decide) rfl rfl zw_509 (by decide +kernel) rfl dX12_brief_186 (fun H locs hG hS => ?_)
      obtain ⟨σ19, eσ19, hf⟩ := zlt_s hf
      rw [← eσ19] at hG
      refine lv_aload_n hx hb dX12_brief_189 rfl (lv_at hl 0 rfl) ?_
      refine lv_iload_n hx hb dX12_brief_190 rfl (lv_at hl 3 rfl) ?_
      refine z_putI (c0 := 12) (i0 := 0) (k0 := 17) (T := TX12) S hG hS tyX12 tyX12_ok nmX12 (hZ.2.1 (12, 0) (by decide)) rfl inlX12 (by decide) rfl rfl zw_510 (by decide +kernel) rfl dX12_brief_191 (fun H locs hG hS => ?_)
      obtain ⟨σ20, eσ20, hf⟩ := zlt_s hf
      rw [← eσ20] at hG
      refine lv_iconst (v := (-1)) hx hb dX12_brief_194 (by decide) ?_
      obtain ⟨hq1, hq2⟩ := Prod.mk.inj (Option.some.inj hf)
      subst hq1
      subst hq2
      exact z_iret S hG hS hlocks trivial hr dX12_brief_195
  have KJ162 : ∀ (y2b162 : Int32) (y3b162 : Int32) (y4b162 : Int32)  (σb162 : zM) (H : Heap) (locs : List Loc) (ls : Array Slot), zG D aC A nl ad σb162 s H → va_S A s.heap H locs → lv_has ls 5 [(0, .ref (ad 12 0 0)), (1, .int x1), (2, .int y2b162), (3, .int y3b162), (4, .int y4b162)] → (f_X12_brief_B162 σb162 x1 y2b162 y3b162 y4b162) = some (r, σ') → zWk p l e ({ frames := 66, cells := 0, slots := 0, locals := 1510 } : Room) s m args below meth c A (some (.int r)) (fun t => zG D aC A nl ad σ' t t.heap ∧ True) H locs (F0 m 162 ls []) := by
    intro y2b162 y3b162 y4b162  σb162 H locs ls hG hS hl hf
    unfold f_X12_brief_B162 at hf
    refine lv_aload_n hx hb dX12_brief_162 rfl (lv_at hl 0 rfl) ?_
    refine lv_iload hx hb dX12_brief_163 (lv_at hl 4 rfl) ?_
    refine lv_if_eq (tgt := 172) hx hb dX12_brief_165 (by decide) (fun c12 => ?_) (fun c12 => ?_)
    · have hf := zif_p c12 hf
      refine lv_aload_n hx hb dX12_brief_172 rfl (lv_at hl 0 rfl) ?_
      refine z_get (c0 := 12) (i0 := 0) (k0 := 21) (T := TX12) (v := .int (zI σb162 12 0 21)) S hG (hZ.2.1 (12, 0) (by decide)) rfl inlX12 (by decide) rfl zw_512 rfl dX12_brief_173 ?_
      exact KJ176 y2b162 y3b162 y4b162 (zI σb162 12 0 21) σb162 H locs ls hG hS (lv_sub hl [0, 1, 2, 3, 4] rfl) hf
    · have hf := zif_n c12 hf
      refine lv_iconst (v := (-1)) hx hb dX12_brief_168 (by decide) ?_
      refine lv_goto (tgt := 176) hx hb dX12_brief_169 (by decide) ?_
      exact KJ176 y2b162 y3b162 y4b162 (-1) σb162 H locs ls hG hS (lv_sub hl [0, 1, 2, 3, 4] rfl) hf
  have hK0 : ∀ (H : Heap) (locs : List Loc) (ls : Array Slot), zG D aC A nl ad σ s H → va_S A s.heap H locs → lv_has ls 5 [(0, .ref (ad 12 0 0)), (1, .int x1)] → f_X12_brief σ x1 = some (r, σ') → zWk p l e ({ frames := 66, cells := 0, slots := 0, locals := 1510 } : Room) s m args below meth c A (some (.int r)) (fun t => zG D aC A nl ad σ' t t.heap ∧ True) H locs (F0 m 0 ls []) := by
    intro H locs ls hG hS hl hf
    unfold f_X12_brief at hf
    refine lv_iload_n hx hb dX12_brief_0 rfl (lv_at hl 1 rfl) ?_
    refine lv_iconst (v := 0) hx hb dX12_brief_1 (by decide) ?_
    refine lv_aload_n hx hb dX12_brief_2 rfl (lv_at hl 0 rfl) ?_
    refine z_get (c0 := 12) (i0 := 0) (k0 := 19) (T := TX12) (v := .int (zI σ 12 0 19)) S hG (hZ.2.1 (12, 0) (by decide)) rfl inlX12 (by decide) rfl zw_296 rfl dX12_brief_3 ?_
    refine z_callS (n := 3) (rest := []) (st1 := [.int (f_X12_isIn x1 0 (zI σ 12 0 19))]) S hG hS hZ (fun _ _ h => h) (c_X12_isIn l D aC zs A nl ad σ x1 0 (zI σ 12 0 19) (f_X12_isIn x1 0 (zI σ 12 0 19)) rfl) zw_514 zw_515 zw_5 zw_516 (by decide +kernel) ⟨rfl, rfl⟩ ⟨(Nat.le_of_ble_eq_true rfl), (Nat.le_of_ble_eq_true rfl)⟩ hl.1 rfl (by rfl) (by rfl) (Nat.le_of_ble_eq_true rfl) dX12_brief_6 ⟨Nat.zero_le _, Nat.zero_le _⟩ (fun H locs hz1 hG hS => ?_)
    refine lv_if_ne (tgt := 15) hx hb dX12_brief_9 (by decide) (fun c2 => ?_) (fun c2 => ?_)
    · have hf := zif_n c2 hf
      refine lv_aload_n hx hb dX12_brief_15 rfl (lv_at hl 0 rfl) ?_
      refine z_get (c0 := 12) (i0 := 0) (k0 := 16) (T := TX12) (v := .int (zI σ 12 0 16)) S hG (hZ.2.1 (12, 0) (by decide)) rfl inlX12 (by decide) rfl zw_508 rfl dX12_brief_16 ?_
      refine lv_bipush (v := 6) hx hb dX12_brief_19 (by decide) ?_
      refine lv_icmp_ne (tgt := 27) hx hb dX12_brief_21 (by decide) (fun c3 => ?_) (fun c3 => ?_)
      · have hf := zif_n c3 hf
        refine lv_aload_n hx hb dX12_brief_27 rfl (lv_at hl 0 rfl) ?_
        refine lv_iload_n hx hb dX12_brief_28 rfl (lv_at hl 1 rfl) ?_
        obtain ⟨σ4, eσ4, hf⟩ := zbi hf
        refine z_callV (n := 1) (rest := []) (st1 := []) (c0 := 12) (i0 := 0) (hZ.2.1 (12, 0) (by decide)) (by rfl) S hG hS hZ (fun _ _ h => h) (c_X12_takesText l D aC zs A nl ad σ x1 σ4 eσ4) zw_517 zw_518 zw_519 zw_5 zw_520 (by decide +kernel) ⟨rfl, rfl⟩ ⟨(Nat.le_of_ble_eq_true rfl), (Nat.le_of_ble_eq_true rfl)⟩ hl.1 rfl (by rfl) (by rfl) (Nat.le_of_ble_eq_true rfl) dX12_brief_29 ⟨Nat.zero_le _, Nat.zero_le _⟩ (fun H locs hz5 hG hS => ?_)
        refine lv_aload_n hx hb dX12_brief_32 rfl (lv_at hl 0 rfl) ?_
        refine z_get (c0 := 12) (i0 := 0) (k0 := 18) (T := TX12) (v := .int (zI σ4 12 0 18)) S hG (hZ.2.1 (12, 0) (by decide)) rfl inlX12 (by decide) rfl zw_509 rfl dX12_brief_33 ?_
        refine lv_istore_n (lv' := [(2, .int (zI σ4 12 0 18)), (0, .ref (ad 12 0 0)), (1, .int x1)]) hx hb dX12_brief_36 rfl hl (by decide) rfl (fun ls hl => ?_)
        refine lv_aload_n hx hb dX12_brief_37 rfl (lv_at hl 1 rfl) ?_
        refine z_get (c0 := 12) (i0 := 0) (k0 := 17) (T := TX12) (v := .int (zI σ4 12 0 17)) S hG (hZ.2.1 (12, 0) (by decide)) rfl inlX12 (by decide) rfl zw_510 rfl dX12_brief_38 ?_
        refine lv_istore_n (lv' := [(3, .int (zI σ4 12 0 17)), (2, .int (zI σ4 12 0 18)), (0, .ref (ad 12 0 0)), (1, .int x1)]) hx hb dX12_brief_41 rfl hl (by decide) rfl (fun ls hl => ?_)
        refine lv_aload_n hx hb dX12_brief_42 rfl (lv_at hl 2 rfl) ?_
        refine lv_iconst (v := 0) hx hb dX12_brief_43 (by decide) ?_
        refine z_putI (c0 := 12) (i0 := 0) (k0 := 23) (T := TX12) S hG hS tyX12 tyX12_ok nmX12 (hZ.2.1 (12, 0) (by decide)) rfl inlX12 (by decide) rfl rfl zw_511 (by decide +kernel) rfl dX12_brief_44 (fun H locs hG hS => ?_)
        obtain ⟨σ6, eσ6, hf⟩ := zlt_s hf
        rw [← eσ6] at hG
        refine lv_aload_n hx hb dX12_brief_47 rfl (lv_at hl 2 rfl) ?_
        refine z_get (c0 := 12) (i0 := 0) (k0 := 25) (T := TX12) (v := .ref (ad 12 0 26)) S hG (hZ.2.1 (12, 0) (by decide)) rfl inlX12 (by decide) rfl zw_237 rfl dX12_brief_48 ?_
        refine lv_aload_n hx hb dX12_brief_51 rfl (lv_at hl 2 rfl) ?_
        refine z_get (c0 := 12) (i0 := 0) (k0 := 16) (T := TX12) (v := .int (zI σ6 12 0 16)) S hG (hZ.2.1 (12, 0) (by decide)) rfl inlX12 (by decide) rfl zw_508 rfl dX12_brief_52 ?_
        refine lv_iconst (v := 0) hx hb dX12_brief_55 (by decide) ?_
        obtain ⟨i7, hi7, hf⟩ := zbi hf
        refine z_iast (c0 := 12) (i0 := 0) (k0 := 25) S hG hS (hZ.2.1 (12, 0) (by decide)) (by decide) rfl hi7 dX12_brief_56 (fun H locs hG hS => ?_)
        obtain ⟨σ8, eσ8, hf⟩ := zlt_s hf
        rw [← eσ8] at hG
        refine lv_iconst (v := 1) hx hb dX12_brief_57 (by decide) ?_
        refine lv_istore (lv' := [(4, .int 1), (3, .int (zI σ4 12 0 17)), (2, .int (zI σ4 12 0 18)), (0, .ref (ad 12 0 0)), (1, .int x1)]) hx hb dX12_brief_58 hl (by decide) rfl (fun ls hl => ?_)
        refine lv_aload_n hx hb dX12_brief_60 rfl (lv_at hl 3 rfl) ?_
        obtain ⟨σ9, eσ9, hf⟩ := zbi hf
        refine z_callV (n := 0) (rest := []) (st1 := []) (c0 := 12) (i0 := 0) (hZ.2.1 (12, 0) (by decide)) (by rfl) S hG hS hZ (fun _ _ h => h) (c_X12_blanks l D aC zs A nl ad σ8 σ9 eσ9) zw_521 zw_522 zw_523 zw_5 zw_524 (by decide +kernel) ⟨rfl, rfl⟩ ⟨(Nat.le_of_ble_eq_true rfl), (Nat.le_of_ble_eq_true rfl)⟩ hl.1 rfl (by rfl) (by rfl) (Nat.le_of_ble_eq_true rfl) dX12_brief_61 ⟨Nat.zero_le _, Nat.zero_le _⟩ (fun H locs hz10 hG hS => ?_)
        obtain ⟨t64, hw64, hfo64⟩ := zbi hf
        have KL64 : ∀ (n : Nat) (y4l64 : Int32) (σl64 : zM) (H : Heap) (locs : List Loc) (ls : Array Slot), zG D aC A nl ad σl64 s H → va_S A s.heap H locs → lv_has ls 5 [(0, .ref (ad 12 0 0)), (1, .int x1), (2, .int (zI σ4 12 0 18)), (3, .int (zI σ4 12 0 17)), (4, .int y4l64)] → zwh (fun (q : (Int32 × zM)) => f_X12_brief_L64 x1 (zI σ4 12 0 18) (zI σ4 12 0 17) q.1 q.2) n (y4l64, σl64) = some t64 → zWk p l e ({ frames := 66, cells := 0, slots := 0, locals := 1510 } : Room) s m args below meth c A (some (.int r)) (fun t => zG D aC A nl ad σ' t t.heap ∧ True) H locs (F0 m 64 ls []) := by
          intro n
          induction n with
          | zero =>
            intro y4l64 σl64 H locs ls hG hS hl hw
            exact (zwh_0 hw).elim
          | succ n ih64 =>
            intro y4l64 σl64 H locs ls hG hS hl hw
            obtain ⟨rr64, hf, hk64⟩ := zwh_u hw
            have hf : f_X12_brief_L64 x1 (zI σ4 12 0 18) (zI σ4 12 0 17) y4l64 σl64 = some rr64 := hf
            unfold f_X12_brief_L64 at hf
            have KJ132_64 : ∀ (t0b132 : Int32)  (σb132_64 : zM) (H : Heap) (locs : List Loc) (ls : Array Slot), zG D aC A nl ad σb132_64 s H → va_S A s.heap H locs → lv_has ls 5 [(0, .ref (ad 12 0 0)), (1, .int x1), (2, .int (zI σ4 12 0 18)), (3, .int (zI σ4 12 0 17))] → (f_X12_brief_B132_64 σb132_64 x1 (zI σ4 12 0 18) (zI σ4 12 0 17) t0b132) = some rr64 → zWk p l e ({ frames := 66, cells := 0, slots := 0, locals := 1510 } : Room) s m args below meth c A (some (.int r)) (fun t => zG D aC A nl ad σ' t t.heap ∧ True) H locs (F0 m 132 ls [.int t0b132]) := by
              intro t0b132  σb132_64 H locs ls hG hS hl hf
              unfold f_X12_brief_B132_64 at hf
              refine lv_istore (lv' := [(4, .int t0b132), (0, .ref (ad 12 0 0)), (1, .int x1), (2, .int (zI σ4 12 0 18)), (3, .int (zI σ4 12 0 17))]) hx hb dX12_brief_132 hl (by decide) rfl (fun ls hl => ?_)
              refine lv_iload hx hb dX12_brief_134 (lv_at hl 0 rfl) ?_
              refine lv_if_ne (tgt := 142) hx hb dX12_brief_136 (by decide) (fun c55 => ?_) (fun c55 => ?_)
              · have hf := zif_n c55 hf
                refine lv_aload_n hx hb dX12_brief_142 rfl (lv_at hl 1 rfl) ?_
                refine z_get (c0 := 12) (i0 := 0) (k0 := 25) (T := TX12) (v := .ref (ad 12 0 26)) S hG (hZ.2.1 (12, 0) (by decide)) rfl inlX12 (by decide) rfl zw_237 rfl dX12_brief_143 ?_
                refine lv_aload_n hx hb dX12_brief_146 rfl (lv_at hl 1 rfl) ?_
                refine z_get (c0 := 12) (i0 := 0) (k0 := 16) (T := TX12) (v := .int (zI σb132_64 12 0 16)) S hG (hZ.2.1 (12, 0) (by decide)) rfl inlX12 (by decide) rfl zw_508 rfl dX12_brief_147 ?_
                refine lv_dup2_11 hx hb dX12_brief_150 rfl rfl ?_
                obtain ⟨i56, hi56, hf⟩ := zbi hf
                refine z_iald (c0 := 12) (i0 := 0) (k0 := 25) S hG (hZ.2.1 (12, 0) (by decide)) (by decide) rfl hi56 dX12_brief_151 ?_
                refine lv_iconst (v := 1) hx hb dX12_brief_152 (by decide) ?_
                refine lv_iadd hx hb dX12_brief_153 ?_
                obtain ⟨i57, hi57, hf⟩ := zbi hf
                refine z_iast (c0 := 12) (i0 := 0) (k0 := 25) S hG hS (hZ.2.1 (12, 0) (by decide)) (by decide) rfl hi57 dX12_brief_154 (fun H locs hG hS => ?_)
                obtain ⟨σ58, eσ58, hf⟩ := zlt_s hf
                rw [← eσ58] at hG
                refine lv_aload_n hx hb dX12_brief_155 rfl (lv_at hl 1 rfl) ?_
                obtain ⟨σ59, eσ59, hf⟩ := zbi hf
                refine z_callV (n := 0) (rest := []) (st1 := []) (c0 := 12) (i0 := 0) (hZ.2.1 (12, 0) (by decide)) (by rfl) S hG hS hZ (fun _ _ h => h) (c_X12_blanks l D aC zs A nl ad σ58 σ59 eσ59) zw_521 zw_522 zw_523 zw_5 zw_524 (by decide +kernel) ⟨rfl, rfl⟩ ⟨(Nat.le_of_ble_eq_true rfl), (Nat.le_of_ble_eq_true rfl)⟩ hl.1 rfl (by rfl) (by rfl) (Nat.le_of_ble_eq_true rfl) dX12_brief_156 ⟨Nat.zero_le _, Nat.zero_le _⟩ (fun H locs hz60 hG hS => ?_)
                refine lv_goto (tgt := 64) hx hb dX12_brief_159 (by decide) ?_
                cases hf
                exact ih64 t0b132 σ59 H locs ls hG hS (lv_sub hl [1, 2, 3, 4, 0] rfl) hk64
              · have hf := zif_p c55 hf
                refine lv_goto (tgt := 64) hx hb dX12_brief_139 (by decide) ?_
                cases hf
                exact ih64 t0b132 σb132_64 H locs ls hG hS (lv_sub hl [1, 2, 3, 4, 0] rfl) hk64
            have KJ131_64 : ∀ (σb131_64 : zM) (H : Heap) (locs : List Loc) (ls : Array Slot), zG D aC A nl ad σb131_64 s H → va_S A s.heap H locs → lv_has ls 5 [(0, .ref (ad 12 0 0)), (1, .int x1), (2, .int (zI σ4 12 0 18)), (3, .int (zI σ4 12 0 17))] → (f_X12_brief_B131_64 σb131_64 x1 (zI σ4 12 0 18) (zI σ4 12 0 17)) = some rr64 → zWk p l e ({ frames := 66, cells := 0, slots := 0, locals := 1510 } : Room) s m args below meth c A (some (.int r)) (fun t => zG D aC A nl ad σ' t t.heap ∧ True) H locs (F0 m 131 ls []) := by
              intro   σb131_64 H locs ls hG hS hl hf
              unfold f_X12_brief_B131_64 at hf
              refine lv_iconst (v := 0) hx hb dX12_brief_131 (by decide) ?_
              exact KJ132_64 0 σb131_64 H locs ls hG hS (lv_sub hl [0, 1, 2, 3] rfl) hf
            refine lv_iload hx hb dX12_brief_64 (lv_at hl 4 rfl) ?_
            refine lv_if_eq (tgt := 162) hx hb dX12_brief_66 (by decide) (fun c51 => ?_) (fun c51 => ?_)
            · have hf := zif_p c51 hf
              cases hf
              have hk64 : ((y4l64, σl64) : (Int32 × zM)) = t64 := hk64
              have hf := hfo64
              rw [← hk64] at hf
              have hf : (f_X12_brief_B162 σl64 x1 (zI σ4 12 0 18) (zI σ4 12 0 17) y4l64) = some (r, σ') := hf
              exact KJ162 (zI σ4 12 0 18) (zI σ4 12 0 17) y4l64 σl64 H locs ls hG hS (lv_sub hl [0, 1, 2, 3, 4] rfl) hf
            · have hf := zif_n c51 hf
              refine lv_aload_n hx hb dX12_brief_69 rfl (lv_at hl 0 rfl) ?_
              refine z_get (c0 := 12) (i0 := 0) (k0 := 21) (T := TX12) (v := .int (zI σl64 12 0 21)) S hG (hZ.2.1 (12, 0) (by decide)) rfl inlX12 (by decide) rfl zw_512 rfl dX12_brief_70 ?_
              refine lv_aload_n hx hb dX12_brief_73 rfl (lv_at hl 0 rfl) ?_
              refine z_get (c0 := 12) (i0 := 0) (k0 := 20) (T := TX12) (v := .int (zI σl64 12 0 20)) S hG (hZ.2.1 (12, 0) (by decide)) rfl inlX12 (by decide) rfl zw_513 rfl dX12_brief_74 ?_
              refine lv_icmp_ge (tgt := 162) hx hb dX12_brief_77 (by decide) (fun c52 => ?_) (fun c52 => ?_)
              · have hf := zif_p c52 hf
                cases hf
                have hk64 : ((y4l64, σl64) : (Int32 × zM)) = t64 := hk64
                have hf := hfo64
                rw [← hk64] at hf
                have hf : (f_X12_brief_B162 σl64 x1 (zI σ4 12 0 18) (zI σ4 12 0 17) y4l64) = some (r, σ') := hf
                exact KJ162 (zI σ4 12 0 18) (zI σ4 12 0 17) y4l64 σl64 H locs ls hG hS (lv_sub hl [0, 1, 2, 3, 4] rfl) hf
              · have hf := zif_n c52 hf
                refine lv_aload_n hx hb dX12_brief_80 rfl (lv_at hl 0 rfl) ?_
                refine z_get (c0 := 12) (i0 := 0) (k0 := 25) (T := TX12) (v := .ref (ad 12 0 26)) S hG (hZ.2.1 (12, 0) (by decide)) rfl inlX12 (by decide) rfl zw_237 rfl dX12_brief_81 ?_
                refine lv_aload_n hx hb dX12_brief_84 rfl (lv_at hl 0 rfl) ?_
                refine z_get (c0 := 12) (i0 := 0) (k0 := 16) (T := TX12) (v := .int (zI σl64 12 0 16)) S hG (hZ.2.1 (12, 0) (by decide)) rfl inlX12 (by decide) rfl zw_508 rfl dX12_brief_85 ?_
                obtain ⟨i53, hi53, hf⟩ := zbi hf
                refine z_iald (c0 := 12) (i0 := 0) (k0 := 25) S hG (hZ.2.1 (12, 0) (by decide)) (by decide) rfl hi53 dX12_brief_88 ?_
                refine lv_bipush (v := 40) hx hb dX12_brief_89 (by decide) ?_
                refine lv_icmp_ge (tgt := 131) hx hb dX12_brief_91 (by decide) (fun c54 => ?_) (fun c54 => ?_)
                · have hf := zif_p c54 hf
                  exact KJ131_64 σl64 H locs ls hG hS (lv_sub hl [0, 1, 2, 3] rfl) hf
                · have hf := zif_n c54 hf
                  refine lv_aload_n hx hb dX12_brief_94 rfl (lv_at hl 0 rfl) ?_
                  refine lv_bipush (v := 40) hx hb dX12_brief_95 (by decide) ?_
                  refine lv_aload_n hx hb dX12_brief_97 rfl (lv_at hl 0 rfl) ?_
                  refine z_get (c0 := 12) (i0 := 0) (k0 := 16) (T := TX12) (v := .int (zI σl64 12 0 16)) S hG (hZ.2.1 (12, 0) (by decide)) rfl inlX12 (by decide) rfl zw_508 rfl dX12_brief_98 ?_
                  refine lv_imul hx hb dX12_brief_101 ?_
                  refine lv_aload_n hx hb dX12_brief_102 rfl (lv_at hl 0 rfl) ?_
                  refine z_get (c0 := 12) (i0 := 0) (k0 := 25) (T := TX12) (v := .ref (ad 12 0 26)) S hG (hZ.2.1 (12, 0) (by decide)) rfl inlX12 (by decide) rfl zw_237 rfl dX12_brief_103 ?_
                  refine lv_aload_n hx hb dX12_brief_106 rfl (lv_at hl 0 rfl) ?_
                  refine z_get (c0 := 12) (i0 := 0) (k0 := 16) (T := TX12) (v := .int (zI σl64 12 0 16)) S hG (hZ.2.1 (12, 0) (by decide)) rfl inlX12 (by decide) rfl zw_508 rfl dX12_brief_107 ?_
                  obtain ⟨i61, hi61, hf⟩ := zbi hf
                  refine z_iald (c0 := 12) (i0 := 0) (k0 := 25) S hG (hZ.2.1 (12, 0) (by decide)) (by decide) rfl hi61 dX12_brief_110 ?_
                  refine lv_iadd hx hb dX12_brief_111 ?_
                  obtain ⟨q62, eq62, hf⟩ := zbi hf
                  refine z_callV (n := 1) (rest := []) (st1 := [.int q62.1]) (c0 := 12) (i0 := 0) (hZ.2.1 (12, 0) (by decide)) (by rfl) S hG hS hZ (fun _ _ h => h) (c_X12_reads l D aC zs A nl ad σl64 ((40 * (zI σl64 12 0 16)) + (zA σl64 12 0 25 i61)) q62.1 q62.2 eq62) zw_525 zw_526 zw_527 zw_5 zw_528 (by decide +kernel) ⟨rfl, rfl⟩ ⟨(Nat.le_of_ble_eq_true rfl), (Nat.le_of_ble_eq_true rfl)⟩ hl.1 rfl (by rfl) (by rfl) (Nat.le_of_ble_eq_true rfl) dX12_brief_112 ⟨Nat.zero_le _, Nat.zero_le _⟩ (fun H locs hz63 hG hS => ?_)
                  refine lv_if_eq (tgt := 131) hx hb dX12_brief_115 (by decide) (fun c64 => ?_) (fun c64 => ?_)
                  · have hf := zif_p c64 hf
                    exact KJ131_64 q62.2 H locs ls hG hS (lv_sub hl [0, 1, 2, 3] rfl) hf
                  · have hf := zif_n c64 hf
                    refine lv_aload_n hx hb dX12_brief_118 rfl (lv_at hl 0 rfl) ?_
                    refine lv_bipush (v := 59) hx hb dX12_brief_119 (by decide) ?_
                    obtain ⟨q65, eq65, hf⟩ := zbi hf
                    refine z_callV (n := 1) (rest := []) (st1 := [.int q65.1]) (c0 := 12) (i0 := 0) (hZ.2.1 (12, 0) (by decide)) (by rfl) S hG hS hZ (fun _ _ h => h) (c_X12_takesSign l D aC zs A nl ad q62.2 59 q65.1 q65.2 eq65) zw_643 zw_644 zw_645 zw_5 zw_646 (by decide +kernel) ⟨rfl, rfl⟩ ⟨(Nat.le_of_ble_eq_true rfl), (Nat.le_of_ble_eq_true rfl)⟩ hl.1 rfl (by rfl) (by rfl) (Nat.le_of_ble_eq_true rfl) dX12_brief_121 ⟨Nat.zero_le _, Nat.zero_le _⟩ (fun H locs hz66 hG hS => ?_)
                    have Kv69 : ∀ (v69 : Int32) (ls : Array Slot), lv_has ls 5 [(0, .ref (ad 12 0 0)), (1, .int x1), (2, .int (zI σ4 12 0 18)), (3, .int (zI σ4 12 0 17)), (4, .int y4l64)] → (if v69 = 0 then (some (.inl (v69, q65.2))) else ((zix (zI q65.2 12 0 16) 7).bind fun i77 => (zix (zI q65.2 12 0 16) 7).bind fun i78 => zlt (zsA q65.2 12 0 25 i78 ((zA q65.2 12 0 25 i77) + 1)) fun σ79 => (f_X12_blanks σ79).bind fun σ80 => some (.inl (v69, σ80)))) = some rr64 → zWk p l e ({ frames := 66, cells := 0, slots := 0, locals := 1510 } : Room) s m args below meth c A (some (.int r)) (fun t => zG D aC A nl ad σ' t t.heap ∧ True) H locs (F0 m 132 ls [.int v69]) := by
                      intro v69 ls hl hf
                      refine lv_istore (lv' := [(4, .int v69), (0, .ref (ad 12 0 0)), (1, .int x1), (2, .int (zI σ4 12 0 18)), (3, .int (zI σ4 12 0 17))]) hx hb dX12_brief_132 hl (by decide) rfl (fun ls hl => ?_)
                      refine lv_iload hx hb dX12_brief_134 (lv_at hl 0 rfl) ?_
                      refine lv_if_ne (tgt := 142) hx hb dX12_brief_136 (by decide) (fun c76 => ?_) (fun c76 => ?_)
                      · have hf := zif_n c76 hf
                        refine lv_aload_n hx hb dX12_brief_142 rfl (lv_at hl 1 rfl) ?_
                        refine z_get (c0 := 12) (i0 := 0) (k0 := 25) (T := TX12) (v := .ref (ad 12 0 26)) S hG (hZ.2.1 (12, 0) (by decide)) rfl inlX12 (by decide) rfl zw_237 rfl dX12_brief_143 ?_
                        refine lv_aload_n hx hb dX12_brief_146 rfl (lv_at hl 1 rfl) ?_
                        refine z_get (c0 := 12) (i0 := 0) (k0 := 16) (T := TX12) (v := .int (zI q65.2 12 0 16)) S hG (hZ.2.1 (12, 0) (by decide)) rfl inlX12 (by decide) rfl zw_508 rfl dX12_brief_147 ?_
                        refine lv_dup2_11 hx hb dX12_brief_150 rfl rfl ?_
                        obtain ⟨i77, hi77, hf⟩ := zbi hf
                        refine z_iald (c0 := 12) (i0 := 0) (k0 := 25) S hG (hZ.2.1 (12, 0) (by decide)) (by decide) rfl hi77 dX12_brief_151 ?_
                        refine lv_iconst (v := 1) hx hb dX12_brief_152 (by decide) ?_
                        refine lv_iadd hx hb dX12_brief_153 ?_
                        obtain ⟨i78, hi78, hf⟩ := zbi hf
                        refine z_iast (c0 := 12) (i0 := 0) (k0 := 25) S hG hS (hZ.2.1 (12, 0) (by decide)) (by decide) rfl hi78 dX12_brief_154 (fun H locs hG hS => ?_)
                        obtain ⟨σ79, eσ79, hf⟩ := zlt_s hf
                        rw [← eσ79] at hG
                        refine lv_aload_n hx hb dX12_brief_155 rfl (lv_at hl 1 rfl) ?_
                        obtain ⟨σ80, eσ80, hf⟩ := zbi hf
                        refine z_callV (n := 0) (rest := []) (st1 := []) (c0 := 12) (i0 := 0) (hZ.2.1 (12, 0) (by decide)) (by rfl) S hG hS hZ (fun _ _ h => h) (c_X12_blanks l D aC zs A nl ad σ79 σ80 eσ80) zw_521 zw_522 zw_523 zw_5 zw_524 (by decide +kernel) ⟨rfl, rfl⟩ ⟨(Nat.le_of_ble_eq_true rfl), (Nat.le_of_ble_eq_true rfl)⟩ hl.1 rfl (by rfl) (by rfl) (Nat.le_of_ble_eq_true rfl) dX12_brief_156 ⟨Nat.zero_le _, Nat.zero_le _⟩ (fun H locs hz81 hG hS => ?_)
                        refine lv_goto (tgt := 64) hx hb dX12_brief_159 (by decide) ?_
                        cases hf
                        exact ih64 v69 σ80 H locs ls hG hS (lv_sub hl [1, 2, 3, 4, 0] rfl) hk64
                      · have hf := zif_p c76 hf
                        refine lv_goto (tgt := 64) hx hb dX12_brief_139 (by decide) ?_
                        cases hf
                        exact ih64 v69 q65.2 H locs ls hG hS (lv_sub hl [1, 2, 3, 4, 0] rfl) hk64
                    refine lv_if_eq (tgt := 131) hx hb dX12_brief_124 (by decide) (fun c68 => ?_) (fun c68 => ?_)
                    · rw [if_pos c68] at hf
                      refine lv_iconst (v := 0) hx hb dX12_brief_131 (by decide) ?_
                      exact Kv69 _ ls hl hf
                    · rw [if_neg c68] at hf
                      refine lv_iconst (v := 1) hx hb dX12_brief_127 (by decide) ?_
                      refine lv_goto (tgt := 132) hx hb dX12_brief_128 (by decide) ?_
                      exact Kv69 _ ls hl hf
        exact KL64 zFu 1 σ9 H locs ls hG hS (lv_sub hl [3, 4, 2, 1, 0] rfl) hw64
      · have hf := zif_p c3 hf
        refine lv_bipush (v := (-3)) hx hb dX12_brief_24 (by decide) ?_
        obtain ⟨hq1, hq2⟩ := Prod.mk.inj (Option.some.inj hf)
        subst hq1
        subst hq2
        exact z_iret S hG hS hlocks trivial hr dX12_brief_26
    · have hf := zif_p c2 hf
      refine lv_bipush (v := (-2)) hx hb dX12_brief_12 (by decide) ?_
      obtain ⟨hq1, hq2⟩ := Prod.mk.inj (Option.some.inj hf)
      subst hq1
      subst hq2
      exact z_iret S hG hS hlocks trivial hr dX12_brief_14
  exact hK0 _ _ ls hG hS hl hf
set_option maxRecDepth 100000 in
set_option maxHeartbeats 4000000 in
theorem c_X12_open (l : Launch) (D : va_G) (aC : Nat → ClassId) (zs : Nat × Nat) (A : Nat → Prop) (nl : zNL) (ad : Nat → Nat → Nat → Nat) (σ : zM)  (r : Int32) (σ' : zM)  (hf : f_X12_open σ = some (r, σ')) : Met l yX12_open (Cond.code yX12_open cX12_open 3 (some .int) :: wsL_law) ({ frames := 68, cells := 0, slots := 0, locals := 1634 } : Room) (zP D aC zs zfM A nl ad σ [.ref (ad 12 0 0)]) (zQ (some (.int r)) (fun t => zG D aC A nl ad σ' t t.heap ∧ True) A) 0 0 A := by
  refine Met.ofW (cc := cX12_open) (maxL := 3) (ret := (some .int)) (by decide) rfl ?_
  intro p e s m args below meth c s₁ B hml hv
  obtain ⟨rfl, hG, hZ⟩ := hv
  have hx := B.exec
  have hb := B.bytes
  have hr := B.returns
  have hts : ∀ w ∈ wsL_law, w.before ([.ref (ad 12 0 0)] : List Value).toArray s = true := fun w h => (atoms_spec B.pre) w (List.mem_cons_of_mem _ h)
  have hown : s.vm.findClass RX12 = some m.cls := findClass_of_methodNamed B.named
  have hlocks := B.notSynchronized
  have S : zS p m c cX12_open 3 s ([.ref (ad 12 0 0)] : List Value).toArray RX12 := ⟨hx, hb, hml, hown, hts⟩
  have hS : va_S A s.heap s.heap [] := va_S.rf
  have hl := lv_entry ([.ref (ad 12 0 0)]) (n := 3) (Nat.le_of_ble_eq_true rfl)
  rw [lg_entry_eq]
  generalize (lg_sl ([.ref (ad 12 0 0)]) ++ List.replicate (3 - (lg_sl ([.ref (ad 12 0 0)])).length) Slot.unset).toArray = ls at hl ⊢
  have hl : lv_has ls 3 [(0, .ref (ad 12 0 0))] := hl
  generalize hargs : ([.ref (ad 12 0 0)] : List Value).toArray = args at S hts ⊢
  clear hargs
  have KJ82 : ∀ (y1b82 : Int32)  (σb82 : zM) (H : Heap) (locs : List Loc) (ls : Array Slot), zG D aC A nl ad σb82 s H → va_S A s.heap H locs → lv_has ls 3 [(0, .ref (ad 12 0 0)), (1, .int y1b82)] → (f_X12_open_B82 σb82 y1b82) = some (r, σ') → zWk p l e ({ frames := 68, cells := 0, slots := 0, locals := 1634 } : Room) s m args below meth c A (some (.int r)) (fun t => zG D aC A nl ad σ' t t.heap ∧ True) H locs (F0 m 82 ls []) := by
    intro y1b82  σb82 H locs ls hG hS hl hf
    unfold f_X12_open_B82 at hf
    refine lv_iload_n hx hb dX12_open_82 rfl (lv_at hl 1 rfl) ?_
    refine lv_if_ne (tgt := 88) hx hb dX12_open_83 (by decide) (fun c5 => ?_) (fun c5 => ?_)
    · have hf := zif_n c5 hf
      refine lv_aload_n hx hb dX12_open_88 rfl (lv_at hl 0 rfl) ?_
      refine z_get (c0 := 12) (i0 := 0) (k0 := 58) (T := TX12) (v := .ref (ad 12 0 59)) S hG (hZ.2.1 (12, 0) (by decide)) rfl inlX12 (by decide) rfl zw_260 rfl dX12_open_89 ?_
      refine lv_aload_n hx hb dX12_open_92 rfl (lv_at hl 0 rfl) ?_
      refine z_get (c0 := 12) (i0 := 0) (k0 := 49) (T := TX12) (v := .int (zI σb82 12 0 49)) S hG (hZ.2.1 (12, 0) (by decide)) rfl inlX12 (by decide) rfl zw_1274 rfl dX12_open_93 ?_
      refine lv_iload_n hx hb dX12_open_96 rfl (lv_at hl 1 rfl) ?_
      obtain ⟨i6, hi6, hf⟩ := zbi hf
      refine z_iast (c0 := 12) (i0 := 0) (k0 := 58) S hG hS (hZ.2.1 (12, 0) (by decide)) (by decide) rfl hi6 dX12_open_97 (fun H locs hG hS => ?_)
      obtain ⟨σ7, eσ7, hf⟩ := zlt_s hf
      rw [← eσ7] at hG
      refine lv_aload_n hx hb dX12_open_98 rfl (lv_at hl 0 rfl) ?_
      refine lv_dup hx hb dX12_open_99 rfl ?_
      refine z_get (c0 := 12) (i0 := 0) (k0 := 49) (T := TX12) (v := .int (zI σ7 12 0 49)) S hG (hZ.2.1 (12, 0) (by decide)) rfl inlX12 (by decide) rfl zw_1274 rfl dX12_open_100 ?_
      refine lv_iconst (v := 1) hx hb dX12_open_103 (by decide) ?_
      refine lv_iadd hx hb dX12_open_104 ?_
      refine z_putI (c0 := 12) (i0 := 0) (k0 := 49) (T := TX12) S hG hS tyX12 tyX12_ok nmX12 (hZ.2.1 (12, 0) (by decide)) rfl inlX12 (by decide) rfl rfl zw_1274 (by decide +kernel) rfl dX12_open_105 (fun H locs hG hS => ?_)
      obtain ⟨σ8, eσ8, hf⟩ := zlt_s hf
      rw [← eσ8] at hG
      refine lv_aload_n hx hb dX12_open_108 rfl (lv_at hl 0 rfl) ?_
      refine lv_iconst (v := 1) hx hb dX12_open_109 (by decide) ?_
      refine z_putZ (c0 := 12) (i0 := 0) (k0 := 54) (T := TX12) S hG hS tyX12 tyX12_ok nmX12 (hZ.2.1 (12, 0) (by decide)) rfl inlX12 (by decide) rfl rfl zw_1272 (by decide +kernel) rfl rfl rfl dX12_open_110 (fun H locs hG hS => ?_)
      obtain ⟨σ9, eσ9, hf⟩ := zlt_s hf
      rw [← eσ9] at hG
      refine lv_iload_n hx hb dX12_open_113 rfl (lv_at hl 1 rfl) ?_
      obtain ⟨r10, er10, hf⟩ := zbi hf
      refine z_callS (n := 1) (rest := []) (st1 := [.int r10]) S hG hS hZ (fun _ _ h => h) (c_X12_bits l D aC zs A nl ad σ9 y1b82 r10 er10) zw_1296 zw_1297 zw_5 zw_1298 (by decide +kernel) ⟨rfl, rfl⟩ ⟨(Nat.le_of_ble_eq_true rfl), (Nat.le_of_ble_eq_true rfl)⟩ hl.1 rfl (by rfl) (by rfl) (Nat.le_of_ble_eq_true rfl) dX12_open_114 ⟨Nat.zero_le _, Nat.zero_le _⟩ (fun H locs hz11 hG hS => ?_)
      obtain ⟨hq1, hq2⟩ := Prod.mk.inj (Option.some.inj hf)
      subst hq1
      subst hq2
      exact z_iret S hG hS hlocks trivial hr dX12_open_117
    · have hf := zif_p c5 hf
      refine lv_iconst (v := (-1)) hx hb dX12_open_86 (by decide) ?_
      obtain ⟨hq1, hq2⟩ := Prod.mk.inj (Option.some.inj hf)
      subst hq1
      subst hq2
      exact z_iret S hG hS hlocks trivial hr dX12_open_87
  have KJ33 : ∀ (t0b33 : Int32)  (σb33 : zM) (H : Heap) (locs : List Loc) (ls : Array Slot), zG D aC A nl ad σb33 s H → va_S A s.heap H locs → lv_has ls 3 [(0, .ref (ad 12 0 0))] → (f_X12_open_B33 σb33 t0b33) = some (r, σ') → zWk p l e ({ frames := 68, cells := 0, slots := 0, locals := 1634 } : Room) s m args below meth c A (some (.int r)) (fun t => zG D aC A nl ad σ' t t.heap ∧ True) H locs (F0 m 33 ls [.int t0b33]) := by
    intro t0b33  σb33 H locs ls hG hS hl hf
    unfold f_X12_open_B33 at hf
    refine lv_istore_n (lv' := [(1, .int t0b33), (0, .ref (ad 12 0 0))]) hx hb dX12_open_33 rfl hl (by decide) rfl (fun ls hl => ?_)
    refine lv_iconst (v := 0) hx hb dX12_open_34 (by decide) ?_
    refine lv_istore_n (lv' := [(2, .int 0), (1, .int t0b33), (0, .ref (ad 12 0 0))]) hx hb dX12_open_35 rfl hl (by decide) rfl (fun ls hl => ?_)
    obtain ⟨t36, hw36, hfo36⟩ := zbi hf
    have KL36 : ∀ (n : Nat) (y1l36 : Int32) (y2l36 : Int32) (σl36 : zM) (H : Heap) (locs : List Loc) (ls : Array Slot), zG D aC A nl ad σl36 s H → va_S A s.heap H locs → lv_has ls 3 [(0, .ref (ad 12 0 0)), (1, .int y1l36), (2, .int y2l36)] → zwh (fun (q : (Int32 × Int32 × zM)) => f_X12_open_L36 q.1 q.2.1 q.2.2) n (y1l36, y2l36, σl36) = some t36 → zWk p l e ({ frames := 68, cells := 0, slots := 0, locals := 1634 } : Room) s m args below meth c A (some (.int r)) (fun t => zG D aC A nl ad σ' t t.heap ∧ True) H locs (F0 m 36 ls []) := by
      intro n
      induction n with
      | zero =>
        intro y1l36 y2l36 σl36 H locs ls hG hS hl hw
        exact (zwh_0 hw).elim
      | succ n ih36 =>
        intro y1l36 y2l36 σl36 H locs ls hG hS hl hw
        obtain ⟨rr36, hf, hk36⟩ := zwh_u hw
        have hf : f_X12_open_L36 y1l36 y2l36 σl36 = some rr36 := hf
        unfold f_X12_open_L36 at hf
        have KJ76_36 : ∀ (y1b76 : Int32) (y2b76 : Int32)  (σb76_36 : zM) (H : Heap) (locs : List Loc) (ls : Array Slot), zG D aC A nl ad σb76_36 s H → va_S A s.heap H locs → lv_has ls 3 [(0, .ref (ad 12 0 0)), (1, .int y1b76), (2, .int y2b76)] → (f_X12_open_B76_36 σb76_36 y1b76 y2b76) = some rr36 → zWk p l e ({ frames := 68, cells := 0, slots := 0, locals := 1634 } : Room) s m args below meth c A (some (.int r)) (fun t => zG D aC A nl ad σ' t t.heap ∧ True) H locs (F0 m 76 ls []) := by
          intro y1b76 y2b76  σb76_36 H locs ls hG hS hl hf
          unfold f_X12_open_B76_36 at hf
          refine lv_iinc (v := (y2b76 + 1)) (lv' := [(2, .int (y2b76 + 1)), (0, .ref (ad 12 0 0)), (1, .int y1b76)]) hx hb dX12_open_76 hl (k := 2) rfl rfl (by decide) rfl (fun ls hl => ?_)
          refine lv_goto (tgt := 36) hx hb dX12_open_79 (by decide) ?_
          cases hf
          exact ih36 y1b76 (y2b76 + 1) σb76_36 H locs ls hG hS (lv_sub hl [1, 2, 0] rfl) hk36
        refine lv_iload_n hx hb dX12_open_36 rfl (lv_at hl 2 rfl) ?_
        refine lv_aload_n hx hb dX12_open_37 rfl (lv_at hl 0 rfl) ?_
        refine z_get (c0 := 12) (i0 := 0) (k0 := 1) (T := TX12) (v := .int (zI σl36 12 0 1)) S hG (hZ.2.1 (12, 0) (by decide)) rfl inlX12 (by decide) rfl zw_801 rfl dX12_open_38 ?_
        refine lv_icmp_ge (tgt := 82) hx hb dX12_open_41 (by decide) (fun c18 => ?_) (fun c18 => ?_)
        · have hf := zif_p c18 hf
          cases hf
          have hk36 : ((y1l36, σl36) : (Int32 × zM)) = t36 := hk36
          have hf := hfo36
          rw [← hk36] at hf
          have hf : (f_X12_open_B82 σl36 y1l36) = some (r, σ') := hf
          exact KJ82 y1l36 σl36 H locs ls hG hS (lv_sub hl [0, 1] rfl) hf
        · have hf := zif_n c18 hf
          refine lv_aload_n hx hb dX12_open_44 rfl (lv_at hl 0 rfl) ?_
          refine z_get (c0 := 12) (i0 := 0) (k0 := 49) (T := TX12) (v := .int (zI σl36 12 0 49)) S hG (hZ.2.1 (12, 0) (by decide)) rfl inlX12 (by decide) rfl zw_1274 rfl dX12_open_45 ?_
          refine lv_if_ne (tgt := 82) hx hb dX12_open_48 (by decide) (fun c19 => ?_) (fun c19 => ?_)
          · have hf := zif_n c19 hf
            cases hf
            have hk36 : ((y1l36, σl36) : (Int32 × zM)) = t36 := hk36
            have hf := hfo36
            rw [← hk36] at hf
            have hf : (f_X12_open_B82 σl36 y1l36) = some (r, σ') := hf
            exact KJ82 y1l36 σl36 H locs ls hG hS (lv_sub hl [0, 1] rfl) hf
          · have hf := zif_p c19 hf
            refine lv_aload_n hx hb dX12_open_51 rfl (lv_at hl 0 rfl) ?_
            refine z_get (c0 := 12) (i0 := 0) (k0 := 5) (T := TX12) (v := .ref (ad 12 0 6)) S hG (hZ.2.1 (12, 0) (by decide)) rfl inlX12 (by decide) rfl zw_227 rfl dX12_open_52 ?_
            refine lv_iload_n hx hb dX12_open_55 rfl (lv_at hl 2 rfl) ?_
            obtain ⟨i20, hi20, hf⟩ := zbi hf
            refine z_iald (c0 := 12) (i0 := 0) (k0 := 5) S hG (hZ.2.1 (12, 0) (by decide)) (by decide) rfl hi20 dX12_open_56 ?_
            refine lv_iconst (v := (-1)) hx hb dX12_open_57 (by decide) ?_
            refine lv_icmp_eq (tgt := 76) hx hb dX12_open_58 (by decide) (fun c21 => ?_) (fun c21 => ?_)
            · have hf := zif_p c21 hf
              exact KJ76_36 y1l36 y2l36 σl36 H locs ls hG hS (lv_sub hl [0, 1, 2] rfl) hf
            · have hf := zif_n c21 hf
              refine lv_aload_n hx hb dX12_open_61 rfl (lv_at hl 0 rfl) ?_
              refine lv_iload_n hx hb dX12_open_62 rfl (lv_at hl 2 rfl) ?_
              obtain ⟨q22, eq22, hf⟩ := zbi hf
              refine z_callV (n := 1) (rest := []) (st1 := [.int q22.1]) (c0 := 12) (i0 := 0) (hZ.2.1 (12, 0) (by decide)) (by rfl) S hG hS hZ (fun _ _ h => h) (c_X12_whyOf l D aC zs A nl ad σl36 y2l36 q22.1 q22.2 eq22) zw_1040 zw_1041 zw_1042 zw_5 zw_1043 (by decide +kernel) ⟨rfl, rfl⟩ ⟨(Nat.le_of_ble_eq_true rfl), (Nat.le_of_ble_eq_true rfl)⟩ hl.1 rfl (by rfl) (by rfl) (Nat.le_of_ble_eq_true rfl) dX12_open_63 ⟨Nat.zero_le _, Nat.zero_le _⟩ (fun H locs hz23 hG hS => ?_)
              refine lv_iconst (v := (-1)) hx hb dX12_open_66 (by decide) ?_
              refine lv_icmp_ne (tgt := 76) hx hb dX12_open_67 (by decide) (fun c24 => ?_) (fun c24 => ?_)
              · have hf := zif_n c24 hf
                exact KJ76_36 y1l36 y2l36 q22.2 H locs ls hG hS (lv_sub hl [0, 1, 2] rfl) hf
              · have hf := zif_p c24 hf
                refine lv_iload_n hx hb dX12_open_70 rfl (lv_at hl 1 rfl) ?_
                refine lv_iconst (v := 1) hx hb dX12_open_71 (by decide) ?_
                refine lv_iload_n hx hb dX12_open_72 rfl (lv_at hl 2 rfl) ?_
                refine lv_ishl hx hb dX12_open_73 ?_
                refine lv_ior hx hb dX12_open_74 ?_
                refine lv_istore_n (lv' := [(1, .int (y1l36 ||| (1 <<< (y2l36 &&& 31)))), (0, .ref (ad 12 0 0)), (2, .int y2l36)]) hx hb dX12_open_75 rfl hl (by decide) rfl (fun ls hl => ?_)
                exact KJ76_36 (y1l36 ||| (1 <<< (y2l36 &&& 31))) y2l36 q22.2 H locs ls hG hS (lv_sub hl [1, 0, 2] rfl) hf
    exact KL36 zFu t0b33 0 σb33 H locs ls hG hS (lv_sub hl [2, 1, 0] rfl) hw36
  have hK0 : ∀ (H : Heap) (locs : List Loc) (ls : Array Slot), zG D aC A nl ad σ s H → va_S A s.heap H locs → lv_has ls 3 [(0, .ref (ad 12 0 0))] → f_X12_open σ = some (r, σ') → zWk p l e ({ frames := 68, cells := 0, slots := 0, locals := 1634 } : Room) s m args below meth c A (some (.int r)) (fun t => zG D aC A nl ad σ' t t.heap ∧ True) H locs (F0 m 0 ls []) := by
    intro H locs ls hG hS hl hf
    unfold f_X12_open at hf
    refine lv_aload_n hx hb dX12_open_0 rfl (lv_at hl 0 rfl) ?_
    refine z_get (c0 := 12) (i0 := 0) (k0 := 54) (T := TX12) (v := .int (zI σ 12 0 54)) S hG (hZ.2.1 (12, 0) (by decide)) rfl inlX12 (by decide) rfl zw_1272 rfl dX12_open_1 ?_
    refine lv_if_ne (tgt := 15) hx hb dX12_open_4 (by decide) (fun c1 => ?_) (fun c1 => ?_)
    · have hf := zif_n c1 hf
      refine lv_iconst (v := (-1)) hx hb dX12_open_15 (by decide) ?_
      obtain ⟨hq1, hq2⟩ := Prod.mk.inj (Option.some.inj hf)
      subst hq1
      subst hq2
      exact z_iret S hG hS hlocks trivial hr dX12_open_16
    · have hf := zif_p c1 hf
      refine lv_aload_n hx hb dX12_open_7 rfl (lv_at hl 0 rfl) ?_
      refine z_get (c0 := 12) (i0 := 0) (k0 := 49) (T := TX12) (v := .int (zI σ 12 0 49)) S hG (hZ.2.1 (12, 0) (by decide)) rfl inlX12 (by decide) rfl zw_1274 rfl dX12_open_8 ?_
      refine lv_iconst (v := 2) hx hb dX12_open_11 (by decide) ?_
      refine lv_icmp_ne (tgt := 17) hx hb dX12_open_12 (by decide) (fun c2 => ?_) (fun c2 => ?_)
      · have hf := zif_n c2 hf
        refine lv_aload_n hx hb dX12_open_17 rfl (lv_at hl 0 rfl) ?_
        refine z_get (c0 := 12) (i0 := 0) (k0 := 49) (T := TX12) (v := .int (zI σ 12 0 49)) S hG (hZ.2.1 (12, 0) (by decide)) rfl inlX12 (by decide) rfl zw_1274 rfl dX12_open_18 ?_
        refine lv_iconst (v := 1) hx hb dX12_open_21 (by decide) ?_
        refine lv_icmp_ne (tgt := 32) hx hb dX12_open_22 (by decide) (fun c3 => ?_) (fun c3 => ?_)
        · have hf := zif_n c3 hf
          refine lv_iconst (v := 0) hx hb dX12_open_32 (by decide) ?_
          exact KJ33 0 σ H locs ls hG hS (lv_sub hl [0] rfl) hf
        · have hf := zif_p c3 hf
          refine lv_aload_n hx hb dX12_open_25 rfl (lv_at hl 0 rfl) ?_
          refine z_get (c0 := 12) (i0 := 0) (k0 := 65) (T := TX12) (v := .int (zI σ 12 0 65)) S hG (hZ.2.1 (12, 0) (by decide)) rfl inlX12 (by decide) rfl zw_1295 rfl dX12_open_26 ?_
          refine lv_goto (tgt := 33) hx hb dX12_open_29 (by decide) ?_
          exact KJ33 (zI σ 12 0 65) σ H locs ls hG hS (lv_sub hl [0] rfl) hf
      · have hf := zif_p c2 hf
        refine lv_iconst (v := (-1)) hx hb dX12_open_15 (by decide) ?_
        obtain ⟨hq1, hq2⟩ := Prod.mk.inj (Option.some.inj hf)
        subst hq1
        subst hq2
        exact z_iret S hG hS hlocks trivial hr dX12_open_16
  exact hK0 _ _ ls hG hS hl hf
