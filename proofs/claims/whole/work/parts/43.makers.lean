theorem zln0 {o : Nat} (ho : o < 7) (k : Nat) : zln 0 o k = (zlnT.getD 0 []).getD k 0 := by unfold zln; rw [if_neg (by omega)]
def f_X9_init (σ : zM) : zM := zlt (zclA σ 9 0 0) fun σ1 => zlt (zsI σ1 9 0 1 0) fun σ2 => σ2
def f_X5_init (σ : zM) : zM := zlt (zclA σ 5 0 0) fun σ1 => zlt (zsI σ1 5 0 1 0) fun σ2 => zlt (zsI σ2 5 0 2 0) fun σ3 => σ3
def f_X2_init_L20 (y1l20 : Int32) (σl20 : zM) : Option ((Int32 × zM) ⊕ zM) := if 280 ≤ y1l20 then (some (.inr σl20)) else ((zix y1l20 280).bind fun i4 => zlt (zsA σl20 2 0 0 i4 1001) fun σ5 => some (.inl ((y1l20 + 1), σ5)))
def f_X2_init (σ : zM) : Option zM := zlt (zclA σ 2 0 0) fun σ1 => zlt (zsI σ1 2 0 1 0) fun σ2 => (zwh (fun (q : (Int32 × zM)) => f_X2_init_L20 q.1 q.2) zFu (0, σ2)).bind fun q => some q
def f_X3_init (σ : zM) : zM := zlt (zclA σ 3 0 0) fun σ1 => zlt (zclA σ1 3 0 1) fun σ2 => zlt (zclA σ2 3 0 2) fun σ3 => zlt (zclA σ3 3 0 3) fun σ4 => zlt (zsI σ4 3 0 4 0) fun σ5 => zlt (zsI σ5 3 0 5 0) fun σ6 => σ6
def f_X6_init (σ : zM) (o : Nat) : zM := zlt (zclA σ 6 o 0) fun σ1 => zlt (zclA σ1 6 o 1) fun σ2 => zlt (zclA σ2 6 o 2) fun σ3 => zlt (zclA σ3 6 o 3) fun σ4 => zlt (zclA σ4 6 o 4) fun σ5 => zlt (zclA σ5 6 o 5) fun σ6 => zlt (zsI σ6 6 o 6 0) fun σ7 => zlt (zsI σ7 6 o 7 0) fun σ8 => zlt (zsI σ8 6 o 8 0) fun σ9 => σ9
def f_X8_init (σ : zM) : zM := zlt (zclA σ 8 0 0) fun σ1 => zlt (zsA σ1 8 0 0 0 4) fun σ2 => zlt (zsA σ2 8 0 0 1 6) fun σ3 => zlt (zsA σ3 8 0 0 2 8) fun σ4 => zlt (zsA σ4 8 0 0 3 6) fun σ5 => zlt (zclA σ5 8 0 1) fun σ6 => zlt (zclA σ6 8 0 2) fun σ7 => zlt (zclA σ7 8 0 3) fun σ8 => zlt (zsI σ8 8 0 4 (-1)) fun σ9 => σ9
def f_X7_init (σ : zM) (o : Nat) (x1 : Int32) : zM := zlt (zsI σ 7 o 1 (-1)) fun σ1 => zlt (zclA σ1 7 o 2) fun σ2 => zlt (zclA σ2 7 o 3) fun σ3 => zlt (zclA σ3 7 o 4) fun σ4 => zlt (zsI σ4 7 o 5 0) fun σ5 => zlt (zsI σ5 7 o 0 x1) fun σ6 => σ6
def f_X0_init7 (σ : zM) : Option zM := zlt (zclA σ 0 7 5) fun σ1 => zlt (zclA σ1 0 7 6) fun σ2 => zlt (zsI σ2 0 7 7 0) fun σ3 => zlt (zsI σ3 0 7 8 0) fun σ4 => zlt (zsI σ4 0 7 9 0) fun σ5 => zlt (zclA σ5 0 7 0) fun σ6 => zlt (zclA σ6 0 7 1) fun σ7 => zlt (zclA σ7 0 7 2) fun σ8 => zlt (zclA σ8 0 7 3) fun σ9 => zlt (zclA σ9 0 7 4) fun σ10 => (f_X0_wipe σ10 7).bind fun σ11 => some σ11
def f_X0_init8 (σ : zM) : Option zM := zlt (zclA σ 0 8 5) fun σ1 => zlt (zclA σ1 0 8 6) fun σ2 => zlt (zsI σ2 0 8 7 0) fun σ3 => zlt (zsI σ3 0 8 8 0) fun σ4 => zlt (zsI σ4 0 8 9 0) fun σ5 => zlt (zclA σ5 0 8 0) fun σ6 => zlt (zclA σ6 0 8 1) fun σ7 => zlt (zclA σ7 0 8 2) fun σ8 => zlt (zclA σ8 0 8 3) fun σ9 => zlt (zclA σ9 0 8 4) fun σ10 => (f_X0_wipe σ10 8).bind fun σ11 => some σ11
def f_X0_initB (σ : zM) (o : Nat) : Option zM := zlt (zclA σ 0 o 5) fun σ1 => zlt (zclA σ1 0 o 6) fun σ2 => zlt (zsI σ2 0 o 7 0) fun σ3 => zlt (zsI σ3 0 o 8 0) fun σ4 => zlt (zsI σ4 0 o 9 0) fun σ5 => zlt (zclA σ5 0 o 0) fun σ6 => zlt (zclA σ6 0 o 1) fun σ7 => zlt (zclA σ7 0 o 2) fun σ8 => zlt (zclA σ8 0 o 3) fun σ9 => zlt (zclA σ9 0 o 4) fun σ10 => (f_X0_wipe σ10 o).bind fun σ11 => some σ11
def f_X1_init (σ : zM) : Option zM := zlt (zclA σ 1 0 0) fun σ1 => zlt (zclr σ1 0 7) fun σ2 => (f_X0_init7 σ2).bind fun σ3 => zlt (zsI σ3 1 0 2 0) fun σ4 => zlt (zsR σ4 1 0 3 none) fun σ5 => some σ5
def f_X12_init_L359 (y1l359 : Int32) (σl359 : zM) : Option ((Int32 × zM) ⊕ zM) := if 320 ≤ y1l359 then (some (.inr σl359)) else ((zix y1l359 320).bind fun i47 => zlt (zsA σl359 12 0 55 i47 1001) fun σ48 => some (.inl ((y1l359 + 1), σ48)))
def f_X12_init (σ : zM) : Option zM := zlt (zsI σ 12 0 2 1) fun σ1 => zlt (zclA σ1 12 0 3) fun σ2 => zlt (zclA σ2 12 0 4) fun σ3 => zlt (zclA σ3 12 0 5) fun σ4 => zlt (zclA σ4 12 0 6) fun σ5 => zlt (zsA σ5 12 0 6 0 4) fun σ6 => zlt (zsA σ6 12 0 6 1 6) fun σ7 => zlt (zsA σ7 12 0 6 2 8) fun σ8 => zlt (zsA σ8 12 0 6 3 6) fun σ9 => zlt (zclA σ9 12 0 7) fun σ10 => zlt (zclA σ10 12 0 8) fun σ11 => zlt (zclA σ11 12 0 10) fun σ12 => zlt (zclA σ12 12 0 11) fun σ13 => zlt (zclA σ13 12 0 12) fun σ14 => zlt (zclA σ14 12 0 13) fun σ15 => zlt (zclA σ15 12 0 14) fun σ16 => zlt (zsI σ16 12 0 24 (-1)) fun σ17 => zlt (zclA σ17 12 0 25) fun σ18 => zlt (zclA σ18 12 0 26) fun σ19 => zlt (zclA σ19 12 0 27) fun σ20 => zlt (zclA σ20 12 0 28) fun σ21 => zlt (zclA σ21 12 0 29) fun σ22 => zlt (zclA σ22 12 0 30) fun σ23 => zlt (zclA σ23 12 0 31) fun σ24 => zlt (zclA σ24 12 0 32) fun σ25 => zlt (zclA σ25 12 0 33) fun σ26 => zlt (zclA σ26 12 0 34) fun σ27 => zlt (zclA σ27 12 0 35) fun σ28 => zlt (zclA σ28 12 0 36) fun σ29 => zlt (zclA σ29 12 0 37) fun σ30 => zlt (zclA σ30 12 0 38) fun σ31 => zlt (zclA σ31 12 0 39) fun σ32 => zlt (zclA σ32 12 0 42) fun σ33 => zlt (zclA σ33 12 0 45) fun σ34 => zlt (zclA σ34 12 0 46) fun σ35 => zlt (zclA σ35 12 0 47) fun σ36 => zlt (zclA σ36 12 0 55) fun σ37 => zlt (zclA σ37 12 0 56) fun σ38 => zlt (zclA σ38 12 0 57) fun σ39 => zlt (zclA σ39 12 0 58) fun σ40 => zlt (zclA σ40 12 0 59) fun σ41 => zlt (zclA σ41 12 0 60) fun σ42 => zlt (zclA σ42 12 0 61) fun σ43 => zlt (zclA σ43 12 0 62) fun σ44 => zlt (zclA σ44 12 0 63) fun σ45 => (zwh (fun (q : (Int32 × zM)) => f_X12_init_L359 q.1 q.2) zFu (0, σ45)).bind fun q => some q
set_option maxRecDepth 100000 in
set_option maxHeartbeats 4000000 in
theorem c_X9_init (l : Launch) (D : va_G) (aC : Nat → ClassId) (zs : Nat × Nat) (A : Nat → Prop) (N0 nu : List (Nat × Nat × Nat)) (ad : Nat → Nat → Nat → Nat) (σ : zM)  (σ' : zM) (hobj : (9, 0, 0) ∈ N0) (hfr : ∀ k, k ∉ [0] → (9, 0, k) ∉ N0) (hF : ∀ q ∈ N0, (q.1, q.2.1) ∉ ([] : List (Nat × Nat))) (hnu : ∀ q ∈ nu, (q.1, q.2.1) ∉ ([(9, 0)] : List (Nat × Nat)))  (hf : f_X9_init σ = σ') : Met l yX9_init (Cond.code yX9_init cX9_init 1 none :: wsL_law) ({ frames := 1, cells := 1, slots := 900, locals := 12 } : Room) (zPm D aC zs [] A (N0, (zks 9 0 [0] nu)) ad σ [.ref (ad 9 0 0)] (fun sz => ad 9 0 1 = sz + 0 ∧ True)) (zQ none (fun t => zG D aC A (N0 ++ [(9, 0, 1)], nu) ad σ' t t.heap ∧ True) A) 1 900 A := by
  refine Met.ofW (cc := cX9_init) (maxL := 1) (ret := none) (by decide) rfl ?_
  intro p e s m args below meth c s₁ B hml hv
  obtain ⟨rfl, ⟨hG, hZ⟩, hp0, -⟩ := hv
  have hx := B.exec
  have hb := B.bytes
  have hr := B.returns
  have hts : ∀ w ∈ wsL_law, w.before ([.ref (ad 9 0 0)] : List Value).toArray s = true := fun w h => (atoms_spec B.pre) w (List.mem_cons_of_mem _ h)
  have hown : s.vm.findClass RX9 = some m.cls := findClass_of_methodNamed B.named
  have hlocks := B.notSynchronized
  have hin2 : meth.name = "<init>" := (name_of_methodNamed B.named B.method).1
  have S : zS p m c cX9_init 1 s ([.ref (ad 9 0 0)] : List Value).toArray RX9 := ⟨hx, hb, hml, hown, hts⟩
  have hS : va_S A s.heap s.heap [] := va_S.rf
  have hl := lv_entry ([.ref (ad 9 0 0)]) (n := 1) (Nat.le_of_ble_eq_true rfl)
  rw [lg_entry_eq]
  generalize (lg_sl ([.ref (ad 9 0 0)]) ++ List.replicate (1 - (lg_sl ([.ref (ad 9 0 0)])).length) Slot.unset).toArray = ls at hl ⊢
  have hl : lv_has ls 1 [(0, .ref (ad 9 0 0))] := hl
  generalize hargs : ([.ref (ad 9 0 0)] : List Value).toArray = args at S hts ⊢
  clear hargs
  unfold f_X9_init at hf
  have hB : zB ad s.heap.size N0 N0 [] 9 0 [0] ([] : List (Nat × Nat)) 0 := zB.start hobj hfr hF
  clear hobj hfr hF
  obtain ⟨N, eN⟩ : ∃ x, x = N0 := ⟨_, rfl⟩
  have hB : zB ad s.heap.size N0 N [] 9 0 [0] ([] : List (Nat × Nat)) 0 := by rw [eN]; exact hB
  have hG : zG D aC A (N, (zks 9 0 [0] nu)) ad σ s s.heap := by rw [eN]; exact hG
  refine lv_aload_n hx hb dX9_init_0 rfl (lv_at hl 0 rfl) ?_
  refine W.objInit hx hb hown (hts _ zw_59) (hts _ zw_11) (hts _ zw_12) rfl (by rw [S.2.2.1]; exact hl.1) rfl dX9_init_1 (Nat.le_of_ble_eq_true rfl) (Nat.le_of_ble_eq_true rfl) ?_
  refine W.eq (g2 := F0 m 4 ls []) rfl ?_
  refine lv_aload_n hx hb dX9_init_4 rfl (lv_at hl 0 rfl) ?_
  refine lv_sipush (v := 900) hx hb dX9_init_5 (by decide) ?_
  refine zd_newarr (atype := .int) (c0 := 9) (i0 := 0) (k0 := 0) (N1 := 900) (n' := 1) (slots' := 900) (made' := [(9, 0, 1)]) S hG hS hZ.1 hB zw_60 (Or.inl ⟨rfl, rfl⟩) (by decide) (by decide) hp0 (by decide) (by decide) (by decide) (Nat.le_of_ble_eq_true rfl) rfl rfl rfl (Nat.le_of_ble_eq_true rfl) (Nat.le_of_ble_eq_true rfl) dX9_init_8 ?_
  clear hG hS hB
  intro H N hG hS hB hlast
  obtain ⟨σ1, eσ1, hf⟩ := zlt_s hf
  rw [← eσ1] at hG
  refine zc_putref (N := N) (nu := nu) (ty := .array .int) (c0 := 9) (i0 := 0) (k0 := 0) (T := TX9) S hG hS tyX9 tyX9_ok nmX9 hB.2.1 (fun h => hnu _ h List.mem_cons_self) rfl inlX9 (by decide) rfl rfl hin2 rfl zw_61 (by decide +kernel) rfl rfl rfl dX9_init_10 ?_
  clear hG hS
  intro H locs hG hS
  refine lv_aload_n hx hb dX9_init_13 rfl (lv_at hl 0 rfl) ?_
  refine lv_iconst (v := 0) hx hb dX9_init_14 (by decide) ?_
  refine zc_putI (c0 := 9) (i0 := 0) (k0 := 1) (T := TX9) S hG hS tyX9 tyX9_ok nmX9 hB.2.1 (fun h => hnu _ h List.mem_cons_self) rfl inlX9 (by decide) rfl (Or.inl rfl) zw_62 (by decide +kernel) rfl dX9_init_15 (fun H locs hG hS => ?_)
  obtain ⟨σ2, eσ2, hf⟩ := zlt_s hf
  rw [← eσ2] at hG
  have hq := hf
  subst hq
  rw [hB.1] at hG
  exact z_vret S hG hS hlocks trivial hr dX9_init_18
set_option maxRecDepth 100000 in
set_option maxHeartbeats 4000000 in
theorem c_X5_init (l : Launch) (D : va_G) (aC : Nat → ClassId) (zs : Nat × Nat) (A : Nat → Prop) (N0 nu : List (Nat × Nat × Nat)) (ad : Nat → Nat → Nat → Nat) (σ : zM)  (σ' : zM) (hobj : (5, 0, 0) ∈ N0) (hfr : ∀ k, k ∉ [0] → (5, 0, k) ∉ N0) (hF : ∀ q ∈ N0, (q.1, q.2.1) ∉ ([] : List (Nat × Nat))) (hnu : ∀ q ∈ nu, (q.1, q.2.1) ∉ ([(5, 0)] : List (Nat × Nat)))  (hf : f_X5_init σ = σ') : Met l yX5_init (Cond.code yX5_init cX5_init 1 none :: wsL_law) ({ frames := 1, cells := 1, slots := 12, locals := 12 } : Room) (zPm D aC zs [] A (N0, (zks 5 0 [0] nu)) ad σ [.ref (ad 5 0 0)] (fun sz => ad 5 0 1 = sz + 0 ∧ True)) (zQ none (fun t => zG D aC A (N0 ++ [(5, 0, 1)], nu) ad σ' t t.heap ∧ True) A) 1 12 A := by
  refine Met.ofW (cc := cX5_init) (maxL := 1) (ret := none) (by decide) rfl ?_
  intro p e s m args below meth c s₁ B hml hv
  obtain ⟨rfl, ⟨hG, hZ⟩, hp0, -⟩ := hv
  have hx := B.exec
  have hb := B.bytes
  have hr := B.returns
  have hts : ∀ w ∈ wsL_law, w.before ([.ref (ad 5 0 0)] : List Value).toArray s = true := fun w h => (atoms_spec B.pre) w (List.mem_cons_of_mem _ h)
  have hown : s.vm.findClass RX5 = some m.cls := findClass_of_methodNamed B.named
  have hlocks := B.notSynchronized
  have hin2 : meth.name = "<init>" := (name_of_methodNamed B.named B.method).1
  have S : zS p m c cX5_init 1 s ([.ref (ad 5 0 0)] : List Value).toArray RX5 := ⟨hx, hb, hml, hown, hts⟩
  have hS : va_S A s.heap s.heap [] := va_S.rf
  have hl := lv_entry ([.ref (ad 5 0 0)]) (n := 1) (Nat.le_of_ble_eq_true rfl)
  rw [lg_entry_eq]
  generalize (lg_sl ([.ref (ad 5 0 0)]) ++ List.replicate (1 - (lg_sl ([.ref (ad 5 0 0)])).length) Slot.unset).toArray = ls at hl ⊢
  have hl : lv_has ls 1 [(0, .ref (ad 5 0 0))] := hl
  generalize hargs : ([.ref (ad 5 0 0)] : List Value).toArray = args at S hts ⊢
  clear hargs
  unfold f_X5_init at hf
  have hB : zB ad s.heap.size N0 N0 [] 5 0 [0] ([] : List (Nat × Nat)) 0 := zB.start hobj hfr hF
  clear hobj hfr hF
  obtain ⟨N, eN⟩ : ∃ x, x = N0 := ⟨_, rfl⟩
  have hB : zB ad s.heap.size N0 N [] 5 0 [0] ([] : List (Nat × Nat)) 0 := by rw [eN]; exact hB
  have hG : zG D aC A (N, (zks 5 0 [0] nu)) ad σ s s.heap := by rw [eN]; exact hG
  refine lv_aload_n hx hb dX5_init_0 rfl (lv_at hl 0 rfl) ?_
  refine W.objInit hx hb hown (hts _ zw_65) (hts _ zw_11) (hts _ zw_12) rfl (by rw [S.2.2.1]; exact hl.1) rfl dX5_init_1 (Nat.le_of_ble_eq_true rfl) (Nat.le_of_ble_eq_true rfl) ?_
  refine W.eq (g2 := F0 m 4 ls []) rfl ?_
  refine lv_aload_n hx hb dX5_init_4 rfl (lv_at hl 0 rfl) ?_
  refine lv_bipush (v := 12) hx hb dX5_init_5 (by decide) ?_
  refine zd_newarr (atype := .long) (c0 := 5) (i0 := 0) (k0 := 0) (N1 := 12) (n' := 1) (slots' := 12) (made' := [(5, 0, 1)]) S hG hS hZ.1 hB zw_66 (Or.inr (Or.inr (Or.inr ⟨rfl, rfl⟩))) (by decide) (by decide) hp0 (by decide) (by decide) (by decide) (Nat.le_of_ble_eq_true rfl) rfl rfl rfl (Nat.le_of_ble_eq_true rfl) (Nat.le_of_ble_eq_true rfl) dX5_init_7 ?_
  clear hG hS hB
  intro H N hG hS hB hlast
  obtain ⟨σ1, eσ1, hf⟩ := zlt_s hf
  rw [← eσ1] at hG
  refine zc_putref (N := N) (nu := nu) (ty := .array .long) (c0 := 5) (i0 := 0) (k0 := 0) (T := TX5) S hG hS tyX5 tyX5_ok nmX5 hB.2.1 (fun h => hnu _ h List.mem_cons_self) rfl inlX5 (by decide) rfl rfl hin2 rfl zw_67 (by decide +kernel) rfl rfl rfl dX5_init_9 ?_
  clear hG hS
  intro H locs hG hS
  refine lv_aload_n hx hb dX5_init_12 rfl (lv_at hl 0 rfl) ?_
  refine lv_iconst (v := 0) hx hb dX5_init_13 (by decide) ?_
  refine zc_putI (c0 := 5) (i0 := 0) (k0 := 1) (T := TX5) S hG hS tyX5 tyX5_ok nmX5 hB.2.1 (fun h => hnu _ h List.mem_cons_self) rfl inlX5 (by decide) rfl (Or.inl rfl) zw_68 (by decide +kernel) rfl dX5_init_14 (fun H locs hG hS => ?_)
  obtain ⟨σ2, eσ2, hf⟩ := zlt_s hf
  rw [← eσ2] at hG
  refine lv_aload_n hx hb dX5_init_17 rfl (lv_at hl 0 rfl) ?_
  refine lv_iconst (v := 0) hx hb dX5_init_18 (by decide) ?_
  refine zc_putI (c0 := 5) (i0 := 0) (k0 := 2) (T := TX5) S hG hS tyX5 tyX5_ok nmX5 hB.2.1 (fun h => hnu _ h List.mem_cons_self) rfl inlX5 (by decide) rfl (Or.inl rfl) zw_69 (by decide +kernel) rfl dX5_init_19 (fun H locs hG hS => ?_)
  obtain ⟨σ3, eσ3, hf⟩ := zlt_s hf
  rw [← eσ3] at hG
  have hq := hf
  subst hq
  rw [hB.1] at hG
  exact z_vret S hG hS hlocks trivial hr dX5_init_22
set_option maxRecDepth 100000 in
set_option maxHeartbeats 4000000 in
theorem c_X2_init (l : Launch) (D : va_G) (aC : Nat → ClassId) (zs : Nat × Nat) (A : Nat → Prop) (N0 nu : List (Nat × Nat × Nat)) (ad : Nat → Nat → Nat → Nat) (σ : zM)  (σ' : zM) (hobj : (2, 0, 0) ∈ N0) (hfr : ∀ k, k ∉ [0] → (2, 0, k) ∉ N0) (hF : ∀ q ∈ N0, (q.1, q.2.1) ∉ ([] : List (Nat × Nat))) (hnu : ∀ q ∈ nu, (q.1, q.2.1) ∉ ([(2, 0)] : List (Nat × Nat)))  (hf : f_X2_init σ = some σ') : Met l yX2_init (Cond.code yX2_init cX2_init 2 none :: wsL_law) ({ frames := 1, cells := 1, slots := 280, locals := 12 } : Room) (zPm D aC zs [] A (N0, (zks 2 0 [0] nu)) ad σ [.ref (ad 2 0 0)] (fun sz => ad 2 0 1 = sz + 0 ∧ True)) (zQ none (fun t => zG D aC A (N0 ++ [(2, 0, 1)], nu) ad σ' t t.heap ∧ True) A) 1 280 A := by
  refine Met.ofW (cc := cX2_init) (maxL := 2) (ret := none) (by decide) rfl ?_
  intro p e s m args below meth c s₁ B hml hv
  obtain ⟨rfl, ⟨hG, hZ⟩, hp0, -⟩ := hv
  have hx := B.exec
  have hb := B.bytes
  have hr := B.returns
  have hts : ∀ w ∈ wsL_law, w.before ([.ref (ad 2 0 0)] : List Value).toArray s = true := fun w h => (atoms_spec B.pre) w (List.mem_cons_of_mem _ h)
  have hown : s.vm.findClass RX2 = some m.cls := findClass_of_methodNamed B.named
  have hlocks := B.notSynchronized
  have hin2 : meth.name = "<init>" := (name_of_methodNamed B.named B.method).1
  have S : zS p m c cX2_init 2 s ([.ref (ad 2 0 0)] : List Value).toArray RX2 := ⟨hx, hb, hml, hown, hts⟩
  have hS : va_S A s.heap s.heap [] := va_S.rf
  have hl := lv_entry ([.ref (ad 2 0 0)]) (n := 2) (Nat.le_of_ble_eq_true rfl)
  rw [lg_entry_eq]
  generalize (lg_sl ([.ref (ad 2 0 0)]) ++ List.replicate (2 - (lg_sl ([.ref (ad 2 0 0)])).length) Slot.unset).toArray = ls at hl ⊢
  have hl : lv_has ls 2 [(0, .ref (ad 2 0 0))] := hl
  generalize hargs : ([.ref (ad 2 0 0)] : List Value).toArray = args at S hts ⊢
  clear hargs
  unfold f_X2_init at hf
  have hB : zB ad s.heap.size N0 N0 [] 2 0 [0] ([] : List (Nat × Nat)) 0 := zB.start hobj hfr hF
  clear hobj hfr hF
  obtain ⟨N, eN⟩ : ∃ x, x = N0 := ⟨_, rfl⟩
  have hB : zB ad s.heap.size N0 N [] 2 0 [0] ([] : List (Nat × Nat)) 0 := by rw [eN]; exact hB
  have hG : zG D aC A (N, (zks 2 0 [0] nu)) ad σ s s.heap := by rw [eN]; exact hG
  refine lv_aload_n hx hb dX2_init_0 rfl (lv_at hl 0 rfl) ?_
  refine W.objInit hx hb hown (hts _ zw_205) (hts _ zw_11) (hts _ zw_12) rfl (by rw [S.2.2.1]; exact hl.1) rfl dX2_init_1 (Nat.le_of_ble_eq_true rfl) (Nat.le_of_ble_eq_true rfl) ?_
  refine W.eq (g2 := F0 m 4 ls []) rfl ?_
  refine lv_aload_n hx hb dX2_init_4 rfl (lv_at hl 0 rfl) ?_
  refine lv_sipush (v := 280) hx hb dX2_init_5 (by decide) ?_
  refine zd_newarr (atype := .int) (c0 := 2) (i0 := 0) (k0 := 0) (N1 := 280) (n' := 1) (slots' := 280) (made' := [(2, 0, 1)]) S hG hS hZ.1 hB zw_60 (Or.inl ⟨rfl, rfl⟩) (by decide) (by decide) hp0 (by decide) (by decide) (by decide) (Nat.le_of_ble_eq_true rfl) rfl rfl rfl (Nat.le_of_ble_eq_true rfl) (Nat.le_of_ble_eq_true rfl) dX2_init_8 ?_
  clear hG hS hB
  intro H N hG hS hB hlast
  obtain ⟨σ1, eσ1, hf⟩ := zlt_s hf
  rw [← eσ1] at hG
  refine zc_putref (N := N) (nu := nu) (ty := .array .int) (c0 := 2) (i0 := 0) (k0 := 0) (T := TX2) S hG hS tyX2 tyX2_ok nmX2 hB.2.1 (fun h => hnu _ h List.mem_cons_self) rfl inlX2 (by decide) rfl rfl hin2 rfl zw_206 (by decide +kernel) rfl rfl rfl dX2_init_10 ?_
  clear hG hS
  intro H locs hG hS
  have hG : zG D aC A (N, nu) ad σ1 s _ := hG
  obtain ⟨nl, hnl⟩ : ∃ nl : zNL, nl = (N0 ++ [(2, 0, 1)], nu) := ⟨_, rfl⟩
  have hall : N = N0 ++ [(2, 0, 1)] := hB.1
  rw [hall, ← hnl] at hG
  rw [← hnl]
  have h_this : zin nl 2 0 := by
    rw [hnl, ← hall]
    refine ⟨hB.2.1, fun k h1 h2 => ?_, fun k h => hnu _ h List.mem_cons_self⟩
    have hk := (by decide +kernel : ∀ k, k < zN 2 → 4 ≤ zkd 2 k → k ∈ [0]) k h1 h2
    simp only [List.mem_cons, List.not_mem_nil, or_false] at hk
    rw [hall]
    rcases hk with rfl <;> exact List.mem_append_right _ (by simp)
  have hZ : zH zs [] A nl s := ⟨hZ.1, fun _ h => (by cases h), hZ.2.2⟩
  clear hB hall
  refine lv_aload_n hx hb dX2_init_13 rfl (lv_at hl 0 rfl) ?_
  refine lv_iconst (v := 0) hx hb dX2_init_14 (by decide) ?_
  refine zc_putI (c0 := 2) (i0 := 0) (k0 := 1) (T := TX2) S hG hS tyX2 tyX2_ok nmX2 h_this.1 (h_this.2.2 _) rfl inlX2 (by decide) rfl (Or.inl rfl) zw_207 (by decide +kernel) rfl dX2_init_15 (fun H locs hG hS => ?_)
  obtain ⟨σ2, eσ2, hf⟩ := zlt_s hf
  rw [← eσ2] at hG
  refine lv_iconst (v := 0) hx hb dX2_init_18 (by decide) ?_
  refine lv_istore_n (lv' := [(1, .int 0), (0, .ref (ad 2 0 0))]) hx hb dX2_init_19 rfl hl (by decide) rfl (fun ls hl => ?_)
  obtain ⟨t20, hw20, hfo20⟩ := zbi hf
  have KL20 : ∀ (n : Nat) (y1l20 : Int32) (σl20 : zM) (H : Heap) (locs : List Loc) (ls : Array Slot), zG D aC A nl ad σl20 s H → va_S A s.heap H locs → lv_has ls 2 [(0, .ref (ad 2 0 0)), (1, .int y1l20)] → zwh (fun (q : (Int32 × zM)) => f_X2_init_L20 q.1 q.2) n (y1l20, σl20) = some t20 → W p l e ({ frames := 1, cells := 1, slots := 280, locals := 12 } : Room) s m args below meth c H locs 1 280 (MQ below (zQ none (fun t => zG D aC A nl ad σ' t t.heap ∧ True) A) args s 1 280 A) (F0 m 20 ls []) := by
    intro n
    induction n with
    | zero =>
      intro y1l20 σl20 H locs ls hG hS hl hw
      exact (zwh_0 hw).elim
    | succ n ih20 =>
      intro y1l20 σl20 H locs ls hG hS hl hw
      obtain ⟨rr20, hf, hk20⟩ := zwh_u hw
      have hf : f_X2_init_L20 y1l20 σl20 = some rr20 := hf
      unfold f_X2_init_L20 at hf
      refine lv_iload_n hx hb dX2_init_20 rfl (lv_at hl 1 rfl) ?_
      refine lv_aload_n hx hb dX2_init_21 rfl (lv_at hl 0 rfl) ?_
      refine z_get (c0 := 2) (i0 := 0) (k0 := 0) (T := TX2) (v := .ref (ad 2 0 1)) S hG h_this rfl inlX2 (by decide) rfl zw_206 rfl dX2_init_22 ?_
      refine z_alen (c0 := 2) (i0 := 0) (k0 := 0) (n := 4) (v := 280) S hG h_this (by decide) rfl (by decide) (by rfl) dX2_init_25 ?_
      refine lv_icmp_ge (tgt := 44) hx hb dX2_init_26 (by decide) (fun c6 => ?_) (fun c6 => ?_)
      · have hf := zif_p c6 hf
        cases hf
        have hk20 : (σl20 : zM) = t20 := hk20
        have hf := hfo20
        rw [← hk20] at hf
        have hf : (some σl20) = some σ' := hf
        have hq := (Option.some.inj hf)
        subst hq
        exact z_vret S hG hS hlocks trivial hr dX2_init_44
      · have hf := zif_n c6 hf
        refine lv_aload_n hx hb dX2_init_29 rfl (lv_at hl 0 rfl) ?_
        refine z_get (c0 := 2) (i0 := 0) (k0 := 0) (T := TX2) (v := .ref (ad 2 0 1)) S hG h_this rfl inlX2 (by decide) rfl zw_206 rfl dX2_init_30 ?_
        refine lv_iload_n hx hb dX2_init_33 rfl (lv_at hl 1 rfl) ?_
        refine lv_sipush (v := 1001) hx hb dX2_init_34 (by decide) ?_
        obtain ⟨i7, hi7, hf⟩ := zbi hf
        refine z_iast (c0 := 2) (i0 := 0) (k0 := 0) S hG hS h_this (by decide) rfl hi7 dX2_init_37 (fun H locs hG hS => ?_)
        obtain ⟨σ8, eσ8, hf⟩ := zlt_s hf
        rw [← eσ8] at hG
        refine lv_iinc (v := (y1l20 + 1)) (lv' := [(1, .int (y1l20 + 1)), (0, .ref (ad 2 0 0))]) hx hb dX2_init_38 hl (k := 1) rfl rfl (by decide) rfl (fun ls hl => ?_)
        refine lv_goto (tgt := 20) hx hb dX2_init_41 (by decide) ?_
        cases hf
        exact ih20 (y1l20 + 1) σ8 H locs ls hG hS (lv_sub hl [1, 0] rfl) hk20
  exact KL20 zFu 0 σ2 H locs ls hG hS (lv_sub hl [1, 0] rfl) hw20
set_option maxRecDepth 100000 in
set_option maxHeartbeats 4000000 in
theorem c_X3_init (l : Launch) (D : va_G) (aC : Nat → ClassId) (zs : Nat × Nat) (A : Nat → Prop) (N0 nu : List (Nat × Nat × Nat)) (ad : Nat → Nat → Nat → Nat) (σ : zM)  (σ' : zM) (hobj : (3, 0, 0) ∈ N0) (hfr : ∀ k, k ∉ [0] → (3, 0, k) ∉ N0) (hF : ∀ q ∈ N0, (q.1, q.2.1) ∉ ([] : List (Nat × Nat))) (hnu : ∀ q ∈ nu, (q.1, q.2.1) ∉ ([(3, 0)] : List (Nat × Nat)))  (hf : f_X3_init σ = σ') : Met l yX3_init (Cond.code yX3_init cX3_init 1 none :: wsL_law) ({ frames := 1, cells := 4, slots := 190, locals := 12 } : Room) (zPm D aC zs [] A (N0, (zks 3 0 [0, 1, 2, 3] nu)) ad σ [.ref (ad 3 0 0)] (fun sz => ad 3 0 1 = sz + 0 ∧ ad 3 0 2 = sz + 1 ∧ ad 3 0 3 = sz + 2 ∧ ad 3 0 4 = sz + 3 ∧ True)) (zQ none (fun t => zG D aC A (N0 ++ [(3, 0, 1), (3, 0, 2), (3, 0, 3), (3, 0, 4)], nu) ad σ' t t.heap ∧ True) A) 4 190 A := by
  refine Met.ofW (cc := cX3_init) (maxL := 1) (ret := none) (by decide) rfl ?_
  intro p e s m args below meth c s₁ B hml hv
  obtain ⟨rfl, ⟨hG, hZ⟩, hp0, hp1, hp2, hp3, -⟩ := hv
  have hx := B.exec
  have hb := B.bytes
  have hr := B.returns
  have hts : ∀ w ∈ wsL_law, w.before ([.ref (ad 3 0 0)] : List Value).toArray s = true := fun w h => (atoms_spec B.pre) w (List.mem_cons_of_mem _ h)
  have hown : s.vm.findClass RX3 = some m.cls := findClass_of_methodNamed B.named
  have hlocks := B.notSynchronized
  have hin2 : meth.name = "<init>" := (name_of_methodNamed B.named B.method).1
  have S : zS p m c cX3_init 1 s ([.ref (ad 3 0 0)] : List Value).toArray RX3 := ⟨hx, hb, hml, hown, hts⟩
  have hS : va_S A s.heap s.heap [] := va_S.rf
  have hl := lv_entry ([.ref (ad 3 0 0)]) (n := 1) (Nat.le_of_ble_eq_true rfl)
  rw [lg_entry_eq]
  generalize (lg_sl ([.ref (ad 3 0 0)]) ++ List.replicate (1 - (lg_sl ([.ref (ad 3 0 0)])).length) Slot.unset).toArray = ls at hl ⊢
  have hl : lv_has ls 1 [(0, .ref (ad 3 0 0))] := hl
  generalize hargs : ([.ref (ad 3 0 0)] : List Value).toArray = args at S hts ⊢
  clear hargs
  unfold f_X3_init at hf
  have hB : zB ad s.heap.size N0 N0 [] 3 0 [0] ([] : List (Nat × Nat)) 0 := zB.start hobj hfr hF
  clear hobj hfr hF
  obtain ⟨N, eN⟩ : ∃ x, x = N0 := ⟨_, rfl⟩
  have hB : zB ad s.heap.size N0 N [] 3 0 [0] ([] : List (Nat × Nat)) 0 := by rw [eN]; exact hB
  have hG : zG D aC A (N, (zks 3 0 [0, 1, 2, 3] nu)) ad σ s s.heap := by rw [eN]; exact hG
  refine lv_aload_n hx hb dX3_init_0 rfl (lv_at hl 0 rfl) ?_
  refine W.objInit hx hb hown (hts _ zw_195) (hts _ zw_11) (hts _ zw_12) rfl (by rw [S.2.2.1]; exact hl.1) rfl dX3_init_1 (Nat.le_of_ble_eq_true rfl) (Nat.le_of_ble_eq_true rfl) ?_
  refine W.eq (g2 := F0 m 4 ls []) rfl ?_
  refine lv_aload_n hx hb dX3_init_4 rfl (lv_at hl 0 rfl) ?_
  refine lv_bipush (v := 40) hx hb dX3_init_5 (by decide) ?_
  refine zd_newarr (atype := .long) (c0 := 3) (i0 := 0) (k0 := 0) (N1 := 40) (n' := 1) (slots' := 40) (made' := [(3, 0, 1)]) S hG hS hZ.1 hB zw_66 (Or.inr (Or.inr (Or.inr ⟨rfl, rfl⟩))) (by decide) (by decide) hp0 (by decide) (by decide) (by decide) (Nat.le_of_ble_eq_true rfl) rfl rfl rfl (Nat.le_of_ble_eq_true rfl) (Nat.le_of_ble_eq_true rfl) dX3_init_7 ?_
  clear hG hS hB
  intro H N hG hS hB hlast
  obtain ⟨σ1, eσ1, hf⟩ := zlt_s hf
  rw [← eσ1] at hG
  refine zc_putref (N := N) (nu := (zks 3 0 [1, 2, 3] nu)) (ty := .array .long) (c0 := 3) (i0 := 0) (k0 := 0) (T := TX3) S hG hS tyX3 tyX3_ok nmX3 hB.2.1 (zks_n hnu (by decide)) rfl inlX3 (by decide) rfl rfl hin2 rfl zw_196 (by decide +kernel) rfl rfl rfl dX3_init_9 ?_
  clear hG hS
  intro H locs hG hS
  refine lv_aload_n hx hb dX3_init_12 rfl (lv_at hl 0 rfl) ?_
  refine lv_bipush (v := 50) hx hb dX3_init_13 (by decide) ?_
  refine zd_newarr (atype := .int) (c0 := 3) (i0 := 0) (k0 := 1) (N1 := 50) (n' := 2) (slots' := 90) (made' := [(3, 0, 1), (3, 0, 2)]) S hG hS hZ.1 hB zw_60 (Or.inl ⟨rfl, rfl⟩) (by decide) (by decide) hp1 (by decide) (by decide) (by decide) (Nat.le_of_ble_eq_true rfl) rfl rfl rfl (Nat.le_of_ble_eq_true rfl) (Nat.le_of_ble_eq_true rfl) dX3_init_15 ?_
  clear hG hS hB
  intro H N hG hS hB hlast
  obtain ⟨σ2, eσ2, hf⟩ := zlt_s hf
  rw [← eσ2] at hG
  refine zc_putref (N := N) (nu := (zks 3 0 [2, 3] nu)) (ty := .array .int) (c0 := 3) (i0 := 0) (k0 := 1) (T := TX3) S hG hS tyX3 tyX3_ok nmX3 hB.2.1 (zks_n hnu (by decide)) rfl inlX3 (by decide) rfl rfl hin2 rfl zw_197 (by decide +kernel) rfl rfl rfl dX3_init_17 ?_
  clear hG hS
  intro H locs hG hS
  refine lv_aload_n hx hb dX3_init_20 rfl (lv_at hl 0 rfl) ?_
  refine lv_bipush (v := 50) hx hb dX3_init_21 (by decide) ?_
  refine zd_newarr (atype := .int) (c0 := 3) (i0 := 0) (k0 := 2) (N1 := 50) (n' := 3) (slots' := 140) (made' := [(3, 0, 1), (3, 0, 2), (3, 0, 3)]) S hG hS hZ.1 hB zw_60 (Or.inl ⟨rfl, rfl⟩) (by decide) (by decide) hp2 (by decide) (by decide) (by decide) (Nat.le_of_ble_eq_true rfl) rfl rfl rfl (Nat.le_of_ble_eq_true rfl) (Nat.le_of_ble_eq_true rfl) dX3_init_23 ?_
  clear hG hS hB
  intro H N hG hS hB hlast
  obtain ⟨σ3, eσ3, hf⟩ := zlt_s hf
  rw [← eσ3] at hG
  refine zc_putref (N := N) (nu := (zks 3 0 [3] nu)) (ty := .array .int) (c0 := 3) (i0 := 0) (k0 := 2) (T := TX3) S hG hS tyX3 tyX3_ok nmX3 hB.2.1 (zks_n hnu (by decide)) rfl inlX3 (by decide) rfl rfl hin2 rfl zw_198 (by decide +kernel) rfl rfl rfl dX3_init_25 ?_
  clear hG hS
  intro H locs hG hS
  refine lv_aload_n hx hb dX3_init_28 rfl (lv_at hl 0 rfl) ?_
  refine lv_bipush (v := 50) hx hb dX3_init_29 (by decide) ?_
  refine zd_newarr (atype := .int) (c0 := 3) (i0 := 0) (k0 := 3) (N1 := 50) (n' := 4) (slots' := 190) (made' := [(3, 0, 1), (3, 0, 2), (3, 0, 3), (3, 0, 4)]) S hG hS hZ.1 hB zw_60 (Or.inl ⟨rfl, rfl⟩) (by decide) (by decide) hp3 (by decide) (by decide) (by decide) (Nat.le_of_ble_eq_true rfl) rfl rfl rfl (Nat.le_of_ble_eq_true rfl) (Nat.le_of_ble_eq_true rfl) dX3_init_31 ?_
  clear hG hS hB
  intro H N hG hS hB hlast
  obtain ⟨σ4, eσ4, hf⟩ := zlt_s hf
  rw [← eσ4] at hG
  refine zc_putref (N := N) (nu := nu) (ty := .array .int) (c0 := 3) (i0 := 0) (k0 := 3) (T := TX3) S hG hS tyX3 tyX3_ok nmX3 hB.2.1 (fun h => hnu _ h List.mem_cons_self) rfl inlX3 (by decide) rfl rfl hin2 rfl zw_199 (by decide +kernel) rfl rfl rfl dX3_init_33 ?_
  clear hG hS
  intro H locs hG hS
  refine lv_aload_n hx hb dX3_init_36 rfl (lv_at hl 0 rfl) ?_
  refine lv_iconst (v := 0) hx hb dX3_init_37 (by decide) ?_
  refine zc_putI (c0 := 3) (i0 := 0) (k0 := 4) (T := TX3) S hG hS tyX3 tyX3_ok nmX3 hB.2.1 (fun h => hnu _ h List.mem_cons_self) rfl inlX3 (by decide) rfl (Or.inl rfl) zw_200 (by decide +kernel) rfl dX3_init_38 (fun H locs hG hS => ?_)
  obtain ⟨σ5, eσ5, hf⟩ := zlt_s hf
  rw [← eσ5] at hG
  refine lv_aload_n hx hb dX3_init_41 rfl (lv_at hl 0 rfl) ?_
  refine lv_iconst (v := 0) hx hb dX3_init_42 (by decide) ?_
  refine zc_putI (c0 := 3) (i0 := 0) (k0 := 5) (T := TX3) S hG hS tyX3 tyX3_ok nmX3 hB.2.1 (fun h => hnu _ h List.mem_cons_self) rfl inlX3 (by decide) rfl (Or.inl rfl) zw_201 (by decide +kernel) rfl dX3_init_43 (fun H locs hG hS => ?_)
  obtain ⟨σ6, eσ6, hf⟩ := zlt_s hf
  rw [← eσ6] at hG
  have hq := hf
  subst hq
  rw [hB.1] at hG
  exact z_vret S hG hS hlocks trivial hr dX3_init_46
set_option maxRecDepth 100000 in
set_option maxHeartbeats 4000000 in
theorem c_X6_init (l : Launch) (D : va_G) (aC : Nat → ClassId) (zs : Nat × Nat) (A : Nat → Prop) (N0 nu : List (Nat × Nat × Nat)) (ad : Nat → Nat → Nat → Nat) (σ : zM) (o : Nat) (σ' : zM) (hobj : (6, o, 0) ∈ N0) (hfr : ∀ k, k ∉ [0] → (6, o, k) ∉ N0) (hF : ∀ q ∈ N0, (q.1, q.2.1) ∉ ([] : List (Nat × Nat))) (hnu : ∀ q ∈ nu, (q.1, q.2.1) ∉ ([(6, o)] : List (Nat × Nat)))  (hf : f_X6_init σ o = σ') : Met l yX6_init (Cond.code yX6_init cX6_init 1 none :: wsL_law) ({ frames := 1, cells := 6, slots := 114, locals := 12 } : Room) (zPm D aC zs [] A (N0, (zks 6 o [0, 1, 2, 3, 4, 5] nu)) ad σ [.ref (ad 6 o 0)] (fun sz => ad 6 o 1 = sz + 0 ∧ ad 6 o 2 = sz + 1 ∧ ad 6 o 3 = sz + 2 ∧ ad 6 o 4 = sz + 3 ∧ ad 6 o 5 = sz + 4 ∧ ad 6 o 6 = sz + 5 ∧ True)) (zQ none (fun t => zG D aC A (N0 ++ [(6, o, 1), (6, o, 2), (6, o, 3), (6, o, 4), (6, o, 5), (6, o, 6)], nu) ad σ' t t.heap ∧ True) A) 6 114 A := by
  refine Met.ofW (cc := cX6_init) (maxL := 1) (ret := none) (by decide) rfl ?_
  intro p e s m args below meth c s₁ B hml hv
  obtain ⟨rfl, ⟨hG, hZ⟩, hp0, hp1, hp2, hp3, hp4, hp5, -⟩ := hv
  have hx := B.exec
  have hb := B.bytes
  have hr := B.returns
  have hts : ∀ w ∈ wsL_law, w.before ([.ref (ad 6 o 0)] : List Value).toArray s = true := fun w h => (atoms_spec B.pre) w (List.mem_cons_of_mem _ h)
  have hown : s.vm.findClass RX6 = some m.cls := findClass_of_methodNamed B.named
  have hlocks := B.notSynchronized
  have hin2 : meth.name = "<init>" := (name_of_methodNamed B.named B.method).1
  have S : zS p m c cX6_init 1 s ([.ref (ad 6 o 0)] : List Value).toArray RX6 := ⟨hx, hb, hml, hown, hts⟩
  have hS : va_S A s.heap s.heap [] := va_S.rf
  have hl := lv_entry ([.ref (ad 6 o 0)]) (n := 1) (Nat.le_of_ble_eq_true rfl)
  rw [lg_entry_eq]
  generalize (lg_sl ([.ref (ad 6 o 0)]) ++ List.replicate (1 - (lg_sl ([.ref (ad 6 o 0)])).length) Slot.unset).toArray = ls at hl ⊢
  have hl : lv_has ls 1 [(0, .ref (ad 6 o 0))] := hl
  generalize hargs : ([.ref (ad 6 o 0)] : List Value).toArray = args at S hts ⊢
  clear hargs
  unfold f_X6_init at hf
  have hB : zB ad s.heap.size N0 N0 [] 6 o [0] ([] : List (Nat × Nat)) 0 := zB.start hobj hfr hF
  clear hobj hfr hF
  obtain ⟨N, eN⟩ : ∃ x, x = N0 := ⟨_, rfl⟩
  have hB : zB ad s.heap.size N0 N [] 6 o [0] ([] : List (Nat × Nat)) 0 := by rw [eN]; exact hB
  have hG : zG D aC A (N, (zks 6 o [0, 1, 2, 3, 4, 5] nu)) ad σ s s.heap := by rw [eN]; exact hG
  refine lv_aload_n hx hb dX6_init_0 rfl (lv_at hl 0 rfl) ?_
  refine W.objInit hx hb hown (hts _ zw_210) (hts _ zw_11) (hts _ zw_12) rfl (by rw [S.2.2.1]; exact hl.1) rfl dX6_init_1 (Nat.le_of_ble_eq_true rfl) (Nat.le_of_ble_eq_true rfl) ?_
  refine W.eq (g2 := F0 m 4 ls []) rfl ?_
  refine lv_aload_n hx hb dX6_init_4 rfl (lv_at hl 0 rfl) ?_
  refine lv_bipush (v := 10) hx hb dX6_init_5 (by decide) ?_
  refine zd_newarr (atype := .boolean) (c0 := 6) (i0 := o) (k0 := 0) (N1 := 10) (n' := 1) (slots' := 10) (made' := [(6, o, 1)]) S hG hS hZ.1 hB zw_114 (Or.inr (Or.inr (Or.inl ⟨rfl, rfl⟩))) (by decide) (fun h => by cases h) hp0 (by decide) (by decide) (by rfl) (Nat.le_of_ble_eq_true rfl) rfl rfl rfl (Nat.le_of_ble_eq_true rfl) (Nat.le_of_ble_eq_true rfl) dX6_init_7 ?_
  clear hG hS hB
  intro H N hG hS hB hlast
  obtain ⟨σ1, eσ1, hf⟩ := zlt_s hf
  rw [← eσ1] at hG
  refine zc_putref (N := N) (nu := (zks 6 o [1, 2, 3, 4, 5] nu)) (ty := .array .boolean) (c0 := 6) (i0 := o) (k0 := 0) (T := TX6) S hG hS tyX6 tyX6_ok nmX6 hB.2.1 (zks_n hnu (by decide)) rfl inlX6 (by decide) rfl rfl hin2 rfl zw_211 (by decide +kernel) rfl rfl rfl dX6_init_9 ?_
  clear hG hS
  intro H locs hG hS
  refine lv_aload_n hx hb dX6_init_12 rfl (lv_at hl 0 rfl) ?_
  refine lv_bipush (v := 70) hx hb dX6_init_13 (by decide) ?_
  refine zd_newarr (atype := .int) (c0 := 6) (i0 := o) (k0 := 1) (N1 := 70) (n' := 2) (slots' := 80) (made' := [(6, o, 1), (6, o, 2)]) S hG hS hZ.1 hB zw_60 (Or.inl ⟨rfl, rfl⟩) (by decide) (fun h => by cases h) hp1 (by decide) (by decide) (by rfl) (Nat.le_of_ble_eq_true rfl) rfl rfl rfl (Nat.le_of_ble_eq_true rfl) (Nat.le_of_ble_eq_true rfl) dX6_init_15 ?_
  clear hG hS hB
  intro H N hG hS hB hlast
  obtain ⟨σ2, eσ2, hf⟩ := zlt_s hf
  rw [← eσ2] at hG
  refine zc_putref (N := N) (nu := (zks 6 o [2, 3, 4, 5] nu)) (ty := .array .int) (c0 := 6) (i0 := o) (k0 := 1) (T := TX6) S hG hS tyX6 tyX6_ok nmX6 hB.2.1 (zks_n hnu (by decide)) rfl inlX6 (by decide) rfl rfl hin2 rfl zw_212 (by decide +kernel) rfl rfl rfl dX6_init_17 ?_
  clear hG hS
  intro H locs hG hS
  refine lv_aload_n hx hb dX6_init_20 rfl (lv_at hl 0 rfl) ?_
  refine lv_bipush (v := 7) hx hb dX6_init_21 (by decide) ?_
  refine zd_newarr (atype := .int) (c0 := 6) (i0 := o) (k0 := 2) (N1 := 7) (n' := 3) (slots' := 87) (made' := [(6, o, 1), (6, o, 2), (6, o, 3)]) S hG hS hZ.1 hB zw_60 (Or.inl ⟨rfl, rfl⟩) (by decide) (fun h => by cases h) hp2 (by decide) (by decide) (by rfl) (Nat.le_of_ble_eq_true rfl) rfl rfl rfl (Nat.le_of_ble_eq_true rfl) (Nat.le_of_ble_eq_true rfl) dX6_init_23 ?_
  clear hG hS hB
  intro H N hG hS hB hlast
  obtain ⟨σ3, eσ3, hf⟩ := zlt_s hf
  rw [← eσ3] at hG
  refine zc_putref (N := N) (nu := (zks 6 o [3, 4, 5] nu)) (ty := .array .int) (c0 := 6) (i0 := o) (k0 := 2) (T := TX6) S hG hS tyX6 tyX6_ok nmX6 hB.2.1 (zks_n hnu (by decide)) rfl inlX6 (by decide) rfl rfl hin2 rfl zw_213 (by decide +kernel) rfl rfl rfl dX6_init_25 ?_
  clear hG hS
  intro H locs hG hS
  refine lv_aload_n hx hb dX6_init_28 rfl (lv_at hl 0 rfl) ?_
  refine lv_bipush (v := 7) hx hb dX6_init_29 (by decide) ?_
  refine zd_newarr (atype := .boolean) (c0 := 6) (i0 := o) (k0 := 3) (N1 := 7) (n' := 4) (slots' := 94) (made' := [(6, o, 1), (6, o, 2), (6, o, 3), (6, o, 4)]) S hG hS hZ.1 hB zw_114 (Or.inr (Or.inr (Or.inl ⟨rfl, rfl⟩))) (by decide) (fun h => by cases h) hp3 (by decide) (by decide) (by rfl) (Nat.le_of_ble_eq_true rfl) rfl rfl rfl (Nat.le_of_ble_eq_true rfl) (Nat.le_of_ble_eq_true rfl) dX6_init_31 ?_
  clear hG hS hB
  intro H N hG hS hB hlast
  obtain ⟨σ4, eσ4, hf⟩ := zlt_s hf
  rw [← eσ4] at hG
  refine zc_putref (N := N) (nu := (zks 6 o [4, 5] nu)) (ty := .array .boolean) (c0 := 6) (i0 := o) (k0 := 3) (T := TX6) S hG hS tyX6 tyX6_ok nmX6 hB.2.1 (zks_n hnu (by decide)) rfl inlX6 (by decide) rfl rfl hin2 rfl zw_214 (by decide +kernel) rfl rfl rfl dX6_init_33 ?_
  clear hG hS
  intro H locs hG hS
  refine lv_aload_n hx hb dX6_init_36 rfl (lv_at hl 0 rfl) ?_
  refine lv_bipush (v := 10) hx hb dX6_init_37 (by decide) ?_
  refine zd_newarr (atype := .int) (c0 := 6) (i0 := o) (k0 := 4) (N1 := 10) (n' := 5) (slots' := 104) (made' := [(6, o, 1), (6, o, 2), (6, o, 3), (6, o, 4), (6, o, 5)]) S hG hS hZ.1 hB zw_60 (Or.inl ⟨rfl, rfl⟩) (by decide) (fun h => by cases h) hp4 (by decide) (by decide) (by rfl) (Nat.le_of_ble_eq_true rfl) rfl rfl rfl (Nat.le_of_ble_eq_true rfl) (Nat.le_of_ble_eq_true rfl) dX6_init_39 ?_
  clear hG hS hB
  intro H N hG hS hB hlast
  obtain ⟨σ5, eσ5, hf⟩ := zlt_s hf
  rw [← eσ5] at hG
  refine zc_putref (N := N) (nu := (zks 6 o [5] nu)) (ty := .array .int) (c0 := 6) (i0 := o) (k0 := 4) (T := TX6) S hG hS tyX6 tyX6_ok nmX6 hB.2.1 (zks_n hnu (by decide)) rfl inlX6 (by decide) rfl rfl hin2 rfl zw_215 (by decide +kernel) rfl rfl rfl dX6_init_41 ?_
  clear hG hS
  intro H locs hG hS
  refine lv_aload_n hx hb dX6_init_44 rfl (lv_at hl 0 rfl) ?_
  refine lv_bipush (v := 10) hx hb dX6_init_45 (by decide) ?_
  refine zd_newarr (atype := .int) (c0 := 6) (i0 := o) (k0 := 5) (N1 := 10) (n' := 6) (slots' := 114) (made' := [(6, o, 1), (6, o, 2), (6, o, 3), (6, o, 4), (6, o, 5), (6, o, 6)]) S hG hS hZ.1 hB zw_60 (Or.inl ⟨rfl, rfl⟩) (by decide) (fun h => by cases h) hp5 (by decide) (by decide) (by rfl) (Nat.le_of_ble_eq_true rfl) rfl rfl rfl (Nat.le_of_ble_eq_true rfl) (Nat.le_of_ble_eq_true rfl) dX6_init_47 ?_
  clear hG hS hB
  intro H N hG hS hB hlast
  obtain ⟨σ6, eσ6, hf⟩ := zlt_s hf
  rw [← eσ6] at hG
  refine zc_putref (N := N) (nu := nu) (ty := .array .int) (c0 := 6) (i0 := o) (k0 := 5) (T := TX6) S hG hS tyX6 tyX6_ok nmX6 hB.2.1 (fun h => hnu _ h List.mem_cons_self) rfl inlX6 (by decide) rfl rfl hin2 rfl zw_216 (by decide +kernel) rfl rfl rfl dX6_init_49 ?_
  clear hG hS
  intro H locs hG hS
  refine lv_aload_n hx hb dX6_init_52 rfl (lv_at hl 0 rfl) ?_
  refine lv_iconst (v := 0) hx hb dX6_init_53 (by decide) ?_
  refine zc_putI (c0 := 6) (i0 := o) (k0 := 6) (T := TX6) S hG hS tyX6 tyX6_ok nmX6 hB.2.1 (fun h => hnu _ h List.mem_cons_self) rfl inlX6 (by decide) rfl (Or.inl rfl) zw_217 (by decide +kernel) rfl dX6_init_54 (fun H locs hG hS => ?_)
  obtain ⟨σ7, eσ7, hf⟩ := zlt_s hf
  rw [← eσ7] at hG
  refine lv_aload_n hx hb dX6_init_57 rfl (lv_at hl 0 rfl) ?_
  refine lv_iconst (v := 0) hx hb dX6_init_58 (by decide) ?_
  refine zc_putI (c0 := 6) (i0 := o) (k0 := 7) (T := TX6) S hG hS tyX6 tyX6_ok nmX6 hB.2.1 (fun h => hnu _ h List.mem_cons_self) rfl inlX6 (by decide) rfl (Or.inl rfl) zw_218 (by decide +kernel) rfl dX6_init_59 (fun H locs hG hS => ?_)
  obtain ⟨σ8, eσ8, hf⟩ := zlt_s hf
  rw [← eσ8] at hG
  refine lv_aload_n hx hb dX6_init_62 rfl (lv_at hl 0 rfl) ?_
  refine lv_iconst (v := 0) hx hb dX6_init_63 (by decide) ?_
  refine zc_putI (c0 := 6) (i0 := o) (k0 := 8) (T := TX6) S hG hS tyX6 tyX6_ok nmX6 hB.2.1 (fun h => hnu _ h List.mem_cons_self) rfl inlX6 (by decide) rfl (Or.inl rfl) zw_219 (by decide +kernel) rfl dX6_init_64 (fun H locs hG hS => ?_)
  obtain ⟨σ9, eσ9, hf⟩ := zlt_s hf
  rw [← eσ9] at hG
  have hq := hf
  subst hq
  rw [hB.1] at hG
  exact z_vret S hG hS hlocks trivial hr dX6_init_67
set_option maxRecDepth 100000 in
set_option maxHeartbeats 4000000 in
theorem c_X8_init (l : Launch) (D : va_G) (aC : Nat → ClassId) (zs : Nat × Nat) (A : Nat → Prop) (N0 nu : List (Nat × Nat × Nat)) (ad : Nat → Nat → Nat → Nat) (σ : zM)  (σ' : zM) (hobj : (8, 0, 0) ∈ N0) (hfr : ∀ k, k ∉ [0] → (8, 0, k) ∉ N0) (hF : ∀ q ∈ N0, (q.1, q.2.1) ∉ ([] : List (Nat × Nat))) (hnu : ∀ q ∈ nu, (q.1, q.2.1) ∉ ([(8, 0)] : List (Nat × Nat)))  (hf : f_X8_init σ = σ') : Met l yX8_init (Cond.code yX8_init cX8_init 1 none :: wsL_law) ({ frames := 1, cells := 4, slots := 409, locals := 12 } : Room) (zPm D aC zs [] A (N0, (zks 8 0 [0, 1, 2, 3] nu)) ad σ [.ref (ad 8 0 0)] (fun sz => ad 8 0 1 = sz + 0 ∧ ad 8 0 2 = sz + 1 ∧ ad 8 0 3 = sz + 2 ∧ ad 8 0 4 = sz + 3 ∧ True)) (zQ none (fun t => zG D aC A (N0 ++ [(8, 0, 1), (8, 0, 2), (8, 0, 3), (8, 0, 4)], nu) ad σ' t t.heap ∧ True) A) 4 409 A := by
  refine Met.ofW (cc := cX8_init) (maxL := 1) (ret := none) (by decide) rfl ?_
  intro p e s m args below meth c s₁ B hml hv
  obtain ⟨rfl, ⟨hG, hZ⟩, hp0, hp1, hp2, hp3, -⟩ := hv
  have hx := B.exec
  have hb := B.bytes
  have hr := B.returns
  have hts : ∀ w ∈ wsL_law, w.before ([.ref (ad 8 0 0)] : List Value).toArray s = true := fun w h => (atoms_spec B.pre) w (List.mem_cons_of_mem _ h)
  have hown : s.vm.findClass RX8 = some m.cls := findClass_of_methodNamed B.named
  have hlocks := B.notSynchronized
  have hin2 : meth.name = "<init>" := (name_of_methodNamed B.named B.method).1
  have S : zS p m c cX8_init 1 s ([.ref (ad 8 0 0)] : List Value).toArray RX8 := ⟨hx, hb, hml, hown, hts⟩
  have hS : va_S A s.heap s.heap [] := va_S.rf
  have hl := lv_entry ([.ref (ad 8 0 0)]) (n := 1) (Nat.le_of_ble_eq_true rfl)
  rw [lg_entry_eq]
  generalize (lg_sl ([.ref (ad 8 0 0)]) ++ List.replicate (1 - (lg_sl ([.ref (ad 8 0 0)])).length) Slot.unset).toArray = ls at hl ⊢
  have hl : lv_has ls 1 [(0, .ref (ad 8 0 0))] := hl
  generalize hargs : ([.ref (ad 8 0 0)] : List Value).toArray = args at S hts ⊢
  clear hargs
  unfold f_X8_init at hf
  have hB : zB ad s.heap.size N0 N0 [] 8 0 [0] ([] : List (Nat × Nat)) 0 := zB.start hobj hfr hF
  clear hobj hfr hF
  obtain ⟨N, eN⟩ : ∃ x, x = N0 := ⟨_, rfl⟩
  have hB : zB ad s.heap.size N0 N [] 8 0 [0] ([] : List (Nat × Nat)) 0 := by rw [eN]; exact hB
  have hG : zG D aC A (N, (zks 8 0 [0, 1, 2, 3] nu)) ad σ s s.heap := by rw [eN]; exact hG
  refine lv_aload_n hx hb dX8_init_0 rfl (lv_at hl 0 rfl) ?_
  refine W.objInit hx hb hown (hts _ zw_187) (hts _ zw_11) (hts _ zw_12) rfl (by rw [S.2.2.1]; exact hl.1) rfl dX8_init_1 (Nat.le_of_ble_eq_true rfl) (Nat.le_of_ble_eq_true rfl) ?_
  refine W.eq (g2 := F0 m 4 ls []) rfl ?_
  refine lv_aload_n hx hb dX8_init_4 rfl (lv_at hl 0 rfl) ?_
  refine lv_iconst (v := 4) hx hb dX8_init_5 (by decide) ?_
  refine zd_newarr (atype := .int) (c0 := 8) (i0 := 0) (k0 := 0) (N1 := 4) (n' := 1) (slots' := 4) (made' := [(8, 0, 1)]) S hG hS hZ.1 hB zw_60 (Or.inl ⟨rfl, rfl⟩) (by decide) (by decide) hp0 (by decide) (by decide) (by decide) (Nat.le_of_ble_eq_true rfl) rfl rfl rfl (Nat.le_of_ble_eq_true rfl) (Nat.le_of_ble_eq_true rfl) dX8_init_6 ?_
  clear hG hS hB
  intro H N hG hS hB hlast
  obtain ⟨σ1, eσ1, hf⟩ := zlt_s hf
  rw [← eσ1] at hG
  refine lv_dup hx hb dX8_init_8 rfl ?_
  refine lv_iconst (v := 0) hx hb dX8_init_9 (by decide) ?_
  refine lv_iconst (v := 4) hx hb dX8_init_10 (by decide) ?_
  refine zc_iast (c0 := 8) (i0 := 0) (k0 := 0) (j := 0) S hG hS hlast rfl (by decide) dX8_init_11 (fun H locs hG hS => ?_)
  obtain ⟨σ2, eσ2, hf⟩ := zlt_s hf
  rw [← eσ2] at hG
  refine lv_dup hx hb dX8_init_12 rfl ?_
  refine lv_iconst (v := 1) hx hb dX8_init_13 (by decide) ?_
  refine lv_bipush (v := 6) hx hb dX8_init_14 (by decide) ?_
  refine zc_iast (c0 := 8) (i0 := 0) (k0 := 0) (j := 1) S hG hS hlast rfl (by decide) dX8_init_16 (fun H locs hG hS => ?_)
  obtain ⟨σ3, eσ3, hf⟩ := zlt_s hf
  rw [← eσ3] at hG
  refine lv_dup hx hb dX8_init_17 rfl ?_
  refine lv_iconst (v := 2) hx hb dX8_init_18 (by decide) ?_
  refine lv_bipush (v := 8) hx hb dX8_init_19 (by decide) ?_
  refine zc_iast (c0 := 8) (i0 := 0) (k0 := 0) (j := 2) S hG hS hlast rfl (by decide) dX8_init_21 (fun H locs hG hS => ?_)
  obtain ⟨σ4, eσ4, hf⟩ := zlt_s hf
  rw [← eσ4] at hG
  refine lv_dup hx hb dX8_init_22 rfl ?_
  refine lv_iconst (v := 3) hx hb dX8_init_23 (by decide) ?_
  refine lv_bipush (v := 6) hx hb dX8_init_24 (by decide) ?_
  refine zc_iast (c0 := 8) (i0 := 0) (k0 := 0) (j := 3) S hG hS hlast rfl (by decide) dX8_init_26 (fun H locs hG hS => ?_)
  obtain ⟨σ5, eσ5, hf⟩ := zlt_s hf
  rw [← eσ5] at hG
  refine zc_putref (N := N) (nu := (zks 8 0 [1, 2, 3] nu)) (ty := .array .int) (c0 := 8) (i0 := 0) (k0 := 0) (T := TX8) S hG hS tyX8 tyX8_ok nmX8 hB.2.1 (zks_n hnu (by decide)) rfl inlX8 (by decide) rfl rfl hin2 rfl zw_188 (by decide +kernel) rfl rfl rfl dX8_init_27 ?_
  clear hG hS
  intro H locs hG hS
  refine lv_aload_n hx hb dX8_init_30 rfl (lv_at hl 0 rfl) ?_
  refine lv_sipush (v := 160) hx hb dX8_init_31 (by decide) ?_
  refine zd_newarr (atype := .int) (c0 := 8) (i0 := 0) (k0 := 1) (N1 := 160) (n' := 2) (slots' := 164) (made' := [(8, 0, 1), (8, 0, 2)]) S hG hS hZ.1 hB zw_60 (Or.inl ⟨rfl, rfl⟩) (by decide) (by decide) hp1 (by decide) (by decide) (by decide) (Nat.le_of_ble_eq_true rfl) rfl rfl rfl (Nat.le_of_ble_eq_true rfl) (Nat.le_of_ble_eq_true rfl) dX8_init_34 ?_
  clear hG hS hB
  intro H N hG hS hB hlast
  obtain ⟨σ6, eσ6, hf⟩ := zlt_s hf
  rw [← eσ6] at hG
  refine zc_putref (N := N) (nu := (zks 8 0 [2, 3] nu)) (ty := .array .int) (c0 := 8) (i0 := 0) (k0 := 1) (T := TX8) S hG hS tyX8 tyX8_ok nmX8 hB.2.1 (zks_n hnu (by decide)) rfl inlX8 (by decide) rfl rfl hin2 rfl zw_189 (by decide +kernel) rfl rfl rfl dX8_init_36 ?_
  clear hG hS
  intro H locs hG hS
  refine lv_aload_n hx hb dX8_init_39 rfl (lv_at hl 0 rfl) ?_
  refine lv_sipush (v := 240) hx hb dX8_init_40 (by decide) ?_
  refine zd_newarr (atype := .int) (c0 := 8) (i0 := 0) (k0 := 2) (N1 := 240) (n' := 3) (slots' := 404) (made' := [(8, 0, 1), (8, 0, 2), (8, 0, 3)]) S hG hS hZ.1 hB zw_60 (Or.inl ⟨rfl, rfl⟩) (by decide) (by decide) hp2 (by decide) (by decide) (by decide) (Nat.le_of_ble_eq_true rfl) rfl rfl rfl (Nat.le_of_ble_eq_true rfl) (Nat.le_of_ble_eq_true rfl) dX8_init_43 ?_
  clear hG hS hB
  intro H N hG hS hB hlast
  obtain ⟨σ7, eσ7, hf⟩ := zlt_s hf
  rw [← eσ7] at hG
  refine zc_putref (N := N) (nu := (zks 8 0 [3] nu)) (ty := .array .int) (c0 := 8) (i0 := 0) (k0 := 2) (T := TX8) S hG hS tyX8 tyX8_ok nmX8 hB.2.1 (zks_n hnu (by decide)) rfl inlX8 (by decide) rfl rfl hin2 rfl zw_190 (by decide +kernel) rfl rfl rfl dX8_init_45 ?_
  clear hG hS
  intro H locs hG hS
  refine lv_aload_n hx hb dX8_init_48 rfl (lv_at hl 0 rfl) ?_
  refine lv_iconst (v := 5) hx hb dX8_init_49 (by decide) ?_
  refine zd_newarr (atype := .int) (c0 := 8) (i0 := 0) (k0 := 3) (N1 := 5) (n' := 4) (slots' := 409) (made' := [(8, 0, 1), (8, 0, 2), (8, 0, 3), (8, 0, 4)]) S hG hS hZ.1 hB zw_60 (Or.inl ⟨rfl, rfl⟩) (by decide) (by decide) hp3 (by decide) (by decide) (by decide) (Nat.le_of_ble_eq_true rfl) rfl rfl rfl (Nat.le_of_ble_eq_true rfl) (Nat.le_of_ble_eq_true rfl) dX8_init_50 ?_
  clear hG hS hB
  intro H N hG hS hB hlast
  obtain ⟨σ8, eσ8, hf⟩ := zlt_s hf
  rw [← eσ8] at hG
  refine zc_putref (N := N) (nu := nu) (ty := .array .int) (c0 := 8) (i0 := 0) (k0 := 3) (T := TX8) S hG hS tyX8 tyX8_ok nmX8 hB.2.1 (fun h => hnu _ h List.mem_cons_self) rfl inlX8 (by decide) rfl rfl hin2 rfl zw_191 (by decide +kernel) rfl rfl rfl dX8_init_52 ?_
  clear hG hS
  intro H locs hG hS
  refine lv_aload_n hx hb dX8_init_55 rfl (lv_at hl 0 rfl) ?_
  refine lv_iconst (v := (-1)) hx hb dX8_init_56 (by decide) ?_
  refine zc_putI (c0 := 8) (i0 := 0) (k0 := 4) (T := TX8) S hG hS tyX8 tyX8_ok nmX8 hB.2.1 (fun h => hnu _ h List.mem_cons_self) rfl inlX8 (by decide) rfl (Or.inl rfl) zw_192 (by decide +kernel) rfl dX8_init_57 (fun H locs hG hS => ?_)
  obtain ⟨σ9, eσ9, hf⟩ := zlt_s hf
  rw [← eσ9] at hG
  have hq := hf
  subst hq
  rw [hB.1] at hG
  exact z_vret S hG hS hlocks trivial hr dX8_init_60
set_option maxRecDepth 100000 in
set_option maxHeartbeats 4000000 in
theorem c_X7_init (l : Launch) (D : va_G) (aC : Nat → ClassId) (zs : Nat × Nat) (A : Nat → Prop) (N0 nu : List (Nat × Nat × Nat)) (ad : Nat → Nat → Nat → Nat) (σ : zM) (o : Nat) (x1 : Int32) (σ' : zM) (hobj : (7, o, 0) ∈ N0) (hfr : ∀ k, k ∉ [0] → (7, o, k) ∉ N0) (hF : ∀ q ∈ N0, (q.1, q.2.1) ∉ ([] : List (Nat × Nat))) (hnu : ∀ q ∈ nu, (q.1, q.2.1) ∉ ([(7, o)] : List (Nat × Nat)))  (hf : f_X7_init σ o x1 = σ') : Met l yX7_init (Cond.code yX7_init cX7_init 2 none :: wsL_law) ({ frames := 1, cells := 3, slots := 257, locals := 12 } : Room) (zPm D aC zs [] A (N0, (zks 7 o [2, 3, 4] nu)) ad σ [.ref (ad 7 o 0), .int x1] (fun sz => ad 7 o 3 = sz + 0 ∧ ad 7 o 4 = sz + 1 ∧ ad 7 o 5 = sz + 2 ∧ True)) (zQ none (fun t => zG D aC A (N0 ++ [(7, o, 3), (7, o, 4), (7, o, 5)], nu) ad σ' t t.heap ∧ True) A) 3 257 A := by
  refine Met.ofW (cc := cX7_init) (maxL := 2) (ret := none) (by decide) rfl ?_
  intro p e s m args below meth c s₁ B hml hv
  obtain ⟨rfl, ⟨hG, hZ⟩, hp0, hp1, hp2, -⟩ := hv
  have hx := B.exec
  have hb := B.bytes
  have hr := B.returns
  have hts : ∀ w ∈ wsL_law, w.before ([.ref (ad 7 o 0), .int x1] : List Value).toArray s = true := fun w h => (atoms_spec B.pre) w (List.mem_cons_of_mem _ h)
  have hown : s.vm.findClass RX7 = some m.cls := findClass_of_methodNamed B.named
  have hlocks := B.notSynchronized
  have hin2 : meth.name = "<init>" := (name_of_methodNamed B.named B.method).1
  have S : zS p m c cX7_init 2 s ([.ref (ad 7 o 0), .int x1] : List Value).toArray RX7 := ⟨hx, hb, hml, hown, hts⟩
  have hS : va_S A s.heap s.heap [] := va_S.rf
  have hl := lv_entry ([.ref (ad 7 o 0), .int x1]) (n := 2) (Nat.le_of_ble_eq_true rfl)
  rw [lg_entry_eq]
  generalize (lg_sl ([.ref (ad 7 o 0), .int x1]) ++ List.replicate (2 - (lg_sl ([.ref (ad 7 o 0), .int x1])).length) Slot.unset).toArray = ls at hl ⊢
  have hl : lv_has ls 2 [(0, .ref (ad 7 o 0)), (1, .int x1)] := hl
  generalize hargs : ([.ref (ad 7 o 0), .int x1] : List Value).toArray = args at S hts ⊢
  clear hargs
  unfold f_X7_init at hf
  have hB : zB ad s.heap.size N0 N0 [] 7 o [0] ([] : List (Nat × Nat)) 0 := zB.start hobj hfr hF
  clear hobj hfr hF
  obtain ⟨N, eN⟩ : ∃ x, x = N0 := ⟨_, rfl⟩
  have hB : zB ad s.heap.size N0 N [] 7 o [0] ([] : List (Nat × Nat)) 0 := by rw [eN]; exact hB
  have hG : zG D aC A (N, (zks 7 o [2, 3, 4] nu)) ad σ s s.heap := by rw [eN]; exact hG
  refine lv_aload_n hx hb dX7_init_0 rfl (lv_at hl 0 rfl) ?_
  refine W.objInit hx hb hown (hts _ zw_790) (hts _ zw_11) (hts _ zw_12) rfl (by rw [S.2.2.1]; exact hl.1) rfl dX7_init_1 (Nat.le_of_ble_eq_true rfl) (Nat.le_of_ble_eq_true rfl) ?_
  refine W.eq (g2 := F0 m 4 ls []) rfl ?_
  refine lv_aload_n hx hb dX7_init_4 rfl (lv_at hl 0 rfl) ?_
  refine lv_iconst (v := (-1)) hx hb dX7_init_5 (by decide) ?_
  refine zc_putI (c0 := 7) (i0 := o) (k0 := 1) (T := TX7) S hG hS tyX7 tyX7_ok nmX7 hB.2.1 (zks_n hnu (by decide)) rfl inlX7 (by decide) rfl (Or.inl rfl) zw_791 (by decide +kernel) rfl dX7_init_6 (fun H locs hG hS => ?_)
  obtain ⟨σ1, eσ1, hf⟩ := zlt_s hf
  rw [← eσ1] at hG
  refine lv_aload_n hx hb dX7_init_9 rfl (lv_at hl 0 rfl) ?_
  refine lv_sipush (v := 240) hx hb dX7_init_10 (by decide) ?_
  refine zd_newarr (atype := .int) (c0 := 7) (i0 := o) (k0 := 2) (N1 := 240) (n' := 1) (slots' := 240) (made' := [(7, o, 3)]) S hG hS hZ.1 hB zw_60 (Or.inl ⟨rfl, rfl⟩) (by decide) (fun h => by cases h) hp0 (by decide) (by decide) (by rfl) (Nat.le_of_ble_eq_true rfl) rfl rfl rfl (Nat.le_of_ble_eq_true rfl) (Nat.le_of_ble_eq_true rfl) dX7_init_13 ?_
  clear hG hS hB
  intro H N hG hS hB hlast
  obtain ⟨σ2, eσ2, hf⟩ := zlt_s hf
  rw [← eσ2] at hG
  refine zc_putref (N := N) (nu := (zks 7 o [3, 4] nu)) (ty := .array .int) (c0 := 7) (i0 := o) (k0 := 2) (T := TX7) S hG hS tyX7 tyX7_ok nmX7 hB.2.1 (zks_n hnu (by decide)) rfl inlX7 (by decide) rfl rfl hin2 rfl zw_792 (by decide +kernel) rfl rfl rfl dX7_init_15 ?_
  clear hG hS
  intro H locs hG hS
  refine lv_aload_n hx hb dX7_init_18 rfl (lv_at hl 0 rfl) ?_
  refine lv_bipush (v := 15) hx hb dX7_init_19 (by decide) ?_
  refine zd_newarr (atype := .int) (c0 := 7) (i0 := o) (k0 := 3) (N1 := 15) (n' := 2) (slots' := 255) (made' := [(7, o, 3), (7, o, 4)]) S hG hS hZ.1 hB zw_60 (Or.inl ⟨rfl, rfl⟩) (by decide) (fun h => by cases h) hp1 (by decide) (by decide) (by rfl) (Nat.le_of_ble_eq_true rfl) rfl rfl rfl (Nat.le_of_ble_eq_true rfl) (Nat.le_of_ble_eq_true rfl) dX7_init_21 ?_
  clear hG hS hB
  intro H N hG hS hB hlast
  obtain ⟨σ3, eσ3, hf⟩ := zlt_s hf
  rw [← eσ3] at hG
  refine zc_putref (N := N) (nu := (zks 7 o [4] nu)) (ty := .array .int) (c0 := 7) (i0 := o) (k0 := 3) (T := TX7) S hG hS tyX7 tyX7_ok nmX7 hB.2.1 (zks_n hnu (by decide)) rfl inlX7 (by decide) rfl rfl hin2 rfl zw_793 (by decide +kernel) rfl rfl rfl dX7_init_23 ?_
  clear hG hS
  intro H locs hG hS
  refine lv_aload_n hx hb dX7_init_26 rfl (lv_at hl 0 rfl) ?_
  refine lv_iconst (v := 2) hx hb dX7_init_27 (by decide) ?_
  refine zd_newarr (atype := .int) (c0 := 7) (i0 := o) (k0 := 4) (N1 := 2) (n' := 3) (slots' := 257) (made' := [(7, o, 3), (7, o, 4), (7, o, 5)]) S hG hS hZ.1 hB zw_60 (Or.inl ⟨rfl, rfl⟩) (by decide) (fun h => by cases h) hp2 (by decide) (by decide) (by rfl) (Nat.le_of_ble_eq_true rfl) rfl rfl rfl (Nat.le_of_ble_eq_true rfl) (Nat.le_of_ble_eq_true rfl) dX7_init_28 ?_
  clear hG hS hB
  intro H N hG hS hB hlast
  obtain ⟨σ4, eσ4, hf⟩ := zlt_s hf
  rw [← eσ4] at hG
  refine zc_putref (N := N) (nu := nu) (ty := .array .int) (c0 := 7) (i0 := o) (k0 := 4) (T := TX7) S hG hS tyX7 tyX7_ok nmX7 hB.2.1 (fun h => hnu _ h List.mem_cons_self) rfl inlX7 (by decide) rfl rfl hin2 rfl zw_794 (by decide +kernel) rfl rfl rfl dX7_init_30 ?_
  clear hG hS
  intro H locs hG hS
  refine lv_aload_n hx hb dX7_init_33 rfl (lv_at hl 0 rfl) ?_
  refine lv_iconst (v := 0) hx hb dX7_init_34 (by decide) ?_
  refine zc_putI (c0 := 7) (i0 := o) (k0 := 5) (T := TX7) S hG hS tyX7 tyX7_ok nmX7 hB.2.1 (fun h => hnu _ h List.mem_cons_self) rfl inlX7 (by decide) rfl (Or.inl rfl) zw_795 (by decide +kernel) rfl dX7_init_35 (fun H locs hG hS => ?_)
  obtain ⟨σ5, eσ5, hf⟩ := zlt_s hf
  rw [← eσ5] at hG
  refine lv_aload_n hx hb dX7_init_38 rfl (lv_at hl 0 rfl) ?_
  refine lv_iload_n hx hb dX7_init_39 rfl (lv_at hl 1 rfl) ?_
  refine zc_putI (c0 := 7) (i0 := o) (k0 := 0) (T := TX7) S hG hS tyX7 tyX7_ok nmX7 hB.2.1 (fun h => hnu _ h List.mem_cons_self) rfl inlX7 (by decide) rfl (Or.inr ⟨rfl, hin2, rfl⟩) zw_796 (by decide +kernel) rfl dX7_init_40 (fun H locs hG hS => ?_)
  obtain ⟨σ6, eσ6, hf⟩ := zlt_s hf
  rw [← eσ6] at hG
  have hq := hf
  subst hq
  rw [hB.1] at hG
  exact z_vret S hG hS hlocks trivial hr dX7_init_43
set_option maxRecDepth 100000 in
set_option maxHeartbeats 4000000 in
theorem c_X0_init7 (l : Launch) (D : va_G) (aC : Nat → ClassId) (zs : Nat × Nat) (A : Nat → Prop) (N0 nu : List (Nat × Nat × Nat)) (ad : Nat → Nat → Nat → Nat) (σ : zM)  (σ' : zM) (hobj : (0, 7, 0) ∈ N0) (hfr : ∀ k, k ∉ [0] → (0, 7, k) ∉ N0) (hF : ∀ q ∈ N0, (q.1, q.2.1) ∉ ([] : List (Nat × Nat))) (hnu : ∀ q ∈ nu, (q.1, q.2.1) ∉ ([(0, 7)] : List (Nat × Nat)))  (hf : f_X0_init7 σ = some σ') : Met l yX0_init (Cond.code yX0_init cX0_init 4 none :: wsL_law) ({ frames := 1, cells := 7, slots := 24, locals := 21 } : Room) (zPm D aC zs [] A (N0, (zks 0 7 [5, 6, 0, 1, 2, 3, 4] nu)) ad σ [.ref (ad 0 7 0), .int 0, .int 0] (fun sz => ad 0 7 6 = sz + 0 ∧ ad 0 7 7 = sz + 1 ∧ ad 0 7 1 = sz + 2 ∧ ad 0 7 2 = sz + 3 ∧ ad 0 7 3 = sz + 4 ∧ ad 0 7 4 = sz + 5 ∧ ad 0 7 5 = sz + 6 ∧ True)) (zQ none (fun t => zG D aC A (N0 ++ [(0, 7, 6), (0, 7, 7), (0, 7, 1), (0, 7, 2), (0, 7, 3), (0, 7, 4), (0, 7, 5)], nu) ad σ' t t.heap ∧ True) A) 7 24 A := by
  refine Met.ofW (cc := cX0_init) (maxL := 4) (ret := none) (by decide) rfl ?_
  intro p e s m args below meth c s₁ B hml hv
  obtain ⟨rfl, ⟨hG, hZ⟩, hp0, hp1, hp2, hp3, hp4, hp5, hp6, -⟩ := hv
  have hx := B.exec
  have hb := B.bytes
  have hr := B.returns
  have hts : ∀ w ∈ wsL_law, w.before ([.ref (ad 0 7 0), .int 0, .int 0] : List Value).toArray s = true := fun w h => (atoms_spec B.pre) w (List.mem_cons_of_mem _ h)
  have hown : s.vm.findClass RX0 = some m.cls := findClass_of_methodNamed B.named
  have hlocks := B.notSynchronized
  have hin2 : meth.name = "<init>" := (name_of_methodNamed B.named B.method).1
  have S : zS p m c cX0_init 4 s ([.ref (ad 0 7 0), .int 0, .int 0] : List Value).toArray RX0 := ⟨hx, hb, hml, hown, hts⟩
  have hS : va_S A s.heap s.heap [] := va_S.rf
  have hl := lv_entry ([.ref (ad 0 7 0), .int 0, .int 0]) (n := 4) (Nat.le_of_ble_eq_true rfl)
  rw [lg_entry_eq]
  generalize (lg_sl ([.ref (ad 0 7 0), .int 0, .int 0]) ++ List.replicate (4 - (lg_sl ([.ref (ad 0 7 0), .int 0, .int 0])).length) Slot.unset).toArray = ls at hl ⊢
  have hl : lv_has ls 4 [(0, .ref (ad 0 7 0)), (1, .int 0), (2, .int 0)] := hl
  generalize hargs : ([.ref (ad 0 7 0), .int 0, .int 0] : List Value).toArray = args at S hts ⊢
  clear hargs
  unfold f_X0_init7 at hf
  have hB : zB ad s.heap.size N0 N0 [] 0 7 [0] ([] : List (Nat × Nat)) 0 := zB.start hobj hfr hF
  clear hobj hfr hF
  obtain ⟨N, eN⟩ : ∃ x, x = N0 := ⟨_, rfl⟩
  have hB : zB ad s.heap.size N0 N [] 0 7 [0] ([] : List (Nat × Nat)) 0 := by rw [eN]; exact hB
  have hG : zG D aC A (N, (zks 0 7 [5, 6, 0, 1, 2, 3, 4] nu)) ad σ s s.heap := by rw [eN]; exact hG
  refine lv_aload_n hx hb dX0_init_0 rfl (lv_at hl 0 rfl) ?_
  refine W.objInit hx hb hown (hts _ zw_83) (hts _ zw_11) (hts _ zw_12) rfl (by rw [S.2.2.1]; exact hl.1) rfl dX0_init_1 (Nat.le_of_ble_eq_true rfl) (Nat.le_of_ble_eq_true rfl) ?_
  refine W.eq (g2 := F0 m 4 ls []) rfl ?_
  refine lv_aload_n hx hb dX0_init_4 rfl (lv_at hl 0 rfl) ?_
  refine lv_bipush (v := 11) hx hb dX0_init_5 (by decide) ?_
  refine zd_newarr (atype := .int) (c0 := 0) (i0 := 7) (k0 := 5) (N1 := 11) (n' := 1) (slots' := 11) (made' := [(0, 7, 6)]) S hG hS hZ.1 hB zw_60 (Or.inl ⟨rfl, rfl⟩) (by decide) (by decide) hp0 (by decide) (by decide) (by decide) (Nat.le_of_ble_eq_true rfl) rfl rfl rfl (Nat.le_of_ble_eq_true rfl) (Nat.le_of_ble_eq_true rfl) dX0_init_7 ?_
  clear hG hS hB
  intro H N hG hS hB hlast
  obtain ⟨σ1, eσ1, hf⟩ := zlt_s hf
  rw [← eσ1] at hG
  refine zc_putref (N := N) (nu := (zks 0 7 [6, 0, 1, 2, 3, 4] nu)) (ty := .array .int) (c0 := 0) (i0 := 7) (k0 := 5) (T := TX0) S hG hS tyX0 tyX0_ok nmX0 hB.2.1 (zks_n hnu (by decide)) rfl inlX0 (by decide) rfl rfl hin2 rfl zw_84 (by decide +kernel) rfl rfl rfl dX0_init_9 ?_
  clear hG hS
  intro H locs hG hS
  refine lv_aload_n hx hb dX0_init_12 rfl (lv_at hl 0 rfl) ?_
  refine lv_bipush (v := 13) hx hb dX0_init_13 (by decide) ?_
  refine zd_newarr (atype := .int) (c0 := 0) (i0 := 7) (k0 := 6) (N1 := 13) (n' := 2) (slots' := 24) (made' := [(0, 7, 6), (0, 7, 7)]) S hG hS hZ.1 hB zw_60 (Or.inl ⟨rfl, rfl⟩) (by decide) (by decide) hp1 (by decide) (by decide) (by decide) (Nat.le_of_ble_eq_true rfl) rfl rfl rfl (Nat.le_of_ble_eq_true rfl) (Nat.le_of_ble_eq_true rfl) dX0_init_15 ?_
  clear hG hS hB
  intro H N hG hS hB hlast
  obtain ⟨σ2, eσ2, hf⟩ := zlt_s hf
  rw [← eσ2] at hG
  refine zc_putref (N := N) (nu := (zks 0 7 [0, 1, 2, 3, 4] nu)) (ty := .array .int) (c0 := 0) (i0 := 7) (k0 := 6) (T := TX0) S hG hS tyX0 tyX0_ok nmX0 hB.2.1 (zks_n hnu (by decide)) rfl inlX0 (by decide) rfl rfl hin2 rfl zw_85 (by decide +kernel) rfl rfl rfl dX0_init_17 ?_
  clear hG hS
  intro H locs hG hS
  refine lv_aload_n hx hb dX0_init_20 rfl (lv_at hl 0 rfl) ?_
  refine lv_iconst (v := 0) hx hb dX0_init_21 (by decide) ?_
  refine zc_putI (c0 := 0) (i0 := 7) (k0 := 7) (T := TX0) S hG hS tyX0 tyX0_ok nmX0 hB.2.1 (zks_n hnu (by decide)) rfl inlX0 (by decide) rfl (Or.inl rfl) zw_86 (by decide +kernel) rfl dX0_init_22 (fun H locs hG hS => ?_)
  obtain ⟨σ3, eσ3, hf⟩ := zlt_s hf
  rw [← eσ3] at hG
  refine lv_aload_n hx hb dX0_init_25 rfl (lv_at hl 0 rfl) ?_
  refine lv_iconst (v := 0) hx hb dX0_init_26 (by decide) ?_
  refine zc_putI (c0 := 0) (i0 := 7) (k0 := 8) (T := TX0) S hG hS tyX0 tyX0_ok nmX0 hB.2.1 (zks_n hnu (by decide)) rfl inlX0 (by decide) rfl (Or.inl rfl) zw_87 (by decide +kernel) rfl dX0_init_27 (fun H locs hG hS => ?_)
  obtain ⟨σ4, eσ4, hf⟩ := zlt_s hf
  rw [← eσ4] at hG
  refine lv_aload_n hx hb dX0_init_30 rfl (lv_at hl 0 rfl) ?_
  refine lv_iconst (v := 0) hx hb dX0_init_31 (by decide) ?_
  refine zc_putI (c0 := 0) (i0 := 7) (k0 := 9) (T := TX0) S hG hS tyX0 tyX0_ok nmX0 hB.2.1 (zks_n hnu (by decide)) rfl inlX0 (by decide) rfl (Or.inl rfl) zw_88 (by decide +kernel) rfl dX0_init_32 (fun H locs hG hS => ?_)
  obtain ⟨σ5, eσ5, hf⟩ := zlt_s hf
  rw [← eσ5] at hG
  refine lv_iconst (v := 0) hx hb dX0_init_35 (by decide) ?_
  refine lv_iload_n hx hb dX0_init_36 rfl (lv_at hl 1 rfl) ?_
  refine z_mmax (v := (zmax 0 0)) S hl zw_89 zw_90 zw_91 zw_92 (Nat.le_of_ble_eq_true rfl) (Nat.le_of_ble_eq_true rfl) (Nat.le_of_ble_eq_true rfl) (Nat.le_of_ble_eq_true rfl) (Nat.le_of_ble_eq_true rfl) rfl dX0_init_37 ?_
  refine lv_istore_n (lv' := [(3, .int (zmax 0 0)), (0, .ref (ad 0 7 0)), (1, .int 0), (2, .int 0)]) hx hb dX0_init_40 rfl hl (by decide) rfl (fun ls hl => ?_)
  refine lv_aload_n hx hb dX0_init_41 rfl (lv_at hl 1 rfl) ?_
  refine lv_iload_n hx hb dX0_init_42 rfl (lv_at hl 0 rfl) ?_
  refine zd_newarr (atype := .int) (c0 := 0) (i0 := 7) (k0 := 0) (N1 := 0) (n' := 3) (slots' := 24) (made' := [(0, 7, 6), (0, 7, 7), (0, 7, 1)]) S hG hS hZ.1 hB zw_60 (Or.inl ⟨rfl, rfl⟩) (by decide) (by decide) hp2 (by decide) (by decide) (by decide) (Nat.le_of_ble_eq_true rfl) rfl rfl rfl (Nat.le_of_ble_eq_true rfl) (Nat.le_of_ble_eq_true rfl) dX0_init_43 ?_
  clear hG hS hB
  intro H N hG hS hB hlast
  obtain ⟨σ6, eσ6, hf⟩ := zlt_s hf
  rw [← eσ6] at hG
  refine zc_putref (N := N) (nu := (zks 0 7 [1, 2, 3, 4] nu)) (ty := .array .int) (c0 := 0) (i0 := 7) (k0 := 0) (T := TX0) S hG hS tyX0 tyX0_ok nmX0 hB.2.1 (zks_n hnu (by decide)) rfl inlX0 (by decide) rfl rfl hin2 rfl zw_93 (by decide +kernel) rfl rfl rfl dX0_init_45 ?_
  clear hG hS
  intro H locs hG hS
  refine lv_aload_n hx hb dX0_init_48 rfl (lv_at hl 1 rfl) ?_
  refine lv_iload_n hx hb dX0_init_49 rfl (lv_at hl 0 rfl) ?_
  refine zd_newarr (atype := .int) (c0 := 0) (i0 := 7) (k0 := 1) (N1 := 0) (n' := 4) (slots' := 24) (made' := [(0, 7, 6), (0, 7, 7), (0, 7, 1), (0, 7, 2)]) S hG hS hZ.1 hB zw_60 (Or.inl ⟨rfl, rfl⟩) (by decide) (by decide) hp3 (by decide) (by decide) (by decide) (Nat.le_of_ble_eq_true rfl) rfl rfl rfl (Nat.le_of_ble_eq_true rfl) (Nat.le_of_ble_eq_true rfl) dX0_init_50 ?_
  clear hG hS hB
  intro H N hG hS hB hlast
  obtain ⟨σ7, eσ7, hf⟩ := zlt_s hf
  rw [← eσ7] at hG
  refine zc_putref (N := N) (nu := (zks 0 7 [2, 3, 4] nu)) (ty := .array .int) (c0 := 0) (i0 := 7) (k0 := 1) (T := TX0) S hG hS tyX0 tyX0_ok nmX0 hB.2.1 (zks_n hnu (by decide)) rfl inlX0 (by decide) rfl rfl hin2 rfl zw_94 (by decide +kernel) rfl rfl rfl dX0_init_52 ?_
  clear hG hS
  intro H locs hG hS
  refine lv_aload_n hx hb dX0_init_55 rfl (lv_at hl 1 rfl) ?_
  refine lv_iload_n hx hb dX0_init_56 rfl (lv_at hl 0 rfl) ?_
  refine zd_newarr (atype := .int) (c0 := 0) (i0 := 7) (k0 := 2) (N1 := 0) (n' := 5) (slots' := 24) (made' := [(0, 7, 6), (0, 7, 7), (0, 7, 1), (0, 7, 2), (0, 7, 3)]) S hG hS hZ.1 hB zw_60 (Or.inl ⟨rfl, rfl⟩) (by decide) (by decide) hp4 (by decide) (by decide) (by decide) (Nat.le_of_ble_eq_true rfl) rfl rfl rfl (Nat.le_of_ble_eq_true rfl) (Nat.le_of_ble_eq_true rfl) dX0_init_57 ?_
  clear hG hS hB
  intro H N hG hS hB hlast
  obtain ⟨σ8, eσ8, hf⟩ := zlt_s hf
  rw [← eσ8] at hG
  refine zc_putref (N := N) (nu := (zks 0 7 [3, 4] nu)) (ty := .array .int) (c0 := 0) (i0 := 7) (k0 := 2) (T := TX0) S hG hS tyX0 tyX0_ok nmX0 hB.2.1 (zks_n hnu (by decide)) rfl inlX0 (by decide) rfl rfl hin2 rfl zw_95 (by decide +kernel) rfl rfl rfl dX0_init_59 ?_
  clear hG hS
  intro H locs hG hS
  refine lv_aload_n hx hb dX0_init_62 rfl (lv_at hl 1 rfl) ?_
  refine lv_iload_n hx hb dX0_init_63 rfl (lv_at hl 0 rfl) ?_
  refine zd_newarr (atype := .int) (c0 := 0) (i0 := 7) (k0 := 3) (N1 := 0) (n' := 6) (slots' := 24) (made' := [(0, 7, 6), (0, 7, 7), (0, 7, 1), (0, 7, 2), (0, 7, 3), (0, 7, 4)]) S hG hS hZ.1 hB zw_60 (Or.inl ⟨rfl, rfl⟩) (by decide) (by decide) hp5 (by decide) (by decide) (by decide) (Nat.le_of_ble_eq_true rfl) rfl rfl rfl (Nat.le_of_ble_eq_true rfl) (Nat.le_of_ble_eq_true rfl) dX0_init_64 ?_
  clear hG hS hB
  intro H N hG hS hB hlast
  obtain ⟨σ9, eσ9, hf⟩ := zlt_s hf
  rw [← eσ9] at hG
  refine zc_putref (N := N) (nu := (zks 0 7 [4] nu)) (ty := .array .int) (c0 := 0) (i0 := 7) (k0 := 3) (T := TX0) S hG hS tyX0 tyX0_ok nmX0 hB.2.1 (zks_n hnu (by decide)) rfl inlX0 (by decide) rfl rfl hin2 rfl zw_96 (by decide +kernel) rfl rfl rfl dX0_init_66 ?_
  clear hG hS
  intro H locs hG hS
  refine lv_aload_n hx hb dX0_init_69 rfl (lv_at hl 1 rfl) ?_
  refine lv_iconst (v := 0) hx hb dX0_init_70 (by decide) ?_
  refine lv_iload_n hx hb dX0_init_71 rfl (lv_at hl 3 rfl) ?_
  refine z_mmax (v := (zmax 0 0)) S hl zw_89 zw_90 zw_91 zw_92 (Nat.le_of_ble_eq_true rfl) (Nat.le_of_ble_eq_true rfl) (Nat.le_of_ble_eq_true rfl) (Nat.le_of_ble_eq_true rfl) (Nat.le_of_ble_eq_true rfl) rfl dX0_init_72 ?_
  refine zd_newarr (atype := .int) (c0 := 0) (i0 := 7) (k0 := 4) (N1 := 0) (n' := 7) (slots' := 24) (made' := [(0, 7, 6), (0, 7, 7), (0, 7, 1), (0, 7, 2), (0, 7, 3), (0, 7, 4), (0, 7, 5)]) S hG hS hZ.1 hB zw_60 (Or.inl ⟨rfl, rfl⟩) (by decide) (by decide) hp6 (by decide) (by decide) (by decide) (Nat.le_of_ble_eq_true rfl) rfl rfl rfl (Nat.le_of_ble_eq_true rfl) (Nat.le_of_ble_eq_true rfl) dX0_init_75 ?_
  clear hG hS hB
  intro H N hG hS hB hlast
  obtain ⟨σ10, eσ10, hf⟩ := zlt_s hf
  rw [← eσ10] at hG
  refine zc_putref (N := N) (nu := nu) (ty := .array .int) (c0 := 0) (i0 := 7) (k0 := 4) (T := TX0) S hG hS tyX0 tyX0_ok nmX0 hB.2.1 (fun h => hnu _ h List.mem_cons_self) rfl inlX0 (by decide) rfl rfl hin2 rfl zw_97 (by decide +kernel) rfl rfl rfl dX0_init_77 ?_
  clear hG hS
  intro H locs hG hS
  have hG : zG D aC A (N, nu) ad σ10 s _ := hG
  obtain ⟨nl, hnl⟩ : ∃ nl : zNL, nl = (N0 ++ [(0, 7, 6), (0, 7, 7), (0, 7, 1), (0, 7, 2), (0, 7, 3), (0, 7, 4), (0, 7, 5)], nu) := ⟨_, rfl⟩
  have hall : N = N0 ++ [(0, 7, 6), (0, 7, 7), (0, 7, 1), (0, 7, 2), (0, 7, 3), (0, 7, 4), (0, 7, 5)] := hB.1
  rw [hall, ← hnl] at hG
  rw [← hnl]
  have h_this : zin nl 0 7 := by
    rw [hnl, ← hall]
    refine ⟨hB.2.1, fun k h1 h2 => ?_, fun k h => hnu _ h List.mem_cons_self⟩
    have hk := (by decide +kernel : ∀ k, k < zN 0 → 4 ≤ zkd 0 k → k ∈ [0, 1, 2, 3, 4, 5, 6]) k h1 h2
    simp only [List.mem_cons, List.not_mem_nil, or_false] at hk
    rw [hall]
    rcases hk with rfl | rfl | rfl | rfl | rfl | rfl | rfl <;> exact List.mem_append_right _ (by simp)
  have hZ : zH zs [] A nl s := ⟨hZ.1, fun _ h => (by cases h), hZ.2.2⟩
  clear hB hall
  refine lv_aload_n hx hb dX0_init_80 rfl (lv_at hl 1 rfl) ?_
  obtain ⟨σ11, eσ11, hf⟩ := zbi hf
  refine z_callV (n := 0) (rest := []) (st1 := []) (c0 := 0) (i0 := 7) h_this (by rfl) S hG hS hZ (fun _ _ h => h) (c_X0_wipe l D aC zs [] A nl ad σ10 7 σ11 h_this eσ11) zw_98 zw_99 zw_100 zw_76 zw_101 (by decide +kernel) ⟨rfl, rfl⟩ ⟨(Nat.le_of_ble_eq_true rfl), (Nat.le_of_ble_eq_true rfl)⟩ hl.1 rfl (by rfl) (by rfl) (Nat.le_of_ble_eq_true rfl) dX0_init_81 ⟨Nat.le_of_ble_eq_true rfl, Nat.le_of_ble_eq_true rfl⟩ (fun H locs hz12 hG hS => ?_)
  have hq := (Option.some.inj hf)
  subst hq
  exact z_vret S hG hS hlocks trivial hr dX0_init_84
set_option maxRecDepth 100000 in
set_option maxHeartbeats 4000000 in
theorem c_X0_init8 (l : Launch) (D : va_G) (aC : Nat → ClassId) (zs : Nat × Nat) (A : Nat → Prop) (N0 nu : List (Nat × Nat × Nat)) (ad : Nat → Nat → Nat → Nat) (σ : zM)  (σ' : zM) (hobj : (0, 8, 0) ∈ N0) (hfr : ∀ k, k ∉ [0] → (0, 8, k) ∉ N0) (hF : ∀ q ∈ N0, (q.1, q.2.1) ∉ ([] : List (Nat × Nat))) (hnu : ∀ q ∈ nu, (q.1, q.2.1) ∉ ([(0, 8)] : List (Nat × Nat)))  (hf : f_X0_init8 σ = some σ') : Met l yX0_init (Cond.code yX0_init cX0_init 4 none :: wsL_law) ({ frames := 1, cells := 7, slots := 24, locals := 21 } : Room) (zPm D aC zs [] A (N0, (zks 0 8 [5, 6, 0, 1, 2, 3, 4] nu)) ad σ [.ref (ad 0 8 0), .int 0, .int 0] (fun sz => ad 0 8 6 = sz + 0 ∧ ad 0 8 7 = sz + 1 ∧ ad 0 8 1 = sz + 2 ∧ ad 0 8 2 = sz + 3 ∧ ad 0 8 3 = sz + 4 ∧ ad 0 8 4 = sz + 5 ∧ ad 0 8 5 = sz + 6 ∧ True)) (zQ none (fun t => zG D aC A (N0 ++ [(0, 8, 6), (0, 8, 7), (0, 8, 1), (0, 8, 2), (0, 8, 3), (0, 8, 4), (0, 8, 5)], nu) ad σ' t t.heap ∧ True) A) 7 24 A := by
  refine Met.ofW (cc := cX0_init) (maxL := 4) (ret := none) (by decide) rfl ?_
  intro p e s m args below meth c s₁ B hml hv
  obtain ⟨rfl, ⟨hG, hZ⟩, hp0, hp1, hp2, hp3, hp4, hp5, hp6, -⟩ := hv
  have hx := B.exec
  have hb := B.bytes
  have hr := B.returns
  have hts : ∀ w ∈ wsL_law, w.before ([.ref (ad 0 8 0), .int 0, .int 0] : List Value).toArray s = true := fun w h => (atoms_spec B.pre) w (List.mem_cons_of_mem _ h)
  have hown : s.vm.findClass RX0 = some m.cls := findClass_of_methodNamed B.named
  have hlocks := B.notSynchronized
  have hin2 : meth.name = "<init>" := (name_of_methodNamed B.named B.method).1
  have S : zS p m c cX0_init 4 s ([.ref (ad 0 8 0), .int 0, .int 0] : List Value).toArray RX0 := ⟨hx, hb, hml, hown, hts⟩
  have hS : va_S A s.heap s.heap [] := va_S.rf
  have hl := lv_entry ([.ref (ad 0 8 0), .int 0, .int 0]) (n := 4) (Nat.le_of_ble_eq_true rfl)
  rw [lg_entry_eq]
  generalize (lg_sl ([.ref (ad 0 8 0), .int 0, .int 0]) ++ List.replicate (4 - (lg_sl ([.ref (ad 0 8 0), .int 0, .int 0])).length) Slot.unset).toArray = ls at hl ⊢
  have hl : lv_has ls 4 [(0, .ref (ad 0 8 0)), (1, .int 0), (2, .int 0)] := hl
  generalize hargs : ([.ref (ad 0 8 0), .int 0, .int 0] : List Value).toArray = args at S hts ⊢
  clear hargs
  unfold f_X0_init8 at hf
  have hB : zB ad s.heap.size N0 N0 [] 0 8 [0] ([] : List (Nat × Nat)) 0 := zB.start hobj hfr hF
  clear hobj hfr hF
  obtain ⟨N, eN⟩ : ∃ x, x = N0 := ⟨_, rfl⟩
  have hB : zB ad s.heap.size N0 N [] 0 8 [0] ([] : List (Nat × Nat)) 0 := by rw [eN]; exact hB
  have hG : zG D aC A (N, (zks 0 8 [5, 6, 0, 1, 2, 3, 4] nu)) ad σ s s.heap := by rw [eN]; exact hG
  refine lv_aload_n hx hb dX0_init_0 rfl (lv_at hl 0 rfl) ?_
  refine W.objInit hx hb hown (hts _ zw_83) (hts _ zw_11) (hts _ zw_12) rfl (by rw [S.2.2.1]; exact hl.1) rfl dX0_init_1 (Nat.le_of_ble_eq_true rfl) (Nat.le_of_ble_eq_true rfl) ?_
  refine W.eq (g2 := F0 m 4 ls []) rfl ?_
  refine lv_aload_n hx hb dX0_init_4 rfl (lv_at hl 0 rfl) ?_
  refine lv_bipush (v := 11) hx hb dX0_init_5 (by decide) ?_
  refine zd_newarr (atype := .int) (c0 := 0) (i0 := 8) (k0 := 5) (N1 := 11) (n' := 1) (slots' := 11) (made' := [(0, 8, 6)]) S hG hS hZ.1 hB zw_60 (Or.inl ⟨rfl, rfl⟩) (by decide) (by decide) hp0 (by decide) (by decide) (by decide) (Nat.le_of_ble_eq_true rfl) rfl rfl rfl (Nat.le_of_ble_eq_true rfl) (Nat.le_of_ble_eq_true rfl) dX0_init_7 ?_
  clear hG hS hB
  intro H N hG hS hB hlast
  obtain ⟨σ1, eσ1, hf⟩ := zlt_s hf
  rw [← eσ1] at hG
  refine zc_putref (N := N) (nu := (zks 0 8 [6, 0, 1, 2, 3, 4] nu)) (ty := .array .int) (c0 := 0) (i0 := 8) (k0 := 5) (T := TX0) S hG hS tyX0 tyX0_ok nmX0 hB.2.1 (zks_n hnu (by decide)) rfl inlX0 (by decide) rfl rfl hin2 rfl zw_84 (by decide +kernel) rfl rfl rfl dX0_init_9 ?_
  clear hG hS
  intro H locs hG hS
  refine lv_aload_n hx hb dX0_init_12 rfl (lv_at hl 0 rfl) ?_
  refine lv_bipush (v := 13) hx hb dX0_init_13 (by decide) ?_
  refine zd_newarr (atype := .int) (c0 := 0) (i0 := 8) (k0 := 6) (N1 := 13) (n' := 2) (slots' := 24) (made' := [(0, 8, 6), (0, 8, 7)]) S hG hS hZ.1 hB zw_60 (Or.inl ⟨rfl, rfl⟩) (by decide) (by decide) hp1 (by decide) (by decide) (by decide) (Nat.le_of_ble_eq_true rfl) rfl rfl rfl (Nat.le_of_ble_eq_true rfl) (Nat.le_of_ble_eq_true rfl) dX0_init_15 ?_
  clear hG hS hB
  intro H N hG hS hB hlast
  obtain ⟨σ2, eσ2, hf⟩ := zlt_s hf
  rw [← eσ2] at hG
  refine zc_putref (N := N) (nu := (zks 0 8 [0, 1, 2, 3, 4] nu)) (ty := .array .int) (c0 := 0) (i0 := 8) (k0 := 6) (T := TX0) S hG hS tyX0 tyX0_ok nmX0 hB.2.1 (zks_n hnu (by decide)) rfl inlX0 (by decide) rfl rfl hin2 rfl zw_85 (by decide +kernel) rfl rfl rfl dX0_init_17 ?_
  clear hG hS
  intro H locs hG hS
  refine lv_aload_n hx hb dX0_init_20 rfl (lv_at hl 0 rfl) ?_
  refine lv_iconst (v := 0) hx hb dX0_init_21 (by decide) ?_
  refine zc_putI (c0 := 0) (i0 := 8) (k0 := 7) (T := TX0) S hG hS tyX0 tyX0_ok nmX0 hB.2.1 (zks_n hnu (by decide)) rfl inlX0 (by decide) rfl (Or.inl rfl) zw_86 (by decide +kernel) rfl dX0_init_22 (fun H locs hG hS => ?_)
  obtain ⟨σ3, eσ3, hf⟩ := zlt_s hf
  rw [← eσ3] at hG
  refine lv_aload_n hx hb dX0_init_25 rfl (lv_at hl 0 rfl) ?_
  refine lv_iconst (v := 0) hx hb dX0_init_26 (by decide) ?_
  refine zc_putI (c0 := 0) (i0 := 8) (k0 := 8) (T := TX0) S hG hS tyX0 tyX0_ok nmX0 hB.2.1 (zks_n hnu (by decide)) rfl inlX0 (by decide) rfl (Or.inl rfl) zw_87 (by decide +kernel) rfl dX0_init_27 (fun H locs hG hS => ?_)
  obtain ⟨σ4, eσ4, hf⟩ := zlt_s hf
  rw [← eσ4] at hG
  refine lv_aload_n hx hb dX0_init_30 rfl (lv_at hl 0 rfl) ?_
  refine lv_iconst (v := 0) hx hb dX0_init_31 (by decide) ?_
  refine zc_putI (c0 := 0) (i0 := 8) (k0 := 9) (T := TX0) S hG hS tyX0 tyX0_ok nmX0 hB.2.1 (zks_n hnu (by decide)) rfl inlX0 (by decide) rfl (Or.inl rfl) zw_88 (by decide +kernel) rfl dX0_init_32 (fun H locs hG hS => ?_)
  obtain ⟨σ5, eσ5, hf⟩ := zlt_s hf
  rw [← eσ5] at hG
  refine lv_iconst (v := 0) hx hb dX0_init_35 (by decide) ?_
  refine lv_iload_n hx hb dX0_init_36 rfl (lv_at hl 1 rfl) ?_
  refine z_mmax (v := (zmax 0 0)) S hl zw_89 zw_90 zw_91 zw_92 (Nat.le_of_ble_eq_true rfl) (Nat.le_of_ble_eq_true rfl) (Nat.le_of_ble_eq_true rfl) (Nat.le_of_ble_eq_true rfl) (Nat.le_of_ble_eq_true rfl) rfl dX0_init_37 ?_
  refine lv_istore_n (lv' := [(3, .int (zmax 0 0)), (0, .ref (ad 0 8 0)), (1, .int 0), (2, .int 0)]) hx hb dX0_init_40 rfl hl (by decide) rfl (fun ls hl => ?_)
  refine lv_aload_n hx hb dX0_init_41 rfl (lv_at hl 1 rfl) ?_
  refine lv_iload_n hx hb dX0_init_42 rfl (lv_at hl 0 rfl) ?_
  refine zd_newarr (atype := .int) (c0 := 0) (i0 := 8) (k0 := 0) (N1 := 0) (n' := 3) (slots' := 24) (made' := [(0, 8, 6), (0, 8, 7), (0, 8, 1)]) S hG hS hZ.1 hB zw_60 (Or.inl ⟨rfl, rfl⟩) (by decide) (by decide) hp2 (by decide) (by decide) (by decide) (Nat.le_of_ble_eq_true rfl) rfl rfl rfl (Nat.le_of_ble_eq_true rfl) (Nat.le_of_ble_eq_true rfl) dX0_init_43 ?_
  clear hG hS hB
  intro H N hG hS hB hlast
  obtain ⟨σ6, eσ6, hf⟩ := zlt_s hf
  rw [← eσ6] at hG
  refine zc_putref (N := N) (nu := (zks 0 8 [1, 2, 3, 4] nu)) (ty := .array .int) (c0 := 0) (i0 := 8) (k0 := 0) (T := TX0) S hG hS tyX0 tyX0_ok nmX0 hB.2.1 (zks_n hnu (by decide)) rfl inlX0 (by decide) rfl rfl hin2 rfl zw_93 (by decide +kernel) rfl rfl rfl dX0_init_45 ?_
  clear hG hS
  intro H locs hG hS
  refine lv_aload_n hx hb dX0_init_48 rfl (lv_at hl 1 rfl) ?_
  refine lv_iload_n hx hb dX0_init_49 rfl (lv_at hl 0 rfl) ?_
  refine zd_newarr (atype := .int) (c0 := 0) (i0 := 8) (k0 := 1) (N1 := 0) (n' := 4) (slots' := 24) (made' := [(0, 8, 6), (0, 8, 7), (0, 8, 1), (0, 8, 2)]) S hG hS hZ.1 hB zw_60 (Or.inl ⟨rfl, rfl⟩) (by decide) (by decide) hp3 (by decide) (by decide) (by decide) (Nat.le_of_ble_eq_true rfl) rfl rfl rfl (Nat.le_of_ble_eq_true rfl) (Nat.le_of_ble_eq_true rfl) dX0_init_50 ?_
  clear hG hS hB
  intro H N hG hS hB hlast
  obtain ⟨σ7, eσ7, hf⟩ := zlt_s hf
  rw [← eσ7] at hG
  refine zc_putref (N := N) (nu := (zks 0 8 [2, 3, 4] nu)) (ty := .array .int) (c0 := 0) (i0 := 8) (k0 := 1) (T := TX0) S hG hS tyX0 tyX0_ok nmX0 hB.2.1 (zks_n hnu (by decide)) rfl inlX0 (by decide) rfl rfl hin2 rfl zw_94 (by decide +kernel) rfl rfl rfl dX0_init_52 ?_
  clear hG hS
  intro H locs hG hS
  refine lv_aload_n hx hb dX0_init_55 rfl (lv_at hl 1 rfl) ?_
  refine lv_iload_n hx hb dX0_init_56 rfl (lv_at hl 0 rfl) ?_
  refine zd_newarr (atype := .int) (c0 := 0) (i0 := 8) (k0 := 2) (N1 := 0) (n' := 5) (slots' := 24) (made' := [(0, 8, 6), (0, 8, 7), (0, 8, 1), (0, 8, 2), (0, 8, 3)]) S hG hS hZ.1 hB zw_60 (Or.inl ⟨rfl, rfl⟩) (by decide) (by decide) hp4 (by decide) (by decide) (by decide) (Nat.le_of_ble_eq_true rfl) rfl rfl rfl (Nat.le_of_ble_eq_true rfl) (Nat.le_of_ble_eq_true rfl) dX0_init_57 ?_
  clear hG hS hB
  intro H N hG hS hB hlast
  obtain ⟨σ8, eσ8, hf⟩ := zlt_s hf
  rw [← eσ8] at hG
  refine zc_putref (N := N) (nu := (zks 0 8 [3, 4] nu)) (ty := .array .int) (c0 := 0) (i0 := 8) (k0 := 2) (T := TX0) S hG hS tyX0 tyX0_ok nmX0 hB.2.1 (zks_n hnu (by decide)) rfl inlX0 (by decide) rfl rfl hin2 rfl zw_95 (by decide +kernel) rfl rfl rfl dX0_init_59 ?_
  clear hG hS
  intro H locs hG hS
  refine lv_aload_n hx hb dX0_init_62 rfl (lv_at hl 1 rfl) ?_
  refine lv_iload_n hx hb dX0_init_63 rfl (lv_at hl 0 rfl) ?_
  refine zd_newarr (atype := .int) (c0 := 0) (i0 := 8) (k0 := 3) (N1 := 0) (n' := 6) (slots' := 24) (made' := [(0, 8, 6), (0, 8, 7), (0, 8, 1), (0, 8, 2), (0, 8, 3), (0, 8, 4)]) S hG hS hZ.1 hB zw_60 (Or.inl ⟨rfl, rfl⟩) (by decide) (by decide) hp5 (by decide) (by decide) (by decide) (Nat.le_of_ble_eq_true rfl) rfl rfl rfl (Nat.le_of_ble_eq_true rfl) (Nat.le_of_ble_eq_true rfl) dX0_init_64 ?_
  clear hG hS hB
  intro H N hG hS hB hlast
  obtain ⟨σ9, eσ9, hf⟩ := zlt_s hf
  rw [← eσ9] at hG
  refine zc_putref (N := N) (nu := (zks 0 8 [4] nu)) (ty := .array .int) (c0 := 0) (i0 := 8) (k0 := 3) (T := TX0) S hG hS tyX0 tyX0_ok nmX0 hB.2.1 (zks_n hnu (by decide)) rfl inlX0 (by decide) rfl rfl hin2 rfl zw_96 (by decide +kernel) rfl rfl rfl dX0_init_66 ?_
  clear hG hS
  intro H locs hG hS
  refine lv_aload_n hx hb dX0_init_69 rfl (lv_at hl 1 rfl) ?_
  refine lv_iconst (v := 0) hx hb dX0_init_70 (by decide) ?_
  refine lv_iload_n hx hb dX0_init_71 rfl (lv_at hl 3 rfl) ?_
  refine z_mmax (v := (zmax 0 0)) S hl zw_89 zw_90 zw_91 zw_92 (Nat.le_of_ble_eq_true rfl) (Nat.le_of_ble_eq_true rfl) (Nat.le_of_ble_eq_true rfl) (Nat.le_of_ble_eq_true rfl) (Nat.le_of_ble_eq_true rfl) rfl dX0_init_72 ?_
  refine zd_newarr (atype := .int) (c0 := 0) (i0 := 8) (k0 := 4) (N1 := 0) (n' := 7) (slots' := 24) (made' := [(0, 8, 6), (0, 8, 7), (0, 8, 1), (0, 8, 2), (0, 8, 3), (0, 8, 4), (0, 8, 5)]) S hG hS hZ.1 hB zw_60 (Or.inl ⟨rfl, rfl⟩) (by decide) (by decide) hp6 (by decide) (by decide) (by decide) (Nat.le_of_ble_eq_true rfl) rfl rfl rfl (Nat.le_of_ble_eq_true rfl) (Nat.le_of_ble_eq_true rfl) dX0_init_75 ?_
  clear hG hS hB
  intro H N hG hS hB hlast
  obtain ⟨σ10, eσ10, hf⟩ := zlt_s hf
  rw [← eσ10] at hG
  refine zc_putref (N := N) (nu := nu) (ty := .array .int) (c0 := 0) (i0 := 8) (k0 := 4) (T := TX0) S hG hS tyX0 tyX0_ok nmX0 hB.2.1 (fun h => hnu _ h List.mem_cons_self) rfl inlX0 (by decide) rfl rfl hin2 rfl zw_97 (by decide +kernel) rfl rfl rfl dX0_init_77 ?_
  clear hG hS
  intro H locs hG hS
  have hG : zG D aC A (N, nu) ad σ10 s _ := hG
  obtain ⟨nl, hnl⟩ : ∃ nl : zNL, nl = (N0 ++ [(0, 8, 6), (0, 8, 7), (0, 8, 1), (0, 8, 2), (0, 8, 3), (0, 8, 4), (0, 8, 5)], nu) := ⟨_, rfl⟩
  have hall : N = N0 ++ [(0, 8, 6), (0, 8, 7), (0, 8, 1), (0, 8, 2), (0, 8, 3), (0, 8, 4), (0, 8, 5)] := hB.1
  rw [hall, ← hnl] at hG
  rw [← hnl]
  have h_this : zin nl 0 8 := by
    rw [hnl, ← hall]
    refine ⟨hB.2.1, fun k h1 h2 => ?_, fun k h => hnu _ h List.mem_cons_self⟩
    have hk := (by decide +kernel : ∀ k, k < zN 0 → 4 ≤ zkd 0 k → k ∈ [0, 1, 2, 3, 4, 5, 6]) k h1 h2
    simp only [List.mem_cons, List.not_mem_nil, or_false] at hk
    rw [hall]
    rcases hk with rfl | rfl | rfl | rfl | rfl | rfl | rfl <;> exact List.mem_append_right _ (by simp)
  have hZ : zH zs [] A nl s := ⟨hZ.1, fun _ h => (by cases h), hZ.2.2⟩
  clear hB hall
  refine lv_aload_n hx hb dX0_init_80 rfl (lv_at hl 1 rfl) ?_
  obtain ⟨σ11, eσ11, hf⟩ := zbi hf
  refine z_callV (n := 0) (rest := []) (st1 := []) (c0 := 0) (i0 := 8) h_this (by rfl) S hG hS hZ (fun _ _ h => h) (c_X0_wipe l D aC zs [] A nl ad σ10 8 σ11 h_this eσ11) zw_98 zw_99 zw_100 zw_76 zw_101 (by decide +kernel) ⟨rfl, rfl⟩ ⟨(Nat.le_of_ble_eq_true rfl), (Nat.le_of_ble_eq_true rfl)⟩ hl.1 rfl (by rfl) (by rfl) (Nat.le_of_ble_eq_true rfl) dX0_init_81 ⟨Nat.le_of_ble_eq_true rfl, Nat.le_of_ble_eq_true rfl⟩ (fun H locs hz12 hG hS => ?_)
  have hq := (Option.some.inj hf)
  subst hq
  exact z_vret S hG hS hlocks trivial hr dX0_init_84
set_option maxRecDepth 100000 in
set_option maxHeartbeats 4000000 in
theorem c_X0_initB (l : Launch) (D : va_G) (aC : Nat → ClassId) (zs : Nat × Nat) (A : Nat → Prop) (N0 nu : List (Nat × Nat × Nat)) (ad : Nat → Nat → Nat → Nat) (σ : zM) (o : Nat) (σ' : zM) (hobj : (0, o, 0) ∈ N0) (hfr : ∀ k, k ∉ [0] → (0, o, k) ∉ N0) (hF : ∀ q ∈ N0, (q.1, q.2.1) ∉ ([] : List (Nat × Nat))) (hnu : ∀ q ∈ nu, (q.1, q.2.1) ∉ ([(0, o)] : List (Nat × Nat))) (ho : o < 7) (hf : f_X0_initB σ o = some σ') : Met l yX0_init (Cond.code yX0_init cX0_init 4 none :: wsL_law) ({ frames := 1, cells := 7, slots := 484, locals := 21 } : Room) (zPm D aC zs [] A (N0, (zks 0 o [5, 6, 0, 1, 2, 3, 4] nu)) ad σ [.ref (ad 0 o 0), .int 40, .int 300] (fun sz => ad 0 o 6 = sz + 0 ∧ ad 0 o 7 = sz + 1 ∧ ad 0 o 1 = sz + 2 ∧ ad 0 o 2 = sz + 3 ∧ ad 0 o 3 = sz + 4 ∧ ad 0 o 4 = sz + 5 ∧ ad 0 o 5 = sz + 6 ∧ True)) (zQ none (fun t => zG D aC A (N0 ++ [(0, o, 6), (0, o, 7), (0, o, 1), (0, o, 2), (0, o, 3), (0, o, 4), (0, o, 5)], nu) ad σ' t t.heap ∧ True) A) 7 484 A := by
  refine Met.ofW (cc := cX0_init) (maxL := 4) (ret := none) (by decide) rfl ?_
  intro p e s m args below meth c s₁ B hml hv
  obtain ⟨rfl, ⟨hG, hZ⟩, hp0, hp1, hp2, hp3, hp4, hp5, hp6, -⟩ := hv
  have hx := B.exec
  have hb := B.bytes
  have hr := B.returns
  have hts : ∀ w ∈ wsL_law, w.before ([.ref (ad 0 o 0), .int 40, .int 300] : List Value).toArray s = true := fun w h => (atoms_spec B.pre) w (List.mem_cons_of_mem _ h)
  have hown : s.vm.findClass RX0 = some m.cls := findClass_of_methodNamed B.named
  have hlocks := B.notSynchronized
  have hin2 : meth.name = "<init>" := (name_of_methodNamed B.named B.method).1
  have S : zS p m c cX0_init 4 s ([.ref (ad 0 o 0), .int 40, .int 300] : List Value).toArray RX0 := ⟨hx, hb, hml, hown, hts⟩
  have hS : va_S A s.heap s.heap [] := va_S.rf
  have hl := lv_entry ([.ref (ad 0 o 0), .int 40, .int 300]) (n := 4) (Nat.le_of_ble_eq_true rfl)
  rw [lg_entry_eq]
  generalize (lg_sl ([.ref (ad 0 o 0), .int 40, .int 300]) ++ List.replicate (4 - (lg_sl ([.ref (ad 0 o 0), .int 40, .int 300])).length) Slot.unset).toArray = ls at hl ⊢
  have hl : lv_has ls 4 [(0, .ref (ad 0 o 0)), (1, .int 40), (2, .int 300)] := hl
  generalize hargs : ([.ref (ad 0 o 0), .int 40, .int 300] : List Value).toArray = args at S hts ⊢
  clear hargs
  unfold f_X0_initB at hf
  have hB : zB ad s.heap.size N0 N0 [] 0 o [0] ([] : List (Nat × Nat)) 0 := zB.start hobj hfr hF
  clear hobj hfr hF
  obtain ⟨N, eN⟩ : ∃ x, x = N0 := ⟨_, rfl⟩
  have hB : zB ad s.heap.size N0 N [] 0 o [0] ([] : List (Nat × Nat)) 0 := by rw [eN]; exact hB
  have hG : zG D aC A (N, (zks 0 o [5, 6, 0, 1, 2, 3, 4] nu)) ad σ s s.heap := by rw [eN]; exact hG
  refine lv_aload_n hx hb dX0_init_0 rfl (lv_at hl 0 rfl) ?_
  refine W.objInit hx hb hown (hts _ zw_83) (hts _ zw_11) (hts _ zw_12) rfl (by rw [S.2.2.1]; exact hl.1) rfl dX0_init_1 (Nat.le_of_ble_eq_true rfl) (Nat.le_of_ble_eq_true rfl) ?_
  refine W.eq (g2 := F0 m 4 ls []) rfl ?_
  refine lv_aload_n hx hb dX0_init_4 rfl (lv_at hl 0 rfl) ?_
  refine lv_bipush (v := 11) hx hb dX0_init_5 (by decide) ?_
  refine zd_newarr (atype := .int) (c0 := 0) (i0 := o) (k0 := 5) (N1 := 11) (n' := 1) (slots' := 11) (made' := [(0, o, 6)]) S hG hS hZ.1 hB zw_60 (Or.inl ⟨rfl, rfl⟩) (by decide) (fun h => by cases h) hp0 (by decide) (by decide) (by rfl) (Nat.le_of_ble_eq_true rfl) rfl rfl rfl (Nat.le_of_ble_eq_true rfl) (Nat.le_of_ble_eq_true rfl) dX0_init_7 ?_
  clear hG hS hB
  intro H N hG hS hB hlast
  obtain ⟨σ1, eσ1, hf⟩ := zlt_s hf
  rw [← eσ1] at hG
  refine zc_putref (N := N) (nu := (zks 0 o [6, 0, 1, 2, 3, 4] nu)) (ty := .array .int) (c0 := 0) (i0 := o) (k0 := 5) (T := TX0) S hG hS tyX0 tyX0_ok nmX0 hB.2.1 (zks_n hnu (by decide)) rfl inlX0 (by decide) rfl rfl hin2 rfl zw_84 (by decide +kernel) rfl rfl rfl dX0_init_9 ?_
  clear hG hS
  intro H locs hG hS
  refine lv_aload_n hx hb dX0_init_12 rfl (lv_at hl 0 rfl) ?_
  refine lv_bipush (v := 13) hx hb dX0_init_13 (by decide) ?_
  refine zd_newarr (atype := .int) (c0 := 0) (i0 := o) (k0 := 6) (N1 := 13) (n' := 2) (slots' := 24) (made' := [(0, o, 6), (0, o, 7)]) S hG hS hZ.1 hB zw_60 (Or.inl ⟨rfl, rfl⟩) (by decide) (fun h => by cases h) hp1 (by decide) (by decide) (by rfl) (Nat.le_of_ble_eq_true rfl) rfl rfl rfl (Nat.le_of_ble_eq_true rfl) (Nat.le_of_ble_eq_true rfl) dX0_init_15 ?_
  clear hG hS hB
  intro H N hG hS hB hlast
  obtain ⟨σ2, eσ2, hf⟩ := zlt_s hf
  rw [← eσ2] at hG
  refine zc_putref (N := N) (nu := (zks 0 o [0, 1, 2, 3, 4] nu)) (ty := .array .int) (c0 := 0) (i0 := o) (k0 := 6) (T := TX0) S hG hS tyX0 tyX0_ok nmX0 hB.2.1 (zks_n hnu (by decide)) rfl inlX0 (by decide) rfl rfl hin2 rfl zw_85 (by decide +kernel) rfl rfl rfl dX0_init_17 ?_
  clear hG hS
  intro H locs hG hS
  refine lv_aload_n hx hb dX0_init_20 rfl (lv_at hl 0 rfl) ?_
  refine lv_iconst (v := 0) hx hb dX0_init_21 (by decide) ?_
  refine zc_putI (c0 := 0) (i0 := o) (k0 := 7) (T := TX0) S hG hS tyX0 tyX0_ok nmX0 hB.2.1 (zks_n hnu (by decide)) rfl inlX0 (by decide) rfl (Or.inl rfl) zw_86 (by decide +kernel) rfl dX0_init_22 (fun H locs hG hS => ?_)
  obtain ⟨σ3, eσ3, hf⟩ := zlt_s hf
  rw [← eσ3] at hG
  refine lv_aload_n hx hb dX0_init_25 rfl (lv_at hl 0 rfl) ?_
  refine lv_iconst (v := 0) hx hb dX0_init_26 (by decide) ?_
  refine zc_putI (c0 := 0) (i0 := o) (k0 := 8) (T := TX0) S hG hS tyX0 tyX0_ok nmX0 hB.2.1 (zks_n hnu (by decide)) rfl inlX0 (by decide) rfl (Or.inl rfl) zw_87 (by decide +kernel) rfl dX0_init_27 (fun H locs hG hS => ?_)
  obtain ⟨σ4, eσ4, hf⟩ := zlt_s hf
  rw [← eσ4] at hG
  refine lv_aload_n hx hb dX0_init_30 rfl (lv_at hl 0 rfl) ?_
  refine lv_iconst (v := 0) hx hb dX0_init_31 (by decide) ?_
  refine zc_putI (c0 := 0) (i0 := o) (k0 := 9) (T := TX0) S hG hS tyX0 tyX0_ok nmX0 hB.2.1 (zks_n hnu (by decide)) rfl inlX0 (by decide) rfl (Or.inl rfl) zw_88 (by decide +kernel) rfl dX0_init_32 (fun H locs hG hS => ?_)
  obtain ⟨σ5, eσ5, hf⟩ := zlt_s hf
  rw [← eσ5] at hG
  refine lv_iconst (v := 0) hx hb dX0_init_35 (by decide) ?_
  refine lv_iload_n hx hb dX0_init_36 rfl (lv_at hl 1 rfl) ?_
  refine z_mmax (v := (zmax 0 40)) S hl zw_89 zw_90 zw_91 zw_92 (Nat.le_of_ble_eq_true rfl) (Nat.le_of_ble_eq_true rfl) (Nat.le_of_ble_eq_true rfl) (Nat.le_of_ble_eq_true rfl) (Nat.le_of_ble_eq_true rfl) rfl dX0_init_37 ?_
  refine lv_istore_n (lv' := [(3, .int (zmax 0 40)), (0, .ref (ad 0 o 0)), (1, .int 40), (2, .int 300)]) hx hb dX0_init_40 rfl hl (by decide) rfl (fun ls hl => ?_)
  refine lv_aload_n hx hb dX0_init_41 rfl (lv_at hl 1 rfl) ?_
  refine lv_iload_n hx hb dX0_init_42 rfl (lv_at hl 0 rfl) ?_
  refine zd_newarr (atype := .int) (c0 := 0) (i0 := o) (k0 := 0) (N1 := 40) (n' := 3) (slots' := 64) (made' := [(0, o, 6), (0, o, 7), (0, o, 1)]) S hG hS hZ.1 hB zw_60 (Or.inl ⟨rfl, rfl⟩) (by decide) (fun h => by cases h) hp2 (by decide) (by decide) (zln0 ho 0) (Nat.le_of_ble_eq_true rfl) rfl rfl rfl (Nat.le_of_ble_eq_true rfl) (Nat.le_of_ble_eq_true rfl) dX0_init_43 ?_
  clear hG hS hB
  intro H N hG hS hB hlast
  obtain ⟨σ6, eσ6, hf⟩ := zlt_s hf
  rw [← eσ6] at hG
  refine zc_putref (N := N) (nu := (zks 0 o [1, 2, 3, 4] nu)) (ty := .array .int) (c0 := 0) (i0 := o) (k0 := 0) (T := TX0) S hG hS tyX0 tyX0_ok nmX0 hB.2.1 (zks_n hnu (by decide)) rfl inlX0 (by decide) rfl rfl hin2 rfl zw_93 (by decide +kernel) rfl rfl rfl dX0_init_45 ?_
  clear hG hS
  intro H locs hG hS
  refine lv_aload_n hx hb dX0_init_48 rfl (lv_at hl 1 rfl) ?_
  refine lv_iload_n hx hb dX0_init_49 rfl (lv_at hl 0 rfl) ?_
  refine zd_newarr (atype := .int) (c0 := 0) (i0 := o) (k0 := 1) (N1 := 40) (n' := 4) (slots' := 104) (made' := [(0, o, 6), (0, o, 7), (0, o, 1), (0, o, 2)]) S hG hS hZ.1 hB zw_60 (Or.inl ⟨rfl, rfl⟩) (by decide) (fun h => by cases h) hp3 (by decide) (by decide) (zln0 ho 1) (Nat.le_of_ble_eq_true rfl) rfl rfl rfl (Nat.le_of_ble_eq_true rfl) (Nat.le_of_ble_eq_true rfl) dX0_init_50 ?_
  clear hG hS hB
  intro H N hG hS hB hlast
  obtain ⟨σ7, eσ7, hf⟩ := zlt_s hf
  rw [← eσ7] at hG
  refine zc_putref (N := N) (nu := (zks 0 o [2, 3, 4] nu)) (ty := .array .int) (c0 := 0) (i0 := o) (k0 := 1) (T := TX0) S hG hS tyX0 tyX0_ok nmX0 hB.2.1 (zks_n hnu (by decide)) rfl inlX0 (by decide) rfl rfl hin2 rfl zw_94 (by decide +kernel) rfl rfl rfl dX0_init_52 ?_
  clear hG hS
  intro H locs hG hS
  refine lv_aload_n hx hb dX0_init_55 rfl (lv_at hl 1 rfl) ?_
  refine lv_iload_n hx hb dX0_init_56 rfl (lv_at hl 0 rfl) ?_
  refine zd_newarr (atype := .int) (c0 := 0) (i0 := o) (k0 := 2) (N1 := 40) (n' := 5) (slots' := 144) (made' := [(0, o, 6), (0, o, 7), (0, o, 1), (0, o, 2), (0, o, 3)]) S hG hS hZ.1 hB zw_60 (Or.inl ⟨rfl, rfl⟩) (by decide) (fun h => by cases h) hp4 (by decide) (by decide) (zln0 ho 2) (Nat.le_of_ble_eq_true rfl) rfl rfl rfl (Nat.le_of_ble_eq_true rfl) (Nat.le_of_ble_eq_true rfl) dX0_init_57 ?_
  clear hG hS hB
  intro H N hG hS hB hlast
  obtain ⟨σ8, eσ8, hf⟩ := zlt_s hf
  rw [← eσ8] at hG
  refine zc_putref (N := N) (nu := (zks 0 o [3, 4] nu)) (ty := .array .int) (c0 := 0) (i0 := o) (k0 := 2) (T := TX0) S hG hS tyX0 tyX0_ok nmX0 hB.2.1 (zks_n hnu (by decide)) rfl inlX0 (by decide) rfl rfl hin2 rfl zw_95 (by decide +kernel) rfl rfl rfl dX0_init_59 ?_
  clear hG hS
  intro H locs hG hS
  refine lv_aload_n hx hb dX0_init_62 rfl (lv_at hl 1 rfl) ?_
  refine lv_iload_n hx hb dX0_init_63 rfl (lv_at hl 0 rfl) ?_
  refine zd_newarr (atype := .int) (c0 := 0) (i0 := o) (k0 := 3) (N1 := 40) (n' := 6) (slots' := 184) (made' := [(0, o, 6), (0, o, 7), (0, o, 1), (0, o, 2), (0, o, 3), (0, o, 4)]) S hG hS hZ.1 hB zw_60 (Or.inl ⟨rfl, rfl⟩) (by decide) (fun h => by cases h) hp5 (by decide) (by decide) (zln0 ho 3) (Nat.le_of_ble_eq_true rfl) rfl rfl rfl (Nat.le_of_ble_eq_true rfl) (Nat.le_of_ble_eq_true rfl) dX0_init_64 ?_
  clear hG hS hB
  intro H N hG hS hB hlast
  obtain ⟨σ9, eσ9, hf⟩ := zlt_s hf
  rw [← eσ9] at hG
  refine zc_putref (N := N) (nu := (zks 0 o [4] nu)) (ty := .array .int) (c0 := 0) (i0 := o) (k0 := 3) (T := TX0) S hG hS tyX0 tyX0_ok nmX0 hB.2.1 (zks_n hnu (by decide)) rfl inlX0 (by decide) rfl rfl hin2 rfl zw_96 (by decide +kernel) rfl rfl rfl dX0_init_66 ?_
  clear hG hS
  intro H locs hG hS
  refine lv_aload_n hx hb dX0_init_69 rfl (lv_at hl 1 rfl) ?_
  refine lv_iconst (v := 0) hx hb dX0_init_70 (by decide) ?_
  refine lv_iload_n hx hb dX0_init_71 rfl (lv_at hl 3 rfl) ?_
  refine z_mmax (v := (zmax 0 300)) S hl zw_89 zw_90 zw_91 zw_92 (Nat.le_of_ble_eq_true rfl) (Nat.le_of_ble_eq_true rfl) (Nat.le_of_ble_eq_true rfl) (Nat.le_of_ble_eq_true rfl) (Nat.le_of_ble_eq_true rfl) rfl dX0_init_72 ?_
  refine zd_newarr (atype := .int) (c0 := 0) (i0 := o) (k0 := 4) (N1 := 300) (n' := 7) (slots' := 484) (made' := [(0, o, 6), (0, o, 7), (0, o, 1), (0, o, 2), (0, o, 3), (0, o, 4), (0, o, 5)]) S hG hS hZ.1 hB zw_60 (Or.inl ⟨rfl, rfl⟩) (by decide) (fun h => by cases h) hp6 (by decide) (by decide) (zln0 ho 4) (Nat.le_of_ble_eq_true rfl) rfl rfl rfl (Nat.le_of_ble_eq_true rfl) (Nat.le_of_ble_eq_true rfl) dX0_init_75 ?_
  clear hG hS hB
  intro H N hG hS hB hlast
  obtain ⟨σ10, eσ10, hf⟩ := zlt_s hf
  rw [← eσ10] at hG
  refine zc_putref (N := N) (nu := nu) (ty := .array .int) (c0 := 0) (i0 := o) (k0 := 4) (T := TX0) S hG hS tyX0 tyX0_ok nmX0 hB.2.1 (fun h => hnu _ h List.mem_cons_self) rfl inlX0 (by decide) rfl rfl hin2 rfl zw_97 (by decide +kernel) rfl rfl rfl dX0_init_77 ?_
  clear hG hS
  intro H locs hG hS
  have hG : zG D aC A (N, nu) ad σ10 s _ := hG
  obtain ⟨nl, hnl⟩ : ∃ nl : zNL, nl = (N0 ++ [(0, o, 6), (0, o, 7), (0, o, 1), (0, o, 2), (0, o, 3), (0, o, 4), (0, o, 5)], nu) := ⟨_, rfl⟩
  have hall : N = N0 ++ [(0, o, 6), (0, o, 7), (0, o, 1), (0, o, 2), (0, o, 3), (0, o, 4), (0, o, 5)] := hB.1
  rw [hall, ← hnl] at hG
  rw [← hnl]
  have h_this : zin nl 0 o := by
    rw [hnl, ← hall]
    refine ⟨hB.2.1, fun k h1 h2 => ?_, fun k h => hnu _ h List.mem_cons_self⟩
    have hk := (by decide +kernel : ∀ k, k < zN 0 → 4 ≤ zkd 0 k → k ∈ [0, 1, 2, 3, 4, 5, 6]) k h1 h2
    simp only [List.mem_cons, List.not_mem_nil, or_false] at hk
    rw [hall]
    rcases hk with rfl | rfl | rfl | rfl | rfl | rfl | rfl <;> exact List.mem_append_right _ (by simp)
  have hZ : zH zs [] A nl s := ⟨hZ.1, fun _ h => (by cases h), hZ.2.2⟩
  clear hB hall
  refine lv_aload_n hx hb dX0_init_80 rfl (lv_at hl 1 rfl) ?_
  obtain ⟨σ11, eσ11, hf⟩ := zbi hf
  refine z_callV (n := 0) (rest := []) (st1 := []) (c0 := 0) (i0 := o) h_this (by rfl) S hG hS hZ (fun _ _ h => h) (c_X0_wipe l D aC zs [] A nl ad σ10 o σ11 h_this eσ11) zw_98 zw_99 zw_100 zw_76 zw_101 (by decide +kernel) ⟨rfl, rfl⟩ ⟨(Nat.le_of_ble_eq_true rfl), (Nat.le_of_ble_eq_true rfl)⟩ hl.1 rfl (by rfl) (by rfl) (Nat.le_of_ble_eq_true rfl) dX0_init_81 ⟨Nat.le_of_ble_eq_true rfl, Nat.le_of_ble_eq_true rfl⟩ (fun H locs hz12 hG hS => ?_)
  have hq := (Option.some.inj hf)
  subst hq
  exact z_vret S hG hS hlocks trivial hr dX0_init_84
set_option maxRecDepth 100000 in
set_option maxHeartbeats 4000000 in
theorem c_X1_init (l : Launch) (D : va_G) (aC : Nat → ClassId) (zs : Nat × Nat) (A : Nat → Prop) (N0 nu : List (Nat × Nat × Nat)) (ad : Nat → Nat → Nat → Nat) (σ : zM)  (σ' : zM) (hobj : (1, 0, 0) ∈ N0) (hfr : ∀ k, k ∉ [0] → (1, 0, k) ∉ N0) (hF : ∀ q ∈ N0, (q.1, q.2.1) ∉ ([(0, 7)] : List (Nat × Nat))) (hnu : ∀ q ∈ nu, (q.1, q.2.1) ∉ ([(1, 0), (0, 7)] : List (Nat × Nat)))  (hf : f_X1_init σ = some σ') : Met l yX1_init (Cond.code yX1_init cX1_init 1 none :: wsL_law) ({ frames := 2, cells := 9, slots := 40, locals := 44 } : Room) (zPm D aC zs [] A (N0, (zks 1 0 [0, 1] nu)) ad σ [.ref (ad 1 0 0)] (fun sz => ad 1 0 1 = sz + 0 ∧ ad 0 7 0 = sz + 1 ∧ ad 0 7 6 = sz + 2 ∧ ad 0 7 7 = sz + 3 ∧ ad 0 7 1 = sz + 4 ∧ ad 0 7 2 = sz + 5 ∧ ad 0 7 3 = sz + 6 ∧ ad 0 7 4 = sz + 7 ∧ ad 0 7 5 = sz + 8 ∧ True)) (zQ none (fun t => zG D aC A (N0 ++ [(1, 0, 1), (0, 7, 0), (0, 7, 6), (0, 7, 7), (0, 7, 1), (0, 7, 2), (0, 7, 3), (0, 7, 4), (0, 7, 5)], nu) ad σ' t t.heap ∧ True) A) 9 40 A := by
  refine Met.ofW (cc := cX1_init) (maxL := 1) (ret := none) (by decide) rfl ?_
  intro p e s m args below meth c s₁ B hml hv
  obtain ⟨rfl, ⟨hG, hZ⟩, hp0, hp1, hp2, hp3, hp4, hp5, hp6, hp7, hp8, -⟩ := hv
  have hx := B.exec
  have hb := B.bytes
  have hr := B.returns
  have hts : ∀ w ∈ wsL_law, w.before ([.ref (ad 1 0 0)] : List Value).toArray s = true := fun w h => (atoms_spec B.pre) w (List.mem_cons_of_mem _ h)
  have hown : s.vm.findClass RX1 = some m.cls := findClass_of_methodNamed B.named
  have hlocks := B.notSynchronized
  have hin2 : meth.name = "<init>" := (name_of_methodNamed B.named B.method).1
  have S : zS p m c cX1_init 1 s ([.ref (ad 1 0 0)] : List Value).toArray RX1 := ⟨hx, hb, hml, hown, hts⟩
  have hS : va_S A s.heap s.heap [] := va_S.rf
  have hl := lv_entry ([.ref (ad 1 0 0)]) (n := 1) (Nat.le_of_ble_eq_true rfl)
  rw [lg_entry_eq]
  generalize (lg_sl ([.ref (ad 1 0 0)]) ++ List.replicate (1 - (lg_sl ([.ref (ad 1 0 0)])).length) Slot.unset).toArray = ls at hl ⊢
  have hl : lv_has ls 1 [(0, .ref (ad 1 0 0))] := hl
  generalize hargs : ([.ref (ad 1 0 0)] : List Value).toArray = args at S hts ⊢
  clear hargs
  unfold f_X1_init at hf
  have hB : zB ad s.heap.size N0 N0 [] 1 0 [0] ([(0, 7)] : List (Nat × Nat)) 0 := zB.start hobj hfr hF
  clear hobj hfr hF
  obtain ⟨N, eN⟩ : ∃ x, x = N0 := ⟨_, rfl⟩
  have hB : zB ad s.heap.size N0 N [] 1 0 [0] ([(0, 7)] : List (Nat × Nat)) 0 := by rw [eN]; exact hB
  have hG : zG D aC A (N, (zks 1 0 [0, 1] nu)) ad σ s s.heap := by rw [eN]; exact hG
  refine lv_aload_n hx hb dX1_init_0 rfl (lv_at hl 0 rfl) ?_
  refine W.objInit hx hb hown (hts _ zw_72) (hts _ zw_11) (hts _ zw_12) rfl (by rw [S.2.2.1]; exact hl.1) rfl dX1_init_1 (Nat.le_of_ble_eq_true rfl) (Nat.le_of_ble_eq_true rfl) ?_
  refine W.eq (g2 := F0 m 4 ls []) rfl ?_
  refine lv_aload_n hx hb dX1_init_4 rfl (lv_at hl 0 rfl) ?_
  refine lv_bipush (v := 6) hx hb dX1_init_5 (by decide) ?_
  refine zd_newq (t0 := 5) (n0 := 9) (c1 := 0) (C := RX0) (c0 := 1) (i0 := 0) (k0 := 0) (N1 := 6) (n' := 1) (slots' := 6) (made' := [(1, 0, 1)]) S hG hS hZ.1 hB hZ.2.2.2.2.2.2.2.1 zw_73 rfl (fun _ => rfl) (by decide) (by decide) hp0 (by decide) (by decide) (by decide) (Nat.le_of_ble_eq_true rfl) rfl rfl rfl (Nat.le_of_ble_eq_true rfl) (Nat.le_of_ble_eq_true rfl) dX1_init_7 ?_
  clear hG hS hB
  intro H N hG hS hB hlast
  obtain ⟨σ1, eσ1, hf⟩ := zlt_s hf
  rw [← eσ1] at hG
  refine zc_putref (N := N) (nu := (zks 1 0 [1] nu)) (ty := .array (.object RX0)) (c0 := 1) (i0 := 0) (k0 := 0) (T := TX1) S hG hS tyX1 tyX1_ok nmX1 hB.2.1 (zks_n hnu (by decide)) rfl inlX1 (by decide) rfl rfl hin2 rfl zw_74 (by decide +kernel) rfl rfl rfl dX1_init_10 ?_
  clear hG hS
  intro H locs hG hS
  refine lv_aload_n hx hb dX1_init_13 rfl (lv_at hl 0 rfl) ?_
  refine zd_new (c0 := 0) (i0 := 7) (C := RX0) (T := TX0) (n' := 2) (slots' := 16) S hG hS hZ.1 hB tyX0 tyX0_ok rfl inlX0 zw_73 zw_75 zw_76 [5, 6, 0, 1, 2, 3, 4] (by decide +kernel) (by decide +kernel) (by decide +kernel) (by decide) (zks_o hnu (by decide) (by decide)) hp1 rfl rfl (Nat.le_of_ble_eq_true rfl) (Nat.le_of_ble_eq_true rfl) dX1_init_14 ?_
  clear hG hS
  intro H N1 eN1 hG hS
  obtain ⟨σ2, eσ2, hf⟩ := zlt_s hf
  rw [← eσ2] at hG
  refine lv_dup hx hb dX1_init_17 rfl ?_
  refine lv_iconst (v := 0) hx hb dX1_init_18 (by decide) ?_
  refine lv_iconst (v := 0) hx hb dX1_init_19 (by decide) ?_
  obtain ⟨σ3, eσ3, hf⟩ := zbi hf
  refine zd_callI (n := 2) (rest := [.ref (ad 0 7 0), .ref (ad 1 0 0)]) (c0 := 0) (i0 := 7) (n' := 9) (slots' := 40) (made' := [(1, 0, 1), (0, 7, 0), (0, 7, 6), (0, 7, 7), (0, 7, 1), (0, 7, 2), (0, 7, 3), (0, 7, 4), (0, 7, 5)]) (F' := ([] : List (Nat × Nat))) S hG hS hZ hB eN1 (by decide) (by decide) (by decide) hp1 rfl (fun h1 h2 h3 => c_X0_init7 l D aC zs A N1 (zks 1 0 [1] nu) ad σ2 σ3 h1 h2 h3 (zks_nu hnu (by decide) (by decide)) eσ3) (fun z hz => by subst hz; exact ⟨hp2, hp3, hp4, hp5, hp6, hp7, hp8, trivial⟩) zw_80 zw_81 zw_76 zw_82 rfl (by decide +kernel) ⟨rfl, rfl⟩ ⟨(Nat.le_of_ble_eq_true rfl), (Nat.le_of_ble_eq_true rfl)⟩ hl.1 rfl (by rfl) (Nat.le_of_ble_eq_true rfl) dX1_init_20 rfl rfl ⟨(Nat.le_of_ble_eq_true rfl), (Nat.le_of_ble_eq_true rfl)⟩ rfl (by decide) (by decide) (by decide) ⟨(0, 7, 5), by simp, by simp only [zad, hp8]⟩ ?_
  clear hG hS hB eN1
  intro H locs N hG hS hB
  refine zc_putref (N := N) (nu := nu) (ty := .object RX0) (c0 := 1) (i0 := 0) (k0 := 1) (T := TX1) S hG hS tyX1 tyX1_ok nmX1 hB.2.1 (fun h => hnu _ h List.mem_cons_self) rfl inlX1 (by decide) rfl rfl hin2 rfl zw_77 (by decide +kernel) rfl rfl rfl dX1_init_23 ?_
  clear hG hS
  intro H locs hG hS
  refine lv_aload_n hx hb dX1_init_26 rfl (lv_at hl 0 rfl) ?_
  refine lv_iconst (v := 0) hx hb dX1_init_27 (by decide) ?_
  refine zc_putI (c0 := 1) (i0 := 0) (k0 := 2) (T := TX1) S hG hS tyX1 tyX1_ok nmX1 hB.2.1 (fun h => hnu _ h List.mem_cons_self) rfl inlX1 (by decide) rfl (Or.inl rfl) zw_78 (by decide +kernel) rfl dX1_init_28 (fun H locs hG hS => ?_)
  obtain ⟨σ4, eσ4, hf⟩ := zlt_s hf
  rw [← eσ4] at hG
  refine lv_aload_n hx hb dX1_init_31 rfl (lv_at hl 0 rfl) ?_
  refine lv_null hx hb dX1_init_32 ?_
  refine zc_putN (c0 := 1) (i0 := 0) (k0 := 3) (T := TX1) (cn := RX0) S hG hS tyX1 tyX1_ok nmX1 hB.2.1 (fun h => hnu _ h List.mem_cons_self) rfl inlX1 (by decide) rfl (Or.inl rfl) zw_79 (by decide +kernel) rfl dX1_init_33 (fun H locs hG hS => ?_)
  obtain ⟨σ5, eσ5, hf⟩ := zlt_s hf
  rw [← eσ5] at hG
  have hq := (Option.some.inj hf)
  subst hq
  rw [hB.1] at hG
  exact z_vret S hG hS hlocks trivial hr dX1_init_36
set_option maxRecDepth 100000 in
set_option maxHeartbeats 4000000 in
theorem c_X12_init (l : Launch) (D : va_G) (aC : Nat → ClassId) (zs : Nat × Nat) (A : Nat → Prop) (N0 nu : List (Nat × Nat × Nat)) (ad : Nat → Nat → Nat → Nat) (σ : zM)  (σ' : zM) (hobj : (12, 0, 0) ∈ N0) (hfr : ∀ k, k ∉ [0] → (12, 0, k) ∉ N0) (hF : ∀ q ∈ N0, (q.1, q.2.1) ∉ ([] : List (Nat × Nat))) (hnu : ∀ q ∈ nu, (q.1, q.2.1) ∉ ([(12, 0)] : List (Nat × Nat)))  (hf : f_X12_init σ = some σ') : Met l yX12_init (Cond.code yX12_init cX12_init 2 none :: wsL_law) ({ frames := 1, cells := 39, slots := 38123, locals := 12 } : Room) (zPm D aC zs [] A (N0, (zks 12 0 [3, 4, 5, 6, 7, 8, 10, 11, 12, 13, 14, 25, 26, 27, 28, 29, 30, 31, 32, 33, 34, 35, 36, 37, 38, 39, 42, 45, 46, 47, 55, 56, 57, 58, 59, 60, 61, 62, 63] nu)) ad σ [.ref (ad 12 0 0)] (fun sz => ad 12 0 4 = sz + 0 ∧ ad 12 0 5 = sz + 1 ∧ ad 12 0 6 = sz + 2 ∧ ad 12 0 7 = sz + 3 ∧ ad 12 0 8 = sz + 4 ∧ ad 12 0 9 = sz + 5 ∧ ad 12 0 11 = sz + 6 ∧ ad 12 0 12 = sz + 7 ∧ ad 12 0 13 = sz + 8 ∧ ad 12 0 14 = sz + 9 ∧ ad 12 0 15 = sz + 10 ∧ ad 12 0 26 = sz + 11 ∧ ad 12 0 27 = sz + 12 ∧ ad 12 0 28 = sz + 13 ∧ ad 12 0 29 = sz + 14 ∧ ad 12 0 30 = sz + 15 ∧ ad 12 0 31 = sz + 16 ∧ ad 12 0 32 = sz + 17 ∧ ad 12 0 33 = sz + 18 ∧ ad 12 0 34 = sz + 19 ∧ ad 12 0 35 = sz + 20 ∧ ad 12 0 36 = sz + 21 ∧ ad 12 0 37 = sz + 22 ∧ ad 12 0 38 = sz + 23 ∧ ad 12 0 39 = sz + 24 ∧ ad 12 0 40 = sz + 25 ∧ ad 12 0 43 = sz + 26 ∧ ad 12 0 46 = sz + 27 ∧ ad 12 0 47 = sz + 28 ∧ ad 12 0 48 = sz + 29 ∧ ad 12 0 56 = sz + 30 ∧ ad 12 0 57 = sz + 31 ∧ ad 12 0 58 = sz + 32 ∧ ad 12 0 59 = sz + 33 ∧ ad 12 0 60 = sz + 34 ∧ ad 12 0 61 = sz + 35 ∧ ad 12 0 62 = sz + 36 ∧ ad 12 0 63 = sz + 37 ∧ ad 12 0 64 = sz + 38 ∧ True)) (zQ none (fun t => zG D aC A (N0 ++ [(12, 0, 4), (12, 0, 5), (12, 0, 6), (12, 0, 7), (12, 0, 8), (12, 0, 9), (12, 0, 11), (12, 0, 12), (12, 0, 13), (12, 0, 14), (12, 0, 15), (12, 0, 26), (12, 0, 27), (12, 0, 28), (12, 0, 29), (12, 0, 30), (12, 0, 31), (12, 0, 32), (12, 0, 33), (12, 0, 34), (12, 0, 35), (12, 0, 36), (12, 0, 37), (12, 0, 38), (12, 0, 39), (12, 0, 40), (12, 0, 43), (12, 0, 46), (12, 0, 47), (12, 0, 48), (12, 0, 56), (12, 0, 57), (12, 0, 58), (12, 0, 59), (12, 0, 60), (12, 0, 61), (12, 0, 62), (12, 0, 63), (12, 0, 64)], nu) ad σ' t t.heap ∧ True) A) 39 38123 A := by
  refine Met.ofW (cc := cX12_init) (maxL := 2) (ret := none) (by decide) rfl ?_
  intro p e s m args below meth c s₁ B hml hv
  obtain ⟨rfl, ⟨hG, hZ⟩, hp0, hp1, hp2, hp3, hp4, hp5, hp6, hp7, hp8, hp9, hp10, hp11, hp12, hp13, hp14, hp15, hp16, hp17, hp18, hp19, hp20, hp21, hp22, hp23, hp24, hp25, hp26, hp27, hp28, hp29, hp30, hp31, hp32, hp33, hp34, hp35, hp36, hp37, hp38, -⟩ := hv
  have hx := B.exec
  have hb := B.bytes
  have hr := B.returns
  have hts : ∀ w ∈ wsL_law, w.before ([.ref (ad 12 0 0)] : List Value).toArray s = true := fun w h => (atoms_spec B.pre) w (List.mem_cons_of_mem _ h)
  have hown : s.vm.findClass RX12 = some m.cls := findClass_of_methodNamed B.named
  have hlocks := B.notSynchronized
  have hin2 : meth.name = "<init>" := (name_of_methodNamed B.named B.method).1
  have S : zS p m c cX12_init 2 s ([.ref (ad 12 0 0)] : List Value).toArray RX12 := ⟨hx, hb, hml, hown, hts⟩
  have hS : va_S A s.heap s.heap [] := va_S.rf
  have hl := lv_entry ([.ref (ad 12 0 0)]) (n := 2) (Nat.le_of_ble_eq_true rfl)
  rw [lg_entry_eq]
  generalize (lg_sl ([.ref (ad 12 0 0)]) ++ List.replicate (2 - (lg_sl ([.ref (ad 12 0 0)])).length) Slot.unset).toArray = ls at hl ⊢
  have hl : lv_has ls 2 [(0, .ref (ad 12 0 0))] := hl
  generalize hargs : ([.ref (ad 12 0 0)] : List Value).toArray = args at S hts ⊢
  clear hargs
  unfold f_X12_init at hf
  have hB : zB ad s.heap.size N0 N0 [] 12 0 [0] ([] : List (Nat × Nat)) 0 := zB.start hobj hfr hF
  clear hobj hfr hF
  obtain ⟨N, eN⟩ : ∃ x, x = N0 := ⟨_, rfl⟩
  have hB : zB ad s.heap.size N0 N [] 12 0 [0] ([] : List (Nat × Nat)) 0 := by rw [eN]; exact hB
  have hG : zG D aC A (N, (zks 12 0 [3, 4, 5, 6, 7, 8, 10, 11, 12, 13, 14, 25, 26, 27, 28, 29, 30, 31, 32, 33, 34, 35, 36, 37, 38, 39, 42, 45, 46, 47, 55, 56, 57, 58, 59, 60, 61, 62, 63] nu)) ad σ s s.heap := by rw [eN]; exact hG
  refine lv_aload_n hx hb dX12_init_0 rfl (lv_at hl 0 rfl) ?_
  refine W.objInit hx hb hown (hts _ zw_223) (hts _ zw_11) (hts _ zw_12) rfl (by rw [S.2.2.1]; exact hl.1) rfl dX12_init_1 (Nat.le_of_ble_eq_true rfl) (Nat.le_of_ble_eq_true rfl) ?_
  refine W.eq (g2 := F0 m 4 ls []) rfl ?_
  refine lv_aload_n hx hb dX12_init_4 rfl (lv_at hl 0 rfl) ?_
  refine lv_iconst (v := 1) hx hb dX12_init_5 (by decide) ?_
  refine zc_putI (c0 := 12) (i0 := 0) (k0 := 2) (T := TX12) S hG hS tyX12 tyX12_ok nmX12 hB.2.1 (zks_n hnu (by decide)) rfl inlX12 (by decide) rfl (Or.inl rfl) zw_224 (by decide +kernel) rfl dX12_init_6 (fun H locs hG hS => ?_)
  obtain ⟨σ1, eσ1, hf⟩ := zlt_s hf
  rw [← eσ1] at hG
  refine lv_aload_n hx hb dX12_init_9 rfl (lv_at hl 0 rfl) ?_
  refine lv_sipush (v := 1600) hx hb dX12_init_10 (by decide) ?_
  refine zd_newarr (atype := .int) (c0 := 12) (i0 := 0) (k0 := 3) (N1 := 1600) (n' := 1) (slots' := 1600) (made' := [(12, 0, 4)]) S hG hS hZ.1 hB zw_60 (Or.inl ⟨rfl, rfl⟩) (by decide) (by decide) hp0 (by decide) (by decide) (by decide) (Nat.le_of_ble_eq_true rfl) rfl rfl rfl (Nat.le_of_ble_eq_true rfl) (Nat.le_of_ble_eq_true rfl) dX12_init_13 ?_
  clear hG hS hB
  intro H N hG hS hB hlast
  obtain ⟨σ2, eσ2, hf⟩ := zlt_s hf
  rw [← eσ2] at hG
  refine zc_putref (N := N) (nu := (zks 12 0 [4, 5, 6, 7, 8, 10, 11, 12, 13, 14, 25, 26, 27, 28, 29, 30, 31, 32, 33, 34, 35, 36, 37, 38, 39, 42, 45, 46, 47, 55, 56, 57, 58, 59, 60, 61, 62, 63] nu)) (ty := .array .int) (c0 := 12) (i0 := 0) (k0 := 3) (T := TX12) S hG hS tyX12 tyX12_ok nmX12 hB.2.1 (zks_n hnu (by decide)) rfl inlX12 (by decide) rfl rfl hin2 rfl zw_225 (by decide +kernel) rfl rfl rfl dX12_init_15 ?_
  clear hG hS
  intro H locs hG hS
  refine lv_aload_n hx hb dX12_init_18 rfl (lv_at hl 0 rfl) ?_
  refine lv_bipush (v := 10) hx hb dX12_init_19 (by decide) ?_
  refine zd_newarr (atype := .int) (c0 := 12) (i0 := 0) (k0 := 4) (N1 := 10) (n' := 2) (slots' := 1610) (made' := [(12, 0, 4), (12, 0, 5)]) S hG hS hZ.1 hB zw_60 (Or.inl ⟨rfl, rfl⟩) (by decide) (by decide) hp1 (by decide) (by decide) (by decide) (Nat.le_of_ble_eq_true rfl) rfl rfl rfl (Nat.le_of_ble_eq_true rfl) (Nat.le_of_ble_eq_true rfl) dX12_init_21 ?_
  clear hG hS hB
  intro H N hG hS hB hlast
  obtain ⟨σ3, eσ3, hf⟩ := zlt_s hf
  rw [← eσ3] at hG
  refine zc_putref (N := N) (nu := (zks 12 0 [5, 6, 7, 8, 10, 11, 12, 13, 14, 25, 26, 27, 28, 29, 30, 31, 32, 33, 34, 35, 36, 37, 38, 39, 42, 45, 46, 47, 55, 56, 57, 58, 59, 60, 61, 62, 63] nu)) (ty := .array .int) (c0 := 12) (i0 := 0) (k0 := 4) (T := TX12) S hG hS tyX12 tyX12_ok nmX12 hB.2.1 (zks_n hnu (by decide)) rfl inlX12 (by decide) rfl rfl hin2 rfl zw_226 (by decide +kernel) rfl rfl rfl dX12_init_23 ?_
  clear hG hS
  intro H locs hG hS
  refine lv_aload_n hx hb dX12_init_26 rfl (lv_at hl 0 rfl) ?_
  refine lv_bipush (v := 10) hx hb dX12_init_27 (by decide) ?_
  refine zd_newarr (atype := .int) (c0 := 12) (i0 := 0) (k0 := 5) (N1 := 10) (n' := 3) (slots' := 1620) (made' := [(12, 0, 4), (12, 0, 5), (12, 0, 6)]) S hG hS hZ.1 hB zw_60 (Or.inl ⟨rfl, rfl⟩) (by decide) (by decide) hp2 (by decide) (by decide) (by decide) (Nat.le_of_ble_eq_true rfl) rfl rfl rfl (Nat.le_of_ble_eq_true rfl) (Nat.le_of_ble_eq_true rfl) dX12_init_29 ?_
  clear hG hS hB
  intro H N hG hS hB hlast
  obtain ⟨σ4, eσ4, hf⟩ := zlt_s hf
  rw [← eσ4] at hG
  refine zc_putref (N := N) (nu := (zks 12 0 [6, 7, 8, 10, 11, 12, 13, 14, 25, 26, 27, 28, 29, 30, 31, 32, 33, 34, 35, 36, 37, 38, 39, 42, 45, 46, 47, 55, 56, 57, 58, 59, 60, 61, 62, 63] nu)) (ty := .array .int) (c0 := 12) (i0 := 0) (k0 := 5) (T := TX12) S hG hS tyX12 tyX12_ok nmX12 hB.2.1 (zks_n hnu (by decide)) rfl inlX12 (by decide) rfl rfl hin2 rfl zw_227 (by decide +kernel) rfl rfl rfl dX12_init_31 ?_
  clear hG hS
  intro H locs hG hS
  refine lv_aload_n hx hb dX12_init_34 rfl (lv_at hl 0 rfl) ?_
  refine lv_iconst (v := 4) hx hb dX12_init_35 (by decide) ?_
  refine zd_newarr (atype := .int) (c0 := 12) (i0 := 0) (k0 := 6) (N1 := 4) (n' := 4) (slots' := 1624) (made' := [(12, 0, 4), (12, 0, 5), (12, 0, 6), (12, 0, 7)]) S hG hS hZ.1 hB zw_60 (Or.inl ⟨rfl, rfl⟩) (by decide) (by decide) hp3 (by decide) (by decide) (by decide) (Nat.le_of_ble_eq_true rfl) rfl rfl rfl (Nat.le_of_ble_eq_true rfl) (Nat.le_of_ble_eq_true rfl) dX12_init_36 ?_
  clear hG hS hB
  intro H N hG hS hB hlast
  obtain ⟨σ5, eσ5, hf⟩ := zlt_s hf
  rw [← eσ5] at hG
  refine lv_dup hx hb dX12_init_38 rfl ?_
  refine lv_iconst (v := 0) hx hb dX12_init_39 (by decide) ?_
  refine lv_iconst (v := 4) hx hb dX12_init_40 (by decide) ?_
  refine zc_iast (c0 := 12) (i0 := 0) (k0 := 6) (j := 0) S hG hS hlast rfl (by decide) dX12_init_41 (fun H locs hG hS => ?_)
  obtain ⟨σ6, eσ6, hf⟩ := zlt_s hf
  rw [← eσ6] at hG
  refine lv_dup hx hb dX12_init_42 rfl ?_
  refine lv_iconst (v := 1) hx hb dX12_init_43 (by decide) ?_
  refine lv_bipush (v := 6) hx hb dX12_init_44 (by decide) ?_
  refine zc_iast (c0 := 12) (i0 := 0) (k0 := 6) (j := 1) S hG hS hlast rfl (by decide) dX12_init_46 (fun H locs hG hS => ?_)
  obtain ⟨σ7, eσ7, hf⟩ := zlt_s hf
  rw [← eσ7] at hG
  refine lv_dup hx hb dX12_init_47 rfl ?_
  refine lv_iconst (v := 2) hx hb dX12_init_48 (by decide) ?_
  refine lv_bipush (v := 8) hx hb dX12_init_49 (by decide) ?_
  refine zc_iast (c0 := 12) (i0 := 0) (k0 := 6) (j := 2) S hG hS hlast rfl (by decide) dX12_init_51 (fun H locs hG hS => ?_)
  obtain ⟨σ8, eσ8, hf⟩ := zlt_s hf
  rw [← eσ8] at hG
  refine lv_dup hx hb dX12_init_52 rfl ?_
  refine lv_iconst (v := 3) hx hb dX12_init_53 (by decide) ?_
  refine lv_bipush (v := 6) hx hb dX12_init_54 (by decide) ?_
  refine zc_iast (c0 := 12) (i0 := 0) (k0 := 6) (j := 3) S hG hS hlast rfl (by decide) dX12_init_56 (fun H locs hG hS => ?_)
  obtain ⟨σ9, eσ9, hf⟩ := zlt_s hf
  rw [← eσ9] at hG
  refine zc_putref (N := N) (nu := (zks 12 0 [7, 8, 10, 11, 12, 13, 14, 25, 26, 27, 28, 29, 30, 31, 32, 33, 34, 35, 36, 37, 38, 39, 42, 45, 46, 47, 55, 56, 57, 58, 59, 60, 61, 62, 63] nu)) (ty := .array .int) (c0 := 12) (i0 := 0) (k0 := 6) (T := TX12) S hG hS tyX12 tyX12_ok nmX12 hB.2.1 (zks_n hnu (by decide)) rfl inlX12 (by decide) rfl rfl hin2 rfl zw_228 (by decide +kernel) rfl rfl rfl dX12_init_57 ?_
  clear hG hS
  intro H locs hG hS
  refine lv_aload_n hx hb dX12_init_60 rfl (lv_at hl 0 rfl) ?_
  refine lv_sipush (v := 160) hx hb dX12_init_61 (by decide) ?_
  refine zd_newarr (atype := .int) (c0 := 12) (i0 := 0) (k0 := 7) (N1 := 160) (n' := 5) (slots' := 1784) (made' := [(12, 0, 4), (12, 0, 5), (12, 0, 6), (12, 0, 7), (12, 0, 8)]) S hG hS hZ.1 hB zw_60 (Or.inl ⟨rfl, rfl⟩) (by decide) (by decide) hp4 (by decide) (by decide) (by decide) (Nat.le_of_ble_eq_true rfl) rfl rfl rfl (Nat.le_of_ble_eq_true rfl) (Nat.le_of_ble_eq_true rfl) dX12_init_64 ?_
  clear hG hS hB
  intro H N hG hS hB hlast
  obtain ⟨σ10, eσ10, hf⟩ := zlt_s hf
  rw [← eσ10] at hG
  refine zc_putref (N := N) (nu := (zks 12 0 [8, 10, 11, 12, 13, 14, 25, 26, 27, 28, 29, 30, 31, 32, 33, 34, 35, 36, 37, 38, 39, 42, 45, 46, 47, 55, 56, 57, 58, 59, 60, 61, 62, 63] nu)) (ty := .array .int) (c0 := 12) (i0 := 0) (k0 := 7) (T := TX12) S hG hS tyX12 tyX12_ok nmX12 hB.2.1 (zks_n hnu (by decide)) rfl inlX12 (by decide) rfl rfl hin2 rfl zw_229 (by decide +kernel) rfl rfl rfl dX12_init_66 ?_
  clear hG hS
  intro H locs hG hS
  refine lv_aload_n hx hb dX12_init_69 rfl (lv_at hl 0 rfl) ?_
  refine lv_sipush (v := 160) hx hb dX12_init_70 (by decide) ?_
  refine zd_newarr (atype := .int) (c0 := 12) (i0 := 0) (k0 := 8) (N1 := 160) (n' := 6) (slots' := 1944) (made' := [(12, 0, 4), (12, 0, 5), (12, 0, 6), (12, 0, 7), (12, 0, 8), (12, 0, 9)]) S hG hS hZ.1 hB zw_60 (Or.inl ⟨rfl, rfl⟩) (by decide) (by decide) hp5 (by decide) (by decide) (by decide) (Nat.le_of_ble_eq_true rfl) rfl rfl rfl (Nat.le_of_ble_eq_true rfl) (Nat.le_of_ble_eq_true rfl) dX12_init_73 ?_
  clear hG hS hB
  intro H N hG hS hB hlast
  obtain ⟨σ11, eσ11, hf⟩ := zlt_s hf
  rw [← eσ11] at hG
  refine zc_putref (N := N) (nu := (zks 12 0 [10, 11, 12, 13, 14, 25, 26, 27, 28, 29, 30, 31, 32, 33, 34, 35, 36, 37, 38, 39, 42, 45, 46, 47, 55, 56, 57, 58, 59, 60, 61, 62, 63] nu)) (ty := .array .int) (c0 := 12) (i0 := 0) (k0 := 8) (T := TX12) S hG hS tyX12 tyX12_ok nmX12 hB.2.1 (zks_n hnu (by decide)) rfl inlX12 (by decide) rfl rfl hin2 rfl zw_230 (by decide +kernel) rfl rfl rfl dX12_init_75 ?_
  clear hG hS
  intro H locs hG hS
  refine lv_aload_n hx hb dX12_init_78 rfl (lv_at hl 0 rfl) ?_
  refine lv_bipush (v := 10) hx hb dX12_init_79 (by decide) ?_
  refine zd_newarr (atype := .int) (c0 := 12) (i0 := 0) (k0 := 10) (N1 := 10) (n' := 7) (slots' := 1954) (made' := [(12, 0, 4), (12, 0, 5), (12, 0, 6), (12, 0, 7), (12, 0, 8), (12, 0, 9), (12, 0, 11)]) S hG hS hZ.1 hB zw_60 (Or.inl ⟨rfl, rfl⟩) (by decide) (by decide) hp6 (by decide) (by decide) (by decide) (Nat.le_of_ble_eq_true rfl) rfl rfl rfl (Nat.le_of_ble_eq_true rfl) (Nat.le_of_ble_eq_true rfl) dX12_init_81 ?_
  clear hG hS hB
  intro H N hG hS hB hlast
  obtain ⟨σ12, eσ12, hf⟩ := zlt_s hf
  rw [← eσ12] at hG
  refine zc_putref (N := N) (nu := (zks 12 0 [11, 12, 13, 14, 25, 26, 27, 28, 29, 30, 31, 32, 33, 34, 35, 36, 37, 38, 39, 42, 45, 46, 47, 55, 56, 57, 58, 59, 60, 61, 62, 63] nu)) (ty := .array .int) (c0 := 12) (i0 := 0) (k0 := 10) (T := TX12) S hG hS tyX12 tyX12_ok nmX12 hB.2.1 (zks_n hnu (by decide)) rfl inlX12 (by decide) rfl rfl hin2 rfl zw_231 (by decide +kernel) rfl rfl rfl dX12_init_83 ?_
  clear hG hS
  intro H locs hG hS
  refine lv_aload_n hx hb dX12_init_86 rfl (lv_at hl 0 rfl) ?_
  refine lv_bipush (v := 10) hx hb dX12_init_87 (by decide) ?_
  refine zd_newarr (atype := .int) (c0 := 12) (i0 := 0) (k0 := 11) (N1 := 10) (n' := 8) (slots' := 1964) (made' := [(12, 0, 4), (12, 0, 5), (12, 0, 6), (12, 0, 7), (12, 0, 8), (12, 0, 9), (12, 0, 11), (12, 0, 12)]) S hG hS hZ.1 hB zw_60 (Or.inl ⟨rfl, rfl⟩) (by decide) (by decide) hp7 (by decide) (by decide) (by decide) (Nat.le_of_ble_eq_true rfl) rfl rfl rfl (Nat.le_of_ble_eq_true rfl) (Nat.le_of_ble_eq_true rfl) dX12_init_89 ?_
  clear hG hS hB
  intro H N hG hS hB hlast
  obtain ⟨σ13, eσ13, hf⟩ := zlt_s hf
  rw [← eσ13] at hG
  refine zc_putref (N := N) (nu := (zks 12 0 [12, 13, 14, 25, 26, 27, 28, 29, 30, 31, 32, 33, 34, 35, 36, 37, 38, 39, 42, 45, 46, 47, 55, 56, 57, 58, 59, 60, 61, 62, 63] nu)) (ty := .array .int) (c0 := 12) (i0 := 0) (k0 := 11) (T := TX12) S hG hS tyX12 tyX12_ok nmX12 hB.2.1 (zks_n hnu (by decide)) rfl inlX12 (by decide) rfl rfl hin2 rfl zw_232 (by decide +kernel) rfl rfl rfl dX12_init_91 ?_
  clear hG hS
  intro H locs hG hS
  refine lv_aload_n hx hb dX12_init_94 rfl (lv_at hl 0 rfl) ?_
  refine lv_bipush (v := 10) hx hb dX12_init_95 (by decide) ?_
  refine zd_newarr (atype := .int) (c0 := 12) (i0 := 0) (k0 := 12) (N1 := 10) (n' := 9) (slots' := 1974) (made' := [(12, 0, 4), (12, 0, 5), (12, 0, 6), (12, 0, 7), (12, 0, 8), (12, 0, 9), (12, 0, 11), (12, 0, 12), (12, 0, 13)]) S hG hS hZ.1 hB zw_60 (Or.inl ⟨rfl, rfl⟩) (by decide) (by decide) hp8 (by decide) (by decide) (by decide) (Nat.le_of_ble_eq_true rfl) rfl rfl rfl (Nat.le_of_ble_eq_true rfl) (Nat.le_of_ble_eq_true rfl) dX12_init_97 ?_
  clear hG hS hB
  intro H N hG hS hB hlast
  obtain ⟨σ14, eσ14, hf⟩ := zlt_s hf
  rw [← eσ14] at hG
  refine zc_putref (N := N) (nu := (zks 12 0 [13, 14, 25, 26, 27, 28, 29, 30, 31, 32, 33, 34, 35, 36, 37, 38, 39, 42, 45, 46, 47, 55, 56, 57, 58, 59, 60, 61, 62, 63] nu)) (ty := .array .int) (c0 := 12) (i0 := 0) (k0 := 12) (T := TX12) S hG hS tyX12 tyX12_ok nmX12 hB.2.1 (zks_n hnu (by decide)) rfl inlX12 (by decide) rfl rfl hin2 rfl zw_233 (by decide +kernel) rfl rfl rfl dX12_init_99 ?_
  clear hG hS
  intro H locs hG hS
  refine lv_aload_n hx hb dX12_init_102 rfl (lv_at hl 0 rfl) ?_
  refine lv_bipush (v := 10) hx hb dX12_init_103 (by decide) ?_
  refine zd_newarr (atype := .int) (c0 := 12) (i0 := 0) (k0 := 13) (N1 := 10) (n' := 10) (slots' := 1984) (made' := [(12, 0, 4), (12, 0, 5), (12, 0, 6), (12, 0, 7), (12, 0, 8), (12, 0, 9), (12, 0, 11), (12, 0, 12), (12, 0, 13), (12, 0, 14)]) S hG hS hZ.1 hB zw_60 (Or.inl ⟨rfl, rfl⟩) (by decide) (by decide) hp9 (by decide) (by decide) (by decide) (Nat.le_of_ble_eq_true rfl) rfl rfl rfl (Nat.le_of_ble_eq_true rfl) (Nat.le_of_ble_eq_true rfl) dX12_init_105 ?_
  clear hG hS hB
  intro H N hG hS hB hlast
  obtain ⟨σ15, eσ15, hf⟩ := zlt_s hf
  rw [← eσ15] at hG
  refine zc_putref (N := N) (nu := (zks 12 0 [14, 25, 26, 27, 28, 29, 30, 31, 32, 33, 34, 35, 36, 37, 38, 39, 42, 45, 46, 47, 55, 56, 57, 58, 59, 60, 61, 62, 63] nu)) (ty := .array .int) (c0 := 12) (i0 := 0) (k0 := 13) (T := TX12) S hG hS tyX12 tyX12_ok nmX12 hB.2.1 (zks_n hnu (by decide)) rfl inlX12 (by decide) rfl rfl hin2 rfl zw_234 (by decide +kernel) rfl rfl rfl dX12_init_107 ?_
  clear hG hS
  intro H locs hG hS
  refine lv_aload_n hx hb dX12_init_110 rfl (lv_at hl 0 rfl) ?_
  refine lv_bipush (v := 100) hx hb dX12_init_111 (by decide) ?_
  refine zd_newarr (atype := .boolean) (c0 := 12) (i0 := 0) (k0 := 14) (N1 := 100) (n' := 11) (slots' := 2084) (made' := [(12, 0, 4), (12, 0, 5), (12, 0, 6), (12, 0, 7), (12, 0, 8), (12, 0, 9), (12, 0, 11), (12, 0, 12), (12, 0, 13), (12, 0, 14), (12, 0, 15)]) S hG hS hZ.1 hB zw_114 (Or.inr (Or.inr (Or.inl ⟨rfl, rfl⟩))) (by decide) (by decide) hp10 (by decide) (by decide) (by decide) (Nat.le_of_ble_eq_true rfl) rfl rfl rfl (Nat.le_of_ble_eq_true rfl) (Nat.le_of_ble_eq_true rfl) dX12_init_113 ?_
  clear hG hS hB
  intro H N hG hS hB hlast
  obtain ⟨σ16, eσ16, hf⟩ := zlt_s hf
  rw [← eσ16] at hG
  refine zc_putref (N := N) (nu := (zks 12 0 [25, 26, 27, 28, 29, 30, 31, 32, 33, 34, 35, 36, 37, 38, 39, 42, 45, 46, 47, 55, 56, 57, 58, 59, 60, 61, 62, 63] nu)) (ty := .array .boolean) (c0 := 12) (i0 := 0) (k0 := 14) (T := TX12) S hG hS tyX12 tyX12_ok nmX12 hB.2.1 (zks_n hnu (by decide)) rfl inlX12 (by decide) rfl rfl hin2 rfl zw_235 (by decide +kernel) rfl rfl rfl dX12_init_115 ?_
  clear hG hS
  intro H locs hG hS
  refine lv_aload_n hx hb dX12_init_118 rfl (lv_at hl 0 rfl) ?_
  refine lv_iconst (v := (-1)) hx hb dX12_init_119 (by decide) ?_
  refine zc_putI (c0 := 12) (i0 := 0) (k0 := 24) (T := TX12) S hG hS tyX12 tyX12_ok nmX12 hB.2.1 (zks_n hnu (by decide)) rfl inlX12 (by decide) rfl (Or.inl rfl) zw_236 (by decide +kernel) rfl dX12_init_120 (fun H locs hG hS => ?_)
  obtain ⟨σ17, eσ17, hf⟩ := zlt_s hf
  rw [← eσ17] at hG
  refine lv_aload_n hx hb dX12_init_123 rfl (lv_at hl 0 rfl) ?_
  refine lv_bipush (v := 7) hx hb dX12_init_124 (by decide) ?_
  refine zd_newarr (atype := .int) (c0 := 12) (i0 := 0) (k0 := 25) (N1 := 7) (n' := 12) (slots' := 2091) (made' := [(12, 0, 4), (12, 0, 5), (12, 0, 6), (12, 0, 7), (12, 0, 8), (12, 0, 9), (12, 0, 11), (12, 0, 12), (12, 0, 13), (12, 0, 14), (12, 0, 15), (12, 0, 26)]) S hG hS hZ.1 hB zw_60 (Or.inl ⟨rfl, rfl⟩) (by decide) (by decide) hp11 (by decide) (by decide) (by decide) (Nat.le_of_ble_eq_true rfl) rfl rfl rfl (Nat.le_of_ble_eq_true rfl) (Nat.le_of_ble_eq_true rfl) dX12_init_126 ?_
  clear hG hS hB
  intro H N hG hS hB hlast
  obtain ⟨σ18, eσ18, hf⟩ := zlt_s hf
  rw [← eσ18] at hG
  refine zc_putref (N := N) (nu := (zks 12 0 [26, 27, 28, 29, 30, 31, 32, 33, 34, 35, 36, 37, 38, 39, 42, 45, 46, 47, 55, 56, 57, 58, 59, 60, 61, 62, 63] nu)) (ty := .array .int) (c0 := 12) (i0 := 0) (k0 := 25) (T := TX12) S hG hS tyX12 tyX12_ok nmX12 hB.2.1 (zks_n hnu (by decide)) rfl inlX12 (by decide) rfl rfl hin2 rfl zw_237 (by decide +kernel) rfl rfl rfl dX12_init_128 ?_
  clear hG hS
  intro H locs hG hS
  refine lv_aload_n hx hb dX12_init_131 rfl (lv_at hl 0 rfl) ?_
  refine lv_bipush (v := 7) hx hb dX12_init_132 (by decide) ?_
  refine zd_newarr (atype := .int) (c0 := 12) (i0 := 0) (k0 := 26) (N1 := 7) (n' := 13) (slots' := 2098) (made' := [(12, 0, 4), (12, 0, 5), (12, 0, 6), (12, 0, 7), (12, 0, 8), (12, 0, 9), (12, 0, 11), (12, 0, 12), (12, 0, 13), (12, 0, 14), (12, 0, 15), (12, 0, 26), (12, 0, 27)]) S hG hS hZ.1 hB zw_60 (Or.inl ⟨rfl, rfl⟩) (by decide) (by decide) hp12 (by decide) (by decide) (by decide) (Nat.le_of_ble_eq_true rfl) rfl rfl rfl (Nat.le_of_ble_eq_true rfl) (Nat.le_of_ble_eq_true rfl) dX12_init_134 ?_
  clear hG hS hB
  intro H N hG hS hB hlast
  obtain ⟨σ19, eσ19, hf⟩ := zlt_s hf
  rw [← eσ19] at hG
  refine zc_putref (N := N) (nu := (zks 12 0 [27, 28, 29, 30, 31, 32, 33, 34, 35, 36, 37, 38, 39, 42, 45, 46, 47, 55, 56, 57, 58, 59, 60, 61, 62, 63] nu)) (ty := .array .int) (c0 := 12) (i0 := 0) (k0 := 26) (T := TX12) S hG hS tyX12 tyX12_ok nmX12 hB.2.1 (zks_n hnu (by decide)) rfl inlX12 (by decide) rfl rfl hin2 rfl zw_238 (by decide +kernel) rfl rfl rfl dX12_init_136 ?_
  clear hG hS
  intro H locs hG hS
  refine lv_aload_n hx hb dX12_init_139 rfl (lv_at hl 0 rfl) ?_
  refine lv_sipush (v := 280) hx hb dX12_init_140 (by decide) ?_
  refine zd_newarr (atype := .int) (c0 := 12) (i0 := 0) (k0 := 27) (N1 := 280) (n' := 14) (slots' := 2378) (made' := [(12, 0, 4), (12, 0, 5), (12, 0, 6), (12, 0, 7), (12, 0, 8), (12, 0, 9), (12, 0, 11), (12, 0, 12), (12, 0, 13), (12, 0, 14), (12, 0, 15), (12, 0, 26), (12, 0, 27), (12, 0, 28)]) S hG hS hZ.1 hB zw_60 (Or.inl ⟨rfl, rfl⟩) (by decide) (by decide) hp13 (by decide) (by decide) (by decide) (Nat.le_of_ble_eq_true rfl) rfl rfl rfl (Nat.le_of_ble_eq_true rfl) (Nat.le_of_ble_eq_true rfl) dX12_init_143 ?_
  clear hG hS hB
  intro H N hG hS hB hlast
  obtain ⟨σ20, eσ20, hf⟩ := zlt_s hf
  rw [← eσ20] at hG
  refine zc_putref (N := N) (nu := (zks 12 0 [28, 29, 30, 31, 32, 33, 34, 35, 36, 37, 38, 39, 42, 45, 46, 47, 55, 56, 57, 58, 59, 60, 61, 62, 63] nu)) (ty := .array .int) (c0 := 12) (i0 := 0) (k0 := 27) (T := TX12) S hG hS tyX12 tyX12_ok nmX12 hB.2.1 (zks_n hnu (by decide)) rfl inlX12 (by decide) rfl rfl hin2 rfl zw_239 (by decide +kernel) rfl rfl rfl dX12_init_145 ?_
  clear hG hS
  intro H locs hG hS
  refine lv_aload_n hx hb dX12_init_148 rfl (lv_at hl 0 rfl) ?_
  refine lv_sipush (v := 280) hx hb dX12_init_149 (by decide) ?_
  refine zd_newarr (atype := .int) (c0 := 12) (i0 := 0) (k0 := 28) (N1 := 280) (n' := 15) (slots' := 2658) (made' := [(12, 0, 4), (12, 0, 5), (12, 0, 6), (12, 0, 7), (12, 0, 8), (12, 0, 9), (12, 0, 11), (12, 0, 12), (12, 0, 13), (12, 0, 14), (12, 0, 15), (12, 0, 26), (12, 0, 27), (12, 0, 28), (12, 0, 29)]) S hG hS hZ.1 hB zw_60 (Or.inl ⟨rfl, rfl⟩) (by decide) (by decide) hp14 (by decide) (by decide) (by decide) (Nat.le_of_ble_eq_true rfl) rfl rfl rfl (Nat.le_of_ble_eq_true rfl) (Nat.le_of_ble_eq_true rfl) dX12_init_152 ?_
  clear hG hS hB
  intro H N hG hS hB hlast
  obtain ⟨σ21, eσ21, hf⟩ := zlt_s hf
  rw [← eσ21] at hG
  refine zc_putref (N := N) (nu := (zks 12 0 [29, 30, 31, 32, 33, 34, 35, 36, 37, 38, 39, 42, 45, 46, 47, 55, 56, 57, 58, 59, 60, 61, 62, 63] nu)) (ty := .array .int) (c0 := 12) (i0 := 0) (k0 := 28) (T := TX12) S hG hS tyX12 tyX12_ok nmX12 hB.2.1 (zks_n hnu (by decide)) rfl inlX12 (by decide) rfl rfl hin2 rfl zw_240 (by decide +kernel) rfl rfl rfl dX12_init_154 ?_
  clear hG hS
  intro H locs hG hS
  refine lv_aload_n hx hb dX12_init_157 rfl (lv_at hl 0 rfl) ?_
  refine lv_sipush (v := 280) hx hb dX12_init_158 (by decide) ?_
  refine zd_newarr (atype := .int) (c0 := 12) (i0 := 0) (k0 := 29) (N1 := 280) (n' := 16) (slots' := 2938) (made' := [(12, 0, 4), (12, 0, 5), (12, 0, 6), (12, 0, 7), (12, 0, 8), (12, 0, 9), (12, 0, 11), (12, 0, 12), (12, 0, 13), (12, 0, 14), (12, 0, 15), (12, 0, 26), (12, 0, 27), (12, 0, 28), (12, 0, 29), (12, 0, 30)]) S hG hS hZ.1 hB zw_60 (Or.inl ⟨rfl, rfl⟩) (by decide) (by decide) hp15 (by decide) (by decide) (by decide) (Nat.le_of_ble_eq_true rfl) rfl rfl rfl (Nat.le_of_ble_eq_true rfl) (Nat.le_of_ble_eq_true rfl) dX12_init_161 ?_
  clear hG hS hB
  intro H N hG hS hB hlast
  obtain ⟨σ22, eσ22, hf⟩ := zlt_s hf
  rw [← eσ22] at hG
  refine zc_putref (N := N) (nu := (zks 12 0 [30, 31, 32, 33, 34, 35, 36, 37, 38, 39, 42, 45, 46, 47, 55, 56, 57, 58, 59, 60, 61, 62, 63] nu)) (ty := .array .int) (c0 := 12) (i0 := 0) (k0 := 29) (T := TX12) S hG hS tyX12 tyX12_ok nmX12 hB.2.1 (zks_n hnu (by decide)) rfl inlX12 (by decide) rfl rfl hin2 rfl zw_241 (by decide +kernel) rfl rfl rfl dX12_init_163 ?_
  clear hG hS
  intro H locs hG hS
  refine lv_aload_n hx hb dX12_init_166 rfl (lv_at hl 0 rfl) ?_
  refine lv_sipush (v := 280) hx hb dX12_init_167 (by decide) ?_
  refine zd_newarr (atype := .int) (c0 := 12) (i0 := 0) (k0 := 30) (N1 := 280) (n' := 17) (slots' := 3218) (made' := [(12, 0, 4), (12, 0, 5), (12, 0, 6), (12, 0, 7), (12, 0, 8), (12, 0, 9), (12, 0, 11), (12, 0, 12), (12, 0, 13), (12, 0, 14), (12, 0, 15), (12, 0, 26), (12, 0, 27), (12, 0, 28), (12, 0, 29), (12, 0, 30), (12, 0, 31)]) S hG hS hZ.1 hB zw_60 (Or.inl ⟨rfl, rfl⟩) (by decide) (by decide) hp16 (by decide) (by decide) (by decide) (Nat.le_of_ble_eq_true rfl) rfl rfl rfl (Nat.le_of_ble_eq_true rfl) (Nat.le_of_ble_eq_true rfl) dX12_init_170 ?_
  clear hG hS hB
  intro H N hG hS hB hlast
  obtain ⟨σ23, eσ23, hf⟩ := zlt_s hf
  rw [← eσ23] at hG
  refine zc_putref (N := N) (nu := (zks 12 0 [31, 32, 33, 34, 35, 36, 37, 38, 39, 42, 45, 46, 47, 55, 56, 57, 58, 59, 60, 61, 62, 63] nu)) (ty := .array .int) (c0 := 12) (i0 := 0) (k0 := 30) (T := TX12) S hG hS tyX12 tyX12_ok nmX12 hB.2.1 (zks_n hnu (by decide)) rfl inlX12 (by decide) rfl rfl hin2 rfl zw_242 (by decide +kernel) rfl rfl rfl dX12_init_172 ?_
  clear hG hS
  intro H locs hG hS
  refine lv_aload_n hx hb dX12_init_175 rfl (lv_at hl 0 rfl) ?_
  refine lv_sipush (v := 5400) hx hb dX12_init_176 (by decide) ?_
  refine zd_newarr (atype := .int) (c0 := 12) (i0 := 0) (k0 := 31) (N1 := 5400) (n' := 18) (slots' := 8618) (made' := [(12, 0, 4), (12, 0, 5), (12, 0, 6), (12, 0, 7), (12, 0, 8), (12, 0, 9), (12, 0, 11), (12, 0, 12), (12, 0, 13), (12, 0, 14), (12, 0, 15), (12, 0, 26), (12, 0, 27), (12, 0, 28), (12, 0, 29), (12, 0, 30), (12, 0, 31), (12, 0, 32)]) S hG hS hZ.1 hB zw_60 (Or.inl ⟨rfl, rfl⟩) (by decide) (by decide) hp17 (by decide) (by decide) (by decide) (Nat.le_of_ble_eq_true rfl) rfl rfl rfl (Nat.le_of_ble_eq_true rfl) (Nat.le_of_ble_eq_true rfl) dX12_init_179 ?_
  clear hG hS hB
  intro H N hG hS hB hlast
  obtain ⟨σ24, eσ24, hf⟩ := zlt_s hf
  rw [← eσ24] at hG
  refine zc_putref (N := N) (nu := (zks 12 0 [32, 33, 34, 35, 36, 37, 38, 39, 42, 45, 46, 47, 55, 56, 57, 58, 59, 60, 61, 62, 63] nu)) (ty := .array .int) (c0 := 12) (i0 := 0) (k0 := 31) (T := TX12) S hG hS tyX12 tyX12_ok nmX12 hB.2.1 (zks_n hnu (by decide)) rfl inlX12 (by decide) rfl rfl hin2 rfl zw_243 (by decide +kernel) rfl rfl rfl dX12_init_181 ?_
  clear hG hS
  intro H locs hG hS
  refine lv_aload_n hx hb dX12_init_184 rfl (lv_at hl 0 rfl) ?_
  refine lv_sipush (v := 5400) hx hb dX12_init_185 (by decide) ?_
  refine zd_newarr (atype := .int) (c0 := 12) (i0 := 0) (k0 := 32) (N1 := 5400) (n' := 19) (slots' := 14018) (made' := [(12, 0, 4), (12, 0, 5), (12, 0, 6), (12, 0, 7), (12, 0, 8), (12, 0, 9), (12, 0, 11), (12, 0, 12), (12, 0, 13), (12, 0, 14), (12, 0, 15), (12, 0, 26), (12, 0, 27), (12, 0, 28), (12, 0, 29), (12, 0, 30), (12, 0, 31), (12, 0, 32), (12, 0, 33)]) S hG hS hZ.1 hB zw_60 (Or.inl ⟨rfl, rfl⟩) (by decide) (by decide) hp18 (by decide) (by decide) (by decide) (Nat.le_of_ble_eq_true rfl) rfl rfl rfl (Nat.le_of_ble_eq_true rfl) (Nat.le_of_ble_eq_true rfl) dX12_init_188 ?_
  clear hG hS hB
  intro H N hG hS hB hlast
  obtain ⟨σ25, eσ25, hf⟩ := zlt_s hf
  rw [← eσ25] at hG
  refine zc_putref (N := N) (nu := (zks 12 0 [33, 34, 35, 36, 37, 38, 39, 42, 45, 46, 47, 55, 56, 57, 58, 59, 60, 61, 62, 63] nu)) (ty := .array .int) (c0 := 12) (i0 := 0) (k0 := 32) (T := TX12) S hG hS tyX12 tyX12_ok nmX12 hB.2.1 (zks_n hnu (by decide)) rfl inlX12 (by decide) rfl rfl hin2 rfl zw_244 (by decide +kernel) rfl rfl rfl dX12_init_190 ?_
  clear hG hS
  intro H locs hG hS
  refine lv_aload_n hx hb dX12_init_193 rfl (lv_at hl 0 rfl) ?_
  refine lv_sipush (v := 5400) hx hb dX12_init_194 (by decide) ?_
  refine zd_newarr (atype := .int) (c0 := 12) (i0 := 0) (k0 := 33) (N1 := 5400) (n' := 20) (slots' := 19418) (made' := [(12, 0, 4), (12, 0, 5), (12, 0, 6), (12, 0, 7), (12, 0, 8), (12, 0, 9), (12, 0, 11), (12, 0, 12), (12, 0, 13), (12, 0, 14), (12, 0, 15), (12, 0, 26), (12, 0, 27), (12, 0, 28), (12, 0, 29), (12, 0, 30), (12, 0, 31), (12, 0, 32), (12, 0, 33), (12, 0, 34)]) S hG hS hZ.1 hB zw_60 (Or.inl ⟨rfl, rfl⟩) (by decide) (by decide) hp19 (by decide) (by decide) (by decide) (Nat.le_of_ble_eq_true rfl) rfl rfl rfl (Nat.le_of_ble_eq_true rfl) (Nat.le_of_ble_eq_true rfl) dX12_init_197 ?_
  clear hG hS hB
  intro H N hG hS hB hlast
  obtain ⟨σ26, eσ26, hf⟩ := zlt_s hf
  rw [← eσ26] at hG
  refine zc_putref (N := N) (nu := (zks 12 0 [34, 35, 36, 37, 38, 39, 42, 45, 46, 47, 55, 56, 57, 58, 59, 60, 61, 62, 63] nu)) (ty := .array .int) (c0 := 12) (i0 := 0) (k0 := 33) (T := TX12) S hG hS tyX12 tyX12_ok nmX12 hB.2.1 (zks_n hnu (by decide)) rfl inlX12 (by decide) rfl rfl hin2 rfl zw_245 (by decide +kernel) rfl rfl rfl dX12_init_199 ?_
  clear hG hS
  intro H locs hG hS
  refine lv_aload_n hx hb dX12_init_202 rfl (lv_at hl 0 rfl) ?_
  refine lv_sipush (v := 5400) hx hb dX12_init_203 (by decide) ?_
  refine zd_newarr (atype := .int) (c0 := 12) (i0 := 0) (k0 := 34) (N1 := 5400) (n' := 21) (slots' := 24818) (made' := [(12, 0, 4), (12, 0, 5), (12, 0, 6), (12, 0, 7), (12, 0, 8), (12, 0, 9), (12, 0, 11), (12, 0, 12), (12, 0, 13), (12, 0, 14), (12, 0, 15), (12, 0, 26), (12, 0, 27), (12, 0, 28), (12, 0, 29), (12, 0, 30), (12, 0, 31), (12, 0, 32), (12, 0, 33), (12, 0, 34), (12, 0, 35)]) S hG hS hZ.1 hB zw_60 (Or.inl ⟨rfl, rfl⟩) (by decide) (by decide) hp20 (by decide) (by decide) (by decide) (Nat.le_of_ble_eq_true rfl) rfl rfl rfl (Nat.le_of_ble_eq_true rfl) (Nat.le_of_ble_eq_true rfl) dX12_init_206 ?_
  clear hG hS hB
  intro H N hG hS hB hlast
  obtain ⟨σ27, eσ27, hf⟩ := zlt_s hf
  rw [← eσ27] at hG
  refine zc_putref (N := N) (nu := (zks 12 0 [35, 36, 37, 38, 39, 42, 45, 46, 47, 55, 56, 57, 58, 59, 60, 61, 62, 63] nu)) (ty := .array .int) (c0 := 12) (i0 := 0) (k0 := 34) (T := TX12) S hG hS tyX12 tyX12_ok nmX12 hB.2.1 (zks_n hnu (by decide)) rfl inlX12 (by decide) rfl rfl hin2 rfl zw_246 (by decide +kernel) rfl rfl rfl dX12_init_208 ?_
  clear hG hS
  intro H locs hG hS
  refine lv_aload_n hx hb dX12_init_211 rfl (lv_at hl 0 rfl) ?_
  refine lv_sipush (v := 5400) hx hb dX12_init_212 (by decide) ?_
  refine zd_newarr (atype := .int) (c0 := 12) (i0 := 0) (k0 := 35) (N1 := 5400) (n' := 22) (slots' := 30218) (made' := [(12, 0, 4), (12, 0, 5), (12, 0, 6), (12, 0, 7), (12, 0, 8), (12, 0, 9), (12, 0, 11), (12, 0, 12), (12, 0, 13), (12, 0, 14), (12, 0, 15), (12, 0, 26), (12, 0, 27), (12, 0, 28), (12, 0, 29), (12, 0, 30), (12, 0, 31), (12, 0, 32), (12, 0, 33), (12, 0, 34), (12, 0, 35), (12, 0, 36)]) S hG hS hZ.1 hB zw_60 (Or.inl ⟨rfl, rfl⟩) (by decide) (by decide) hp21 (by decide) (by decide) (by decide) (Nat.le_of_ble_eq_true rfl) rfl rfl rfl (Nat.le_of_ble_eq_true rfl) (Nat.le_of_ble_eq_true rfl) dX12_init_215 ?_
  clear hG hS hB
  intro H N hG hS hB hlast
  obtain ⟨σ28, eσ28, hf⟩ := zlt_s hf
  rw [← eσ28] at hG
  refine zc_putref (N := N) (nu := (zks 12 0 [36, 37, 38, 39, 42, 45, 46, 47, 55, 56, 57, 58, 59, 60, 61, 62, 63] nu)) (ty := .array .int) (c0 := 12) (i0 := 0) (k0 := 35) (T := TX12) S hG hS tyX12 tyX12_ok nmX12 hB.2.1 (zks_n hnu (by decide)) rfl inlX12 (by decide) rfl rfl hin2 rfl zw_247 (by decide +kernel) rfl rfl rfl dX12_init_217 ?_
  clear hG hS
  intro H locs hG hS
  refine lv_aload_n hx hb dX12_init_220 rfl (lv_at hl 0 rfl) ?_
  refine lv_sipush (v := 5400) hx hb dX12_init_221 (by decide) ?_
  refine zd_newarr (atype := .int) (c0 := 12) (i0 := 0) (k0 := 36) (N1 := 5400) (n' := 23) (slots' := 35618) (made' := [(12, 0, 4), (12, 0, 5), (12, 0, 6), (12, 0, 7), (12, 0, 8), (12, 0, 9), (12, 0, 11), (12, 0, 12), (12, 0, 13), (12, 0, 14), (12, 0, 15), (12, 0, 26), (12, 0, 27), (12, 0, 28), (12, 0, 29), (12, 0, 30), (12, 0, 31), (12, 0, 32), (12, 0, 33), (12, 0, 34), (12, 0, 35), (12, 0, 36), (12, 0, 37)]) S hG hS hZ.1 hB zw_60 (Or.inl ⟨rfl, rfl⟩) (by decide) (by decide) hp22 (by decide) (by decide) (by decide) (Nat.le_of_ble_eq_true rfl) rfl rfl rfl (Nat.le_of_ble_eq_true rfl) (Nat.le_of_ble_eq_true rfl) dX12_init_224 ?_
  clear hG hS hB
  intro H N hG hS hB hlast
  obtain ⟨σ29, eσ29, hf⟩ := zlt_s hf
  rw [← eσ29] at hG
  refine zc_putref (N := N) (nu := (zks 12 0 [37, 38, 39, 42, 45, 46, 47, 55, 56, 57, 58, 59, 60, 61, 62, 63] nu)) (ty := .array .int) (c0 := 12) (i0 := 0) (k0 := 36) (T := TX12) S hG hS tyX12 tyX12_ok nmX12 hB.2.1 (zks_n hnu (by decide)) rfl inlX12 (by decide) rfl rfl hin2 rfl zw_248 (by decide +kernel) rfl rfl rfl dX12_init_226 ?_
  clear hG hS
  intro H locs hG hS
  refine lv_aload_n hx hb dX12_init_229 rfl (lv_at hl 0 rfl) ?_
  refine lv_bipush (v := 13) hx hb dX12_init_230 (by decide) ?_
  refine zd_newarr (atype := .long) (c0 := 12) (i0 := 0) (k0 := 37) (N1 := 13) (n' := 24) (slots' := 35631) (made' := [(12, 0, 4), (12, 0, 5), (12, 0, 6), (12, 0, 7), (12, 0, 8), (12, 0, 9), (12, 0, 11), (12, 0, 12), (12, 0, 13), (12, 0, 14), (12, 0, 15), (12, 0, 26), (12, 0, 27), (12, 0, 28), (12, 0, 29), (12, 0, 30), (12, 0, 31), (12, 0, 32), (12, 0, 33), (12, 0, 34), (12, 0, 35), (12, 0, 36), (12, 0, 37), (12, 0, 38)]) S hG hS hZ.1 hB zw_66 (Or.inr (Or.inr (Or.inr ⟨rfl, rfl⟩))) (by decide) (by decide) hp23 (by decide) (by decide) (by decide) (Nat.le_of_ble_eq_true rfl) rfl rfl rfl (Nat.le_of_ble_eq_true rfl) (Nat.le_of_ble_eq_true rfl) dX12_init_232 ?_
  clear hG hS hB
  intro H N hG hS hB hlast
  obtain ⟨σ30, eσ30, hf⟩ := zlt_s hf
  rw [← eσ30] at hG
  refine zc_putref (N := N) (nu := (zks 12 0 [38, 39, 42, 45, 46, 47, 55, 56, 57, 58, 59, 60, 61, 62, 63] nu)) (ty := .array .long) (c0 := 12) (i0 := 0) (k0 := 37) (T := TX12) S hG hS tyX12 tyX12_ok nmX12 hB.2.1 (zks_n hnu (by decide)) rfl inlX12 (by decide) rfl rfl hin2 rfl zw_249 (by decide +kernel) rfl rfl rfl dX12_init_234 ?_
  clear hG hS
  intro H locs hG hS
  refine lv_aload_n hx hb dX12_init_237 rfl (lv_at hl 0 rfl) ?_
  refine lv_sipush (v := 900) hx hb dX12_init_238 (by decide) ?_
  refine zd_newarr (atype := .byte) (c0 := 12) (i0 := 0) (k0 := 38) (N1 := 900) (n' := 25) (slots' := 36531) (made' := [(12, 0, 4), (12, 0, 5), (12, 0, 6), (12, 0, 7), (12, 0, 8), (12, 0, 9), (12, 0, 11), (12, 0, 12), (12, 0, 13), (12, 0, 14), (12, 0, 15), (12, 0, 26), (12, 0, 27), (12, 0, 28), (12, 0, 29), (12, 0, 30), (12, 0, 31), (12, 0, 32), (12, 0, 33), (12, 0, 34), (12, 0, 35), (12, 0, 36), (12, 0, 37), (12, 0, 38), (12, 0, 39)]) S hG hS hZ.1 hB zw_250 (Or.inr (Or.inl ⟨rfl, rfl⟩)) (by decide) (by decide) hp24 (by decide) (by decide) (by decide) (Nat.le_of_ble_eq_true rfl) rfl rfl rfl (Nat.le_of_ble_eq_true rfl) (Nat.le_of_ble_eq_true rfl) dX12_init_241 ?_
  clear hG hS hB
  intro H N hG hS hB hlast
  obtain ⟨σ31, eσ31, hf⟩ := zlt_s hf
  rw [← eσ31] at hG
  refine zc_putref (N := N) (nu := (zks 12 0 [39, 42, 45, 46, 47, 55, 56, 57, 58, 59, 60, 61, 62, 63] nu)) (ty := .array .byte) (c0 := 12) (i0 := 0) (k0 := 38) (T := TX12) S hG hS tyX12 tyX12_ok nmX12 hB.2.1 (zks_n hnu (by decide)) rfl inlX12 (by decide) rfl rfl hin2 rfl zw_251 (by decide +kernel) rfl rfl rfl dX12_init_243 ?_
  clear hG hS
  intro H locs hG hS
  refine lv_aload_n hx hb dX12_init_246 rfl (lv_at hl 0 rfl) ?_
  refine lv_sipush (v := 900) hx hb dX12_init_247 (by decide) ?_
  refine zd_newarr (atype := .byte) (c0 := 12) (i0 := 0) (k0 := 39) (N1 := 900) (n' := 26) (slots' := 37431) (made' := [(12, 0, 4), (12, 0, 5), (12, 0, 6), (12, 0, 7), (12, 0, 8), (12, 0, 9), (12, 0, 11), (12, 0, 12), (12, 0, 13), (12, 0, 14), (12, 0, 15), (12, 0, 26), (12, 0, 27), (12, 0, 28), (12, 0, 29), (12, 0, 30), (12, 0, 31), (12, 0, 32), (12, 0, 33), (12, 0, 34), (12, 0, 35), (12, 0, 36), (12, 0, 37), (12, 0, 38), (12, 0, 39), (12, 0, 40)]) S hG hS hZ.1 hB zw_250 (Or.inr (Or.inl ⟨rfl, rfl⟩)) (by decide) (by decide) hp25 (by decide) (by decide) (by decide) (Nat.le_of_ble_eq_true rfl) rfl rfl rfl (Nat.le_of_ble_eq_true rfl) (Nat.le_of_ble_eq_true rfl) dX12_init_250 ?_
  clear hG hS hB
  intro H N hG hS hB hlast
  obtain ⟨σ32, eσ32, hf⟩ := zlt_s hf
  rw [← eσ32] at hG
  refine zc_putref (N := N) (nu := (zks 12 0 [42, 45, 46, 47, 55, 56, 57, 58, 59, 60, 61, 62, 63] nu)) (ty := .array .byte) (c0 := 12) (i0 := 0) (k0 := 39) (T := TX12) S hG hS tyX12 tyX12_ok nmX12 hB.2.1 (zks_n hnu (by decide)) rfl inlX12 (by decide) rfl rfl hin2 rfl zw_252 (by decide +kernel) rfl rfl rfl dX12_init_252 ?_
  clear hG hS
  intro H locs hG hS
  refine lv_aload_n hx hb dX12_init_255 rfl (lv_at hl 0 rfl) ?_
  refine lv_bipush (v := 40) hx hb dX12_init_256 (by decide) ?_
  refine zd_newarr (atype := .long) (c0 := 12) (i0 := 0) (k0 := 42) (N1 := 40) (n' := 27) (slots' := 37471) (made' := [(12, 0, 4), (12, 0, 5), (12, 0, 6), (12, 0, 7), (12, 0, 8), (12, 0, 9), (12, 0, 11), (12, 0, 12), (12, 0, 13), (12, 0, 14), (12, 0, 15), (12, 0, 26), (12, 0, 27), (12, 0, 28), (12, 0, 29), (12, 0, 30), (12, 0, 31), (12, 0, 32), (12, 0, 33), (12, 0, 34), (12, 0, 35), (12, 0, 36), (12, 0, 37), (12, 0, 38), (12, 0, 39), (12, 0, 40), (12, 0, 43)]) S hG hS hZ.1 hB zw_66 (Or.inr (Or.inr (Or.inr ⟨rfl, rfl⟩))) (by decide) (by decide) hp26 (by decide) (by decide) (by decide) (Nat.le_of_ble_eq_true rfl) rfl rfl rfl (Nat.le_of_ble_eq_true rfl) (Nat.le_of_ble_eq_true rfl) dX12_init_258 ?_
  clear hG hS hB
  intro H N hG hS hB hlast
  obtain ⟨σ33, eσ33, hf⟩ := zlt_s hf
  rw [← eσ33] at hG
  refine zc_putref (N := N) (nu := (zks 12 0 [45, 46, 47, 55, 56, 57, 58, 59, 60, 61, 62, 63] nu)) (ty := .array .long) (c0 := 12) (i0 := 0) (k0 := 42) (T := TX12) S hG hS tyX12 tyX12_ok nmX12 hB.2.1 (zks_n hnu (by decide)) rfl inlX12 (by decide) rfl rfl hin2 rfl zw_253 (by decide +kernel) rfl rfl rfl dX12_init_260 ?_
  clear hG hS
  intro H locs hG hS
  refine lv_aload_n hx hb dX12_init_263 rfl (lv_at hl 0 rfl) ?_
  refine lv_bipush (v := 50) hx hb dX12_init_264 (by decide) ?_
  refine zd_newarr (atype := .int) (c0 := 12) (i0 := 0) (k0 := 45) (N1 := 50) (n' := 28) (slots' := 37521) (made' := [(12, 0, 4), (12, 0, 5), (12, 0, 6), (12, 0, 7), (12, 0, 8), (12, 0, 9), (12, 0, 11), (12, 0, 12), (12, 0, 13), (12, 0, 14), (12, 0, 15), (12, 0, 26), (12, 0, 27), (12, 0, 28), (12, 0, 29), (12, 0, 30), (12, 0, 31), (12, 0, 32), (12, 0, 33), (12, 0, 34), (12, 0, 35), (12, 0, 36), (12, 0, 37), (12, 0, 38), (12, 0, 39), (12, 0, 40), (12, 0, 43), (12, 0, 46)]) S hG hS hZ.1 hB zw_60 (Or.inl ⟨rfl, rfl⟩) (by decide) (by decide) hp27 (by decide) (by decide) (by decide) (Nat.le_of_ble_eq_true rfl) rfl rfl rfl (Nat.le_of_ble_eq_true rfl) (Nat.le_of_ble_eq_true rfl) dX12_init_266 ?_
  clear hG hS hB
  intro H N hG hS hB hlast
  obtain ⟨σ34, eσ34, hf⟩ := zlt_s hf
  rw [← eσ34] at hG
  refine zc_putref (N := N) (nu := (zks 12 0 [46, 47, 55, 56, 57, 58, 59, 60, 61, 62, 63] nu)) (ty := .array .int) (c0 := 12) (i0 := 0) (k0 := 45) (T := TX12) S hG hS tyX12 tyX12_ok nmX12 hB.2.1 (zks_n hnu (by decide)) rfl inlX12 (by decide) rfl rfl hin2 rfl zw_254 (by decide +kernel) rfl rfl rfl dX12_init_268 ?_
  clear hG hS
  intro H locs hG hS
  refine lv_aload_n hx hb dX12_init_271 rfl (lv_at hl 0 rfl) ?_
  refine lv_bipush (v := 50) hx hb dX12_init_272 (by decide) ?_
  refine zd_newarr (atype := .int) (c0 := 12) (i0 := 0) (k0 := 46) (N1 := 50) (n' := 29) (slots' := 37571) (made' := [(12, 0, 4), (12, 0, 5), (12, 0, 6), (12, 0, 7), (12, 0, 8), (12, 0, 9), (12, 0, 11), (12, 0, 12), (12, 0, 13), (12, 0, 14), (12, 0, 15), (12, 0, 26), (12, 0, 27), (12, 0, 28), (12, 0, 29), (12, 0, 30), (12, 0, 31), (12, 0, 32), (12, 0, 33), (12, 0, 34), (12, 0, 35), (12, 0, 36), (12, 0, 37), (12, 0, 38), (12, 0, 39), (12, 0, 40), (12, 0, 43), (12, 0, 46), (12, 0, 47)]) S hG hS hZ.1 hB zw_60 (Or.inl ⟨rfl, rfl⟩) (by decide) (by decide) hp28 (by decide) (by decide) (by decide) (Nat.le_of_ble_eq_true rfl) rfl rfl rfl (Nat.le_of_ble_eq_true rfl) (Nat.le_of_ble_eq_true rfl) dX12_init_274 ?_
  clear hG hS hB
  intro H N hG hS hB hlast
  obtain ⟨σ35, eσ35, hf⟩ := zlt_s hf
  rw [← eσ35] at hG
  refine zc_putref (N := N) (nu := (zks 12 0 [47, 55, 56, 57, 58, 59, 60, 61, 62, 63] nu)) (ty := .array .int) (c0 := 12) (i0 := 0) (k0 := 46) (T := TX12) S hG hS tyX12 tyX12_ok nmX12 hB.2.1 (zks_n hnu (by decide)) rfl inlX12 (by decide) rfl rfl hin2 rfl zw_255 (by decide +kernel) rfl rfl rfl dX12_init_276 ?_
  clear hG hS
  intro H locs hG hS
  refine lv_aload_n hx hb dX12_init_279 rfl (lv_at hl 0 rfl) ?_
  refine lv_bipush (v := 50) hx hb dX12_init_280 (by decide) ?_
  refine zd_newarr (atype := .int) (c0 := 12) (i0 := 0) (k0 := 47) (N1 := 50) (n' := 30) (slots' := 37621) (made' := [(12, 0, 4), (12, 0, 5), (12, 0, 6), (12, 0, 7), (12, 0, 8), (12, 0, 9), (12, 0, 11), (12, 0, 12), (12, 0, 13), (12, 0, 14), (12, 0, 15), (12, 0, 26), (12, 0, 27), (12, 0, 28), (12, 0, 29), (12, 0, 30), (12, 0, 31), (12, 0, 32), (12, 0, 33), (12, 0, 34), (12, 0, 35), (12, 0, 36), (12, 0, 37), (12, 0, 38), (12, 0, 39), (12, 0, 40), (12, 0, 43), (12, 0, 46), (12, 0, 47), (12, 0, 48)]) S hG hS hZ.1 hB zw_60 (Or.inl ⟨rfl, rfl⟩) (by decide) (by decide) hp29 (by decide) (by decide) (by decide) (Nat.le_of_ble_eq_true rfl) rfl rfl rfl (Nat.le_of_ble_eq_true rfl) (Nat.le_of_ble_eq_true rfl) dX12_init_282 ?_
  clear hG hS hB
  intro H N hG hS hB hlast
  obtain ⟨σ36, eσ36, hf⟩ := zlt_s hf
  rw [← eσ36] at hG
  refine zc_putref (N := N) (nu := (zks 12 0 [55, 56, 57, 58, 59, 60, 61, 62, 63] nu)) (ty := .array .int) (c0 := 12) (i0 := 0) (k0 := 47) (T := TX12) S hG hS tyX12 tyX12_ok nmX12 hB.2.1 (zks_n hnu (by decide)) rfl inlX12 (by decide) rfl rfl hin2 rfl zw_256 (by decide +kernel) rfl rfl rfl dX12_init_284 ?_
  clear hG hS
  intro H locs hG hS
  refine lv_aload_n hx hb dX12_init_287 rfl (lv_at hl 0 rfl) ?_
  refine lv_sipush (v := 320) hx hb dX12_init_288 (by decide) ?_
  refine zd_newarr (atype := .int) (c0 := 12) (i0 := 0) (k0 := 55) (N1 := 320) (n' := 31) (slots' := 37941) (made' := [(12, 0, 4), (12, 0, 5), (12, 0, 6), (12, 0, 7), (12, 0, 8), (12, 0, 9), (12, 0, 11), (12, 0, 12), (12, 0, 13), (12, 0, 14), (12, 0, 15), (12, 0, 26), (12, 0, 27), (12, 0, 28), (12, 0, 29), (12, 0, 30), (12, 0, 31), (12, 0, 32), (12, 0, 33), (12, 0, 34), (12, 0, 35), (12, 0, 36), (12, 0, 37), (12, 0, 38), (12, 0, 39), (12, 0, 40), (12, 0, 43), (12, 0, 46), (12, 0, 47), (12, 0, 48), (12, 0, 56)]) S hG hS hZ.1 hB zw_60 (Or.inl ⟨rfl, rfl⟩) (by decide) (by decide) hp30 (by decide) (by decide) (by decide) (Nat.le_of_ble_eq_true rfl) rfl rfl rfl (Nat.le_of_ble_eq_true rfl) (Nat.le_of_ble_eq_true rfl) dX12_init_291 ?_
  clear hG hS hB
  intro H N hG hS hB hlast
  obtain ⟨σ37, eσ37, hf⟩ := zlt_s hf
  rw [← eσ37] at hG
  refine zc_putref (N := N) (nu := (zks 12 0 [56, 57, 58, 59, 60, 61, 62, 63] nu)) (ty := .array .int) (c0 := 12) (i0 := 0) (k0 := 55) (T := TX12) S hG hS tyX12 tyX12_ok nmX12 hB.2.1 (zks_n hnu (by decide)) rfl inlX12 (by decide) rfl rfl hin2 rfl zw_257 (by decide +kernel) rfl rfl rfl dX12_init_293 ?_
  clear hG hS
  intro H locs hG hS
  refine lv_aload_n hx hb dX12_init_296 rfl (lv_at hl 0 rfl) ?_
  refine lv_sipush (v := 140) hx hb dX12_init_297 (by decide) ?_
  refine zd_newarr (atype := .int) (c0 := 12) (i0 := 0) (k0 := 56) (N1 := 140) (n' := 32) (slots' := 38081) (made' := [(12, 0, 4), (12, 0, 5), (12, 0, 6), (12, 0, 7), (12, 0, 8), (12, 0, 9), (12, 0, 11), (12, 0, 12), (12, 0, 13), (12, 0, 14), (12, 0, 15), (12, 0, 26), (12, 0, 27), (12, 0, 28), (12, 0, 29), (12, 0, 30), (12, 0, 31), (12, 0, 32), (12, 0, 33), (12, 0, 34), (12, 0, 35), (12, 0, 36), (12, 0, 37), (12, 0, 38), (12, 0, 39), (12, 0, 40), (12, 0, 43), (12, 0, 46), (12, 0, 47), (12, 0, 48), (12, 0, 56), (12, 0, 57)]) S hG hS hZ.1 hB zw_60 (Or.inl ⟨rfl, rfl⟩) (by decide) (by decide) hp31 (by decide) (by decide) (by decide) (Nat.le_of_ble_eq_true rfl) rfl rfl rfl (Nat.le_of_ble_eq_true rfl) (Nat.le_of_ble_eq_true rfl) dX12_init_300 ?_
  clear hG hS hB
  intro H N hG hS hB hlast
  obtain ⟨σ38, eσ38, hf⟩ := zlt_s hf
  rw [← eσ38] at hG
  refine zc_putref (N := N) (nu := (zks 12 0 [57, 58, 59, 60, 61, 62, 63] nu)) (ty := .array .int) (c0 := 12) (i0 := 0) (k0 := 56) (T := TX12) S hG hS tyX12 tyX12_ok nmX12 hB.2.1 (zks_n hnu (by decide)) rfl inlX12 (by decide) rfl rfl hin2 rfl zw_258 (by decide +kernel) rfl rfl rfl dX12_init_302 ?_
  clear hG hS
  intro H locs hG hS
  refine lv_aload_n hx hb dX12_init_305 rfl (lv_at hl 0 rfl) ?_
  refine lv_bipush (v := 14) hx hb dX12_init_306 (by decide) ?_
  refine zd_newarr (atype := .int) (c0 := 12) (i0 := 0) (k0 := 57) (N1 := 14) (n' := 33) (slots' := 38095) (made' := [(12, 0, 4), (12, 0, 5), (12, 0, 6), (12, 0, 7), (12, 0, 8), (12, 0, 9), (12, 0, 11), (12, 0, 12), (12, 0, 13), (12, 0, 14), (12, 0, 15), (12, 0, 26), (12, 0, 27), (12, 0, 28), (12, 0, 29), (12, 0, 30), (12, 0, 31), (12, 0, 32), (12, 0, 33), (12, 0, 34), (12, 0, 35), (12, 0, 36), (12, 0, 37), (12, 0, 38), (12, 0, 39), (12, 0, 40), (12, 0, 43), (12, 0, 46), (12, 0, 47), (12, 0, 48), (12, 0, 56), (12, 0, 57), (12, 0, 58)]) S hG hS hZ.1 hB zw_60 (Or.inl ⟨rfl, rfl⟩) (by decide) (by decide) hp32 (by decide) (by decide) (by decide) (Nat.le_of_ble_eq_true rfl) rfl rfl rfl (Nat.le_of_ble_eq_true rfl) (Nat.le_of_ble_eq_true rfl) dX12_init_308 ?_
  clear hG hS hB
  intro H N hG hS hB hlast
  obtain ⟨σ39, eσ39, hf⟩ := zlt_s hf
  rw [← eσ39] at hG
  refine zc_putref (N := N) (nu := (zks 12 0 [58, 59, 60, 61, 62, 63] nu)) (ty := .array .int) (c0 := 12) (i0 := 0) (k0 := 57) (T := TX12) S hG hS tyX12 tyX12_ok nmX12 hB.2.1 (zks_n hnu (by decide)) rfl inlX12 (by decide) rfl rfl hin2 rfl zw_259 (by decide +kernel) rfl rfl rfl dX12_init_310 ?_
  clear hG hS
  intro H locs hG hS
  refine lv_aload_n hx hb dX12_init_313 rfl (lv_at hl 0 rfl) ?_
  refine lv_iconst (v := 2) hx hb dX12_init_314 (by decide) ?_
  refine zd_newarr (atype := .int) (c0 := 12) (i0 := 0) (k0 := 58) (N1 := 2) (n' := 34) (slots' := 38097) (made' := [(12, 0, 4), (12, 0, 5), (12, 0, 6), (12, 0, 7), (12, 0, 8), (12, 0, 9), (12, 0, 11), (12, 0, 12), (12, 0, 13), (12, 0, 14), (12, 0, 15), (12, 0, 26), (12, 0, 27), (12, 0, 28), (12, 0, 29), (12, 0, 30), (12, 0, 31), (12, 0, 32), (12, 0, 33), (12, 0, 34), (12, 0, 35), (12, 0, 36), (12, 0, 37), (12, 0, 38), (12, 0, 39), (12, 0, 40), (12, 0, 43), (12, 0, 46), (12, 0, 47), (12, 0, 48), (12, 0, 56), (12, 0, 57), (12, 0, 58), (12, 0, 59)]) S hG hS hZ.1 hB zw_60 (Or.inl ⟨rfl, rfl⟩) (by decide) (by decide) hp33 (by decide) (by decide) (by decide) (Nat.le_of_ble_eq_true rfl) rfl rfl rfl (Nat.le_of_ble_eq_true rfl) (Nat.le_of_ble_eq_true rfl) dX12_init_315 ?_
  clear hG hS hB
  intro H N hG hS hB hlast
  obtain ⟨σ40, eσ40, hf⟩ := zlt_s hf
  rw [← eσ40] at hG
  refine zc_putref (N := N) (nu := (zks 12 0 [59, 60, 61, 62, 63] nu)) (ty := .array .int) (c0 := 12) (i0 := 0) (k0 := 58) (T := TX12) S hG hS tyX12 tyX12_ok nmX12 hB.2.1 (zks_n hnu (by decide)) rfl inlX12 (by decide) rfl rfl hin2 rfl zw_260 (by decide +kernel) rfl rfl rfl dX12_init_317 ?_
  clear hG hS
  intro H locs hG hS
  refine lv_aload_n hx hb dX12_init_320 rfl (lv_at hl 0 rfl) ?_
  refine lv_iconst (v := 2) hx hb dX12_init_321 (by decide) ?_
  refine zd_newarr (atype := .int) (c0 := 12) (i0 := 0) (k0 := 59) (N1 := 2) (n' := 35) (slots' := 38099) (made' := [(12, 0, 4), (12, 0, 5), (12, 0, 6), (12, 0, 7), (12, 0, 8), (12, 0, 9), (12, 0, 11), (12, 0, 12), (12, 0, 13), (12, 0, 14), (12, 0, 15), (12, 0, 26), (12, 0, 27), (12, 0, 28), (12, 0, 29), (12, 0, 30), (12, 0, 31), (12, 0, 32), (12, 0, 33), (12, 0, 34), (12, 0, 35), (12, 0, 36), (12, 0, 37), (12, 0, 38), (12, 0, 39), (12, 0, 40), (12, 0, 43), (12, 0, 46), (12, 0, 47), (12, 0, 48), (12, 0, 56), (12, 0, 57), (12, 0, 58), (12, 0, 59), (12, 0, 60)]) S hG hS hZ.1 hB zw_60 (Or.inl ⟨rfl, rfl⟩) (by decide) (by decide) hp34 (by decide) (by decide) (by decide) (Nat.le_of_ble_eq_true rfl) rfl rfl rfl (Nat.le_of_ble_eq_true rfl) (Nat.le_of_ble_eq_true rfl) dX12_init_322 ?_
  clear hG hS hB
  intro H N hG hS hB hlast
  obtain ⟨σ41, eσ41, hf⟩ := zlt_s hf
  rw [← eσ41] at hG
  refine zc_putref (N := N) (nu := (zks 12 0 [60, 61, 62, 63] nu)) (ty := .array .int) (c0 := 12) (i0 := 0) (k0 := 59) (T := TX12) S hG hS tyX12 tyX12_ok nmX12 hB.2.1 (zks_n hnu (by decide)) rfl inlX12 (by decide) rfl rfl hin2 rfl zw_261 (by decide +kernel) rfl rfl rfl dX12_init_324 ?_
  clear hG hS
  intro H locs hG hS
  refine lv_aload_n hx hb dX12_init_327 rfl (lv_at hl 0 rfl) ?_
  refine lv_iconst (v := 2) hx hb dX12_init_328 (by decide) ?_
  refine zd_newarr (atype := .int) (c0 := 12) (i0 := 0) (k0 := 60) (N1 := 2) (n' := 36) (slots' := 38101) (made' := [(12, 0, 4), (12, 0, 5), (12, 0, 6), (12, 0, 7), (12, 0, 8), (12, 0, 9), (12, 0, 11), (12, 0, 12), (12, 0, 13), (12, 0, 14), (12, 0, 15), (12, 0, 26), (12, 0, 27), (12, 0, 28), (12, 0, 29), (12, 0, 30), (12, 0, 31), (12, 0, 32), (12, 0, 33), (12, 0, 34), (12, 0, 35), (12, 0, 36), (12, 0, 37), (12, 0, 38), (12, 0, 39), (12, 0, 40), (12, 0, 43), (12, 0, 46), (12, 0, 47), (12, 0, 48), (12, 0, 56), (12, 0, 57), (12, 0, 58), (12, 0, 59), (12, 0, 60), (12, 0, 61)]) S hG hS hZ.1 hB zw_60 (Or.inl ⟨rfl, rfl⟩) (by decide) (by decide) hp35 (by decide) (by decide) (by decide) (Nat.le_of_ble_eq_true rfl) rfl rfl rfl (Nat.le_of_ble_eq_true rfl) (Nat.le_of_ble_eq_true rfl) dX12_init_329 ?_
  clear hG hS hB
  intro H N hG hS hB hlast
  obtain ⟨σ42, eσ42, hf⟩ := zlt_s hf
  rw [← eσ42] at hG
  refine zc_putref (N := N) (nu := (zks 12 0 [61, 62, 63] nu)) (ty := .array .int) (c0 := 12) (i0 := 0) (k0 := 60) (T := TX12) S hG hS tyX12 tyX12_ok nmX12 hB.2.1 (zks_n hnu (by decide)) rfl inlX12 (by decide) rfl rfl hin2 rfl zw_262 (by decide +kernel) rfl rfl rfl dX12_init_331 ?_
  clear hG hS
  intro H locs hG hS
  refine lv_aload_n hx hb dX12_init_334 rfl (lv_at hl 0 rfl) ?_
  refine lv_iconst (v := 2) hx hb dX12_init_335 (by decide) ?_
  refine zd_newarr (atype := .int) (c0 := 12) (i0 := 0) (k0 := 61) (N1 := 2) (n' := 37) (slots' := 38103) (made' := [(12, 0, 4), (12, 0, 5), (12, 0, 6), (12, 0, 7), (12, 0, 8), (12, 0, 9), (12, 0, 11), (12, 0, 12), (12, 0, 13), (12, 0, 14), (12, 0, 15), (12, 0, 26), (12, 0, 27), (12, 0, 28), (12, 0, 29), (12, 0, 30), (12, 0, 31), (12, 0, 32), (12, 0, 33), (12, 0, 34), (12, 0, 35), (12, 0, 36), (12, 0, 37), (12, 0, 38), (12, 0, 39), (12, 0, 40), (12, 0, 43), (12, 0, 46), (12, 0, 47), (12, 0, 48), (12, 0, 56), (12, 0, 57), (12, 0, 58), (12, 0, 59), (12, 0, 60), (12, 0, 61), (12, 0, 62)]) S hG hS hZ.1 hB zw_60 (Or.inl ⟨rfl, rfl⟩) (by decide) (by decide) hp36 (by decide) (by decide) (by decide) (Nat.le_of_ble_eq_true rfl) rfl rfl rfl (Nat.le_of_ble_eq_true rfl) (Nat.le_of_ble_eq_true rfl) dX12_init_336 ?_
  clear hG hS hB
  intro H N hG hS hB hlast
  obtain ⟨σ43, eσ43, hf⟩ := zlt_s hf
  rw [← eσ43] at hG
  refine zc_putref (N := N) (nu := (zks 12 0 [62, 63] nu)) (ty := .array .int) (c0 := 12) (i0 := 0) (k0 := 61) (T := TX12) S hG hS tyX12 tyX12_ok nmX12 hB.2.1 (zks_n hnu (by decide)) rfl inlX12 (by decide) rfl rfl hin2 rfl zw_263 (by decide +kernel) rfl rfl rfl dX12_init_338 ?_
  clear hG hS
  intro H locs hG hS
  refine lv_aload_n hx hb dX12_init_341 rfl (lv_at hl 0 rfl) ?_
  refine lv_bipush (v := 10) hx hb dX12_init_342 (by decide) ?_
  refine zd_newarr (atype := .int) (c0 := 12) (i0 := 0) (k0 := 62) (N1 := 10) (n' := 38) (slots' := 38113) (made' := [(12, 0, 4), (12, 0, 5), (12, 0, 6), (12, 0, 7), (12, 0, 8), (12, 0, 9), (12, 0, 11), (12, 0, 12), (12, 0, 13), (12, 0, 14), (12, 0, 15), (12, 0, 26), (12, 0, 27), (12, 0, 28), (12, 0, 29), (12, 0, 30), (12, 0, 31), (12, 0, 32), (12, 0, 33), (12, 0, 34), (12, 0, 35), (12, 0, 36), (12, 0, 37), (12, 0, 38), (12, 0, 39), (12, 0, 40), (12, 0, 43), (12, 0, 46), (12, 0, 47), (12, 0, 48), (12, 0, 56), (12, 0, 57), (12, 0, 58), (12, 0, 59), (12, 0, 60), (12, 0, 61), (12, 0, 62), (12, 0, 63)]) S hG hS hZ.1 hB zw_60 (Or.inl ⟨rfl, rfl⟩) (by decide) (by decide) hp37 (by decide) (by decide) (by decide) (Nat.le_of_ble_eq_true rfl) rfl rfl rfl (Nat.le_of_ble_eq_true rfl) (Nat.le_of_ble_eq_true rfl) dX12_init_344 ?_
  clear hG hS hB
  intro H N hG hS hB hlast
  obtain ⟨σ44, eσ44, hf⟩ := zlt_s hf
  rw [← eσ44] at hG
  refine zc_putref (N := N) (nu := (zks 12 0 [63] nu)) (ty := .array .int) (c0 := 12) (i0 := 0) (k0 := 62) (T := TX12) S hG hS tyX12 tyX12_ok nmX12 hB.2.1 (zks_n hnu (by decide)) rfl inlX12 (by decide) rfl rfl hin2 rfl zw_264 (by decide +kernel) rfl rfl rfl dX12_init_346 ?_
  clear hG hS
  intro H locs hG hS
  refine lv_aload_n hx hb dX12_init_349 rfl (lv_at hl 0 rfl) ?_
  refine lv_bipush (v := 10) hx hb dX12_init_350 (by decide) ?_
  refine zd_newarr (atype := .int) (c0 := 12) (i0 := 0) (k0 := 63) (N1 := 10) (n' := 39) (slots' := 38123) (made' := [(12, 0, 4), (12, 0, 5), (12, 0, 6), (12, 0, 7), (12, 0, 8), (12, 0, 9), (12, 0, 11), (12, 0, 12), (12, 0, 13), (12, 0, 14), (12, 0, 15), (12, 0, 26), (12, 0, 27), (12, 0, 28), (12, 0, 29), (12, 0, 30), (12, 0, 31), (12, 0, 32), (12, 0, 33), (12, 0, 34), (12, 0, 35), (12, 0, 36), (12, 0, 37), (12, 0, 38), (12, 0, 39), (12, 0, 40), (12, 0, 43), (12, 0, 46), (12, 0, 47), (12, 0, 48), (12, 0, 56), (12, 0, 57), (12, 0, 58), (12, 0, 59), (12, 0, 60), (12, 0, 61), (12, 0, 62), (12, 0, 63), (12, 0, 64)]) S hG hS hZ.1 hB zw_60 (Or.inl ⟨rfl, rfl⟩) (by decide) (by decide) hp38 (by decide) (by decide) (by decide) (Nat.le_of_ble_eq_true rfl) rfl rfl rfl (Nat.le_of_ble_eq_true rfl) (Nat.le_of_ble_eq_true rfl) dX12_init_352 ?_
  clear hG hS hB
  intro H N hG hS hB hlast
  obtain ⟨σ45, eσ45, hf⟩ := zlt_s hf
  rw [← eσ45] at hG
  refine zc_putref (N := N) (nu := nu) (ty := .array .int) (c0 := 12) (i0 := 0) (k0 := 63) (T := TX12) S hG hS tyX12 tyX12_ok nmX12 hB.2.1 (fun h => hnu _ h List.mem_cons_self) rfl inlX12 (by decide) rfl rfl hin2 rfl zw_265 (by decide +kernel) rfl rfl rfl dX12_init_354 ?_
  clear hG hS
  intro H locs hG hS
  have hG : zG D aC A (N, nu) ad σ45 s _ := hG
  obtain ⟨nl, hnl⟩ : ∃ nl : zNL, nl = (N0 ++ [(12, 0, 4), (12, 0, 5), (12, 0, 6), (12, 0, 7), (12, 0, 8), (12, 0, 9), (12, 0, 11), (12, 0, 12), (12, 0, 13), (12, 0, 14), (12, 0, 15), (12, 0, 26), (12, 0, 27), (12, 0, 28), (12, 0, 29), (12, 0, 30), (12, 0, 31), (12, 0, 32), (12, 0, 33), (12, 0, 34), (12, 0, 35), (12, 0, 36), (12, 0, 37), (12, 0, 38), (12, 0, 39), (12, 0, 40), (12, 0, 43), (12, 0, 46), (12, 0, 47), (12, 0, 48), (12, 0, 56), (12, 0, 57), (12, 0, 58), (12, 0, 59), (12, 0, 60), (12, 0, 61), (12, 0, 62), (12, 0, 63), (12, 0, 64)], nu) := ⟨_, rfl⟩
  have hall : N = N0 ++ [(12, 0, 4), (12, 0, 5), (12, 0, 6), (12, 0, 7), (12, 0, 8), (12, 0, 9), (12, 0, 11), (12, 0, 12), (12, 0, 13), (12, 0, 14), (12, 0, 15), (12, 0, 26), (12, 0, 27), (12, 0, 28), (12, 0, 29), (12, 0, 30), (12, 0, 31), (12, 0, 32), (12, 0, 33), (12, 0, 34), (12, 0, 35), (12, 0, 36), (12, 0, 37), (12, 0, 38), (12, 0, 39), (12, 0, 40), (12, 0, 43), (12, 0, 46), (12, 0, 47), (12, 0, 48), (12, 0, 56), (12, 0, 57), (12, 0, 58), (12, 0, 59), (12, 0, 60), (12, 0, 61), (12, 0, 62), (12, 0, 63), (12, 0, 64)] := hB.1
  rw [hall, ← hnl] at hG
  rw [← hnl]
  have h_this : zin nl 12 0 := by
    rw [hnl, ← hall]
    refine ⟨hB.2.1, fun k h1 h2 => ?_, fun k h => hnu _ h List.mem_cons_self⟩
    have hk := (by decide +kernel : ∀ k, k < zN 12 → 4 ≤ zkd 12 k → k ∈ [3, 4, 5, 6, 7, 8, 10, 11, 12, 13, 14, 25, 26, 27, 28, 29, 30, 31, 32, 33, 34, 35, 36, 37, 38, 39, 42, 45, 46, 47, 55, 56, 57, 58, 59, 60, 61, 62, 63]) k h1 h2
    simp only [List.mem_cons, List.not_mem_nil, or_false] at hk
    rw [hall]
    rcases hk with rfl | rfl | rfl | rfl | rfl | rfl | rfl | rfl | rfl | rfl | rfl | rfl | rfl | rfl | rfl | rfl | rfl | rfl | rfl | rfl | rfl | rfl | rfl | rfl | rfl | rfl | rfl | rfl | rfl | rfl | rfl | rfl | rfl | rfl | rfl | rfl | rfl | rfl | rfl <;> exact List.mem_append_right _ (by simp)
  have hZ : zH zs [] A nl s := ⟨hZ.1, fun _ h => (by cases h), hZ.2.2⟩
  clear hB hall
  refine lv_iconst (v := 0) hx hb dX12_init_357 (by decide) ?_
  refine lv_istore_n (lv' := [(1, .int 0), (0, .ref (ad 12 0 0))]) hx hb dX12_init_358 rfl hl (by decide) rfl (fun ls hl => ?_)
  obtain ⟨t359, hw359, hfo359⟩ := zbi hf
  have KL359 : ∀ (n : Nat) (y1l359 : Int32) (σl359 : zM) (H : Heap) (locs : List Loc) (ls : Array Slot), zG D aC A nl ad σl359 s H → va_S A s.heap H locs → lv_has ls 2 [(0, .ref (ad 12 0 0)), (1, .int y1l359)] → zwh (fun (q : (Int32 × zM)) => f_X12_init_L359 q.1 q.2) n (y1l359, σl359) = some t359 → W p l e ({ frames := 1, cells := 39, slots := 38123, locals := 12 } : Room) s m args below meth c H locs 39 38123 (MQ below (zQ none (fun t => zG D aC A nl ad σ' t t.heap ∧ True) A) args s 39 38123 A) (F0 m 359 ls []) := by
    intro n
    induction n with
    | zero =>
      intro y1l359 σl359 H locs ls hG hS hl hw
      exact (zwh_0 hw).elim
    | succ n ih359 =>
      intro y1l359 σl359 H locs ls hG hS hl hw
      obtain ⟨rr359, hf, hk359⟩ := zwh_u hw
      have hf : f_X12_init_L359 y1l359 σl359 = some rr359 := hf
      unfold f_X12_init_L359 at hf
      refine lv_iload_n hx hb dX12_init_359 rfl (lv_at hl 1 rfl) ?_
      refine lv_sipush (v := 320) hx hb dX12_init_360 (by decide) ?_
      refine lv_icmp_ge (tgt := 381) hx hb dX12_init_363 (by decide) (fun c49 => ?_) (fun c49 => ?_)
      · have hf := zif_p c49 hf
        cases hf
        have hk359 : (σl359 : zM) = t359 := hk359
        have hf := hfo359
        rw [← hk359] at hf
        have hf : (some σl359) = some σ' := hf
        have hq := (Option.some.inj hf)
        subst hq
        exact z_vret S hG hS hlocks trivial hr dX12_init_381
      · have hf := zif_n c49 hf
        refine lv_aload_n hx hb dX12_init_366 rfl (lv_at hl 0 rfl) ?_
        refine z_get (c0 := 12) (i0 := 0) (k0 := 55) (T := TX12) (v := .ref (ad 12 0 56)) S hG h_this rfl inlX12 (by decide) rfl zw_257 rfl dX12_init_367 ?_
        refine lv_iload_n hx hb dX12_init_370 rfl (lv_at hl 1 rfl) ?_
        refine lv_sipush (v := 1001) hx hb dX12_init_371 (by decide) ?_
        obtain ⟨i50, hi50, hf⟩ := zbi hf
        refine z_iast (c0 := 12) (i0 := 0) (k0 := 55) S hG hS h_this (by decide) rfl hi50 dX12_init_374 (fun H locs hG hS => ?_)
        obtain ⟨σ51, eσ51, hf⟩ := zlt_s hf
        rw [← eσ51] at hG
        refine lv_iinc (v := (y1l359 + 1)) (lv' := [(1, .int (y1l359 + 1)), (0, .ref (ad 12 0 0))]) hx hb dX12_init_375 hl (k := 1) rfl rfl (by decide) rfl (fun ls hl => ?_)
        refine lv_goto (tgt := 359) hx hb dX12_init_378 (by decide) ?_
        cases hf
        exact ih359 (y1l359 + 1) σ51 H locs ls hG hS (lv_sub hl [1, 0] rfl) hk359
  exact KL359 zFu 0 σ45 H locs ls hG hS (lv_sub hl [1, 0] rfl) hw359
