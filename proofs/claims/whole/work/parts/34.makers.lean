theorem zG_lt {D : va_G} {aC : Nat → ClassId} {A : Nat → Prop} {nl : zNL} {ad : Nat → Nat → Nat → Nat} {σ : zM} {s : State} {H : Heap} (hG : zG D aC A nl ad σ s H) {q : Nat × Nat × Nat} (hq : q ∈ nl.1) : zad ad q < H.size := by
  obtain ⟨k, -, hk⟩ := zG_at hG hq
  exact (hG.1 k _ hk).lt
def zPm (D : va_G) (aC : Nat → ClassId) (zs : Nat × Nat) (fx : List (Nat × Nat)) (A : Nat → Prop) (nl : zNL) (ad : Nat → Nat → Nat → Nat) (σ : zM) (av : List Value) (Px : Nat → Prop) : Array Value → State → Prop := va_Pc av (fun U => (zG D aC A nl ad σ U U.heap ∧ zH zs fx A nl U) ∧ Px U.heap.size)
def f_X9_init (σ : zM) : zM := zlt (zclA σ 9 0 0) fun σ2 => zlt (zsI σ2 9 0 1 0) fun σ3 => σ3
def f_X5_init (σ : zM) : zM := zlt (zclA σ 5 0 0) fun σ2 => zlt (zsI σ2 5 0 1 0) fun σ3 => zlt (zsI σ3 5 0 2 0) fun σ4 => σ4
def f_X7_init (σ : zM) (o : Nat) (x1 : Int32) : zM := zlt (zsI σ 7 o 1 (-1)) fun σ1 => zlt (zclA σ1 7 o 2) fun σ3 => zlt (zclA σ3 7 o 3) fun σ5 => zlt (zclA σ5 7 o 4) fun σ7 => zlt (zsI σ7 7 o 5 0) fun σ8 => zlt (zsI σ8 7 o 0 x1) fun σ9 => σ9
def f_X3_init (σ : zM) : zM := zlt (zclA σ 3 0 0) fun σ2 => zlt (zclA σ2 3 0 1) fun σ4 => zlt (zclA σ4 3 0 2) fun σ6 => zlt (zclA σ6 3 0 3) fun σ8 => zlt (zsI σ8 3 0 4 0) fun σ9 => zlt (zsI σ9 3 0 5 0) fun σ10 => σ10
def f_X6_init (σ : zM) (o : Nat) : zM := zlt (zclA σ 6 o 0) fun σ2 => zlt (zclA σ2 6 o 1) fun σ4 => zlt (zclA σ4 6 o 2) fun σ6 => zlt (zclA σ6 6 o 3) fun σ8 => zlt (zclA σ8 6 o 4) fun σ10 => zlt (zclA σ10 6 o 5) fun σ12 => zlt (zsI σ12 6 o 6 0) fun σ13 => zlt (zsI σ13 6 o 7 0) fun σ14 => zlt (zsI σ14 6 o 8 0) fun σ15 => σ15
set_option maxRecDepth 100000 in
set_option maxHeartbeats 4000000 in
theorem c_X9_init (l : Launch) (D : va_G) (aC : Nat → ClassId) (zs : Nat × Nat) (fx : List (Nat × Nat)) (A : Nat → Prop) (N nu : List (Nat × Nat × Nat)) (ad : Nat → Nat → Nat → Nat) (σ : zM)  (σ' : zM) (hobj : (9, 0, 0) ∈ N) (hfr : ∀ k, k ≠ 0 → (9, 0, k) ∉ N) (hnu : ∀ k, (9, 0, k) ∉ nu) (hf : f_X9_init σ = σ') : Met l yX9_init (Cond.code yX9_init cX9_init 1 none :: wsL_law) ({ frames := 1, cells := 1, slots := 900, locals := 12 } : Room) (zPm D aC zs fx A (N, ([(9, 0, 0)] ++ nu)) ad σ [.ref (ad 9 0 0)] (fun sz => ad 9 0 1 = sz + 0 ∧ True)) (zQ none (fun t => zG D aC A ((N ++ [(9, 0, 1)]), nu) ad σ' t t.heap ∧ True) A) 1 900 A := by
  refine Met.ofW (cc := cX9_init) (maxL := 1) (ret := none) (by decide) rfl ?_
  intro p e s m args below meth c s₁ B hml hv
  obtain ⟨rfl, ⟨hG, hZ⟩, hp0, -⟩ := hv
  have hx := B.exec
  have hb := B.bytes
  have hr := B.returns
  have hts : ∀ w ∈ wsL_law, w.before ([.ref (ad 9 0 0)] : List Value).toArray s = true := fun w h => (atoms_spec B.pre) w (List.mem_cons_of_mem _ h)
  have hown : s.vm.findClass RX9 = some m.cls := findClass_of_methodNamed B.named
  have hlocks := B.notSynchronized
  have hin2 : meth.name = "<init>" := (name_of_methodNamed B.named B.method).1
  have S : zS p m c cX9_init 1 s ([.ref (ad 9 0 0)] : List Value).toArray RX9 := ⟨hx, hb, hml, hown, hts⟩
  have hS : va_S A s.heap s.heap [] := va_S.rf
  have hl := lv_entry ([.ref (ad 9 0 0)]) (n := 1) (Nat.le_of_ble_eq_true rfl)
  rw [lg_entry_eq]
  generalize (lg_sl ([.ref (ad 9 0 0)]) ++ List.replicate (1 - (lg_sl ([.ref (ad 9 0 0)])).length) Slot.unset).toArray = ls at hl ⊢
  have hl : lv_has ls 1 [(0, .ref (ad 9 0 0))] := hl
  generalize hargs : ([.ref (ad 9 0 0)] : List Value).toArray = args at S hts ⊢
  clear hargs
  unfold f_X9_init at hf
  refine lv_aload_n hx hb dX9_init_0 rfl (lv_at hl 0 rfl) ?_
  refine W.objInit hx hb hown (hts _ zw_59) (hts _ zw_11) (hts _ zw_12) rfl (by rw [S.2.2.1]; exact hl.1) rfl dX9_init_1 (Nat.le_of_ble_eq_true rfl) (Nat.le_of_ble_eq_true rfl) ?_
  refine W.eq (g2 := F0 m 4 ls []) rfl ?_
  refine lv_aload_n hx hb dX9_init_4 rfl (lv_at hl 0 rfl) ?_
  refine lv_sipush (v := 900) hx hb dX9_init_5 (by decide) ?_
  refine W_size (fun hle => ?_)
  have hge := hS.1
  refine zc_newarr (atype := .int) (c0 := 9) (i0 := 0) (k0 := 0) (N := 900) S hG hS hZ.1 zw_60 (Or.inl ⟨rfl, rfl⟩) (by simp [hfr]) (hp0.trans (by omega)) (by decide) (by decide) rfl (by decide) (Nat.le_of_ble_eq_true rfl) (Nat.le_of_ble_eq_true rfl) dX9_init_8 (fun H hsz hG hS => ?_)
  obtain ⟨σ2, eσ2, hf⟩ := zlt_s hf
  rw [← eσ2] at hG
  refine zc_putref (N := (N ++ [(9, 0, 1)])) (nu := nu) (ty := .array .int) (c0 := 9) (i0 := 0) (k0 := 0) (T := TX9) S hG hS tyX9 tyX9_ok nmX9 (by simp [hobj]) (by simp [hnu]) rfl inlX9 (by decide) rfl rfl hin2 rfl zw_61 (by decide +kernel) rfl rfl rfl dX9_init_10 (fun H locs hG hS => ?_)
  have hG : zG D aC A ((N ++ [(9, 0, 1)]), nu) ad σ2 s _ := hG
  obtain ⟨nl, hnl⟩ : ∃ nl : zNL, nl = ((N ++ [(9, 0, 1)]), nu) := ⟨_, rfl⟩
  rw [← hnl] at hG ⊢
  have h_this : zin nl 9 0 := by
    rw [hnl]
    refine ⟨by simp [hobj], fun k h1 h2 => ?_, fun k => by simp [hnu]⟩
    have hk := (by decide +kernel : ∀ k, k < zN 9 → 4 ≤ zkd 9 k → k ∈ [0]) k h1 h2
    simp only [List.mem_cons, List.not_mem_nil, or_false] at hk
    rcases hk with rfl <;> simp
  refine lv_aload_n hx hb dX9_init_13 rfl (lv_at hl 0 rfl) ?_
  refine lv_iconst (v := 0) hx hb dX9_init_14 (by decide) ?_
  refine zc_putI (c0 := 9) (i0 := 0) (k0 := 1) (T := TX9) S hG hS tyX9 tyX9_ok nmX9 h_this.1 (h_this.2.2 _) rfl inlX9 (by decide) rfl (Or.inl rfl) zw_62 (by decide +kernel) rfl dX9_init_15 (fun H locs hG hS => ?_)
  obtain ⟨σ3, eσ3, hf⟩ := zlt_s hf
  rw [← eσ3] at hG
  have hq := hf
  subst hq
  exact z_vret S hG hS hlocks trivial hr dX9_init_18
set_option maxRecDepth 100000 in
set_option maxHeartbeats 4000000 in
theorem c_X5_init (l : Launch) (D : va_G) (aC : Nat → ClassId) (zs : Nat × Nat) (fx : List (Nat × Nat)) (A : Nat → Prop) (N nu : List (Nat × Nat × Nat)) (ad : Nat → Nat → Nat → Nat) (σ : zM)  (σ' : zM) (hobj : (5, 0, 0) ∈ N) (hfr : ∀ k, k ≠ 0 → (5, 0, k) ∉ N) (hnu : ∀ k, (5, 0, k) ∉ nu) (hf : f_X5_init σ = σ') : Met l yX5_init (Cond.code yX5_init cX5_init 1 none :: wsL_law) ({ frames := 1, cells := 1, slots := 12, locals := 12 } : Room) (zPm D aC zs fx A (N, ([(5, 0, 0)] ++ nu)) ad σ [.ref (ad 5 0 0)] (fun sz => ad 5 0 1 = sz + 0 ∧ True)) (zQ none (fun t => zG D aC A ((N ++ [(5, 0, 1)]), nu) ad σ' t t.heap ∧ True) A) 1 12 A := by
  refine Met.ofW (cc := cX5_init) (maxL := 1) (ret := none) (by decide) rfl ?_
  intro p e s m args below meth c s₁ B hml hv
  obtain ⟨rfl, ⟨hG, hZ⟩, hp0, -⟩ := hv
  have hx := B.exec
  have hb := B.bytes
  have hr := B.returns
  have hts : ∀ w ∈ wsL_law, w.before ([.ref (ad 5 0 0)] : List Value).toArray s = true := fun w h => (atoms_spec B.pre) w (List.mem_cons_of_mem _ h)
  have hown : s.vm.findClass RX5 = some m.cls := findClass_of_methodNamed B.named
  have hlocks := B.notSynchronized
  have hin2 : meth.name = "<init>" := (name_of_methodNamed B.named B.method).1
  have S : zS p m c cX5_init 1 s ([.ref (ad 5 0 0)] : List Value).toArray RX5 := ⟨hx, hb, hml, hown, hts⟩
  have hS : va_S A s.heap s.heap [] := va_S.rf
  have hl := lv_entry ([.ref (ad 5 0 0)]) (n := 1) (Nat.le_of_ble_eq_true rfl)
  rw [lg_entry_eq]
  generalize (lg_sl ([.ref (ad 5 0 0)]) ++ List.replicate (1 - (lg_sl ([.ref (ad 5 0 0)])).length) Slot.unset).toArray = ls at hl ⊢
  have hl : lv_has ls 1 [(0, .ref (ad 5 0 0))] := hl
  generalize hargs : ([.ref (ad 5 0 0)] : List Value).toArray = args at S hts ⊢
  clear hargs
  unfold f_X5_init at hf
  refine lv_aload_n hx hb dX5_init_0 rfl (lv_at hl 0 rfl) ?_
  refine W.objInit hx hb hown (hts _ zw_65) (hts _ zw_11) (hts _ zw_12) rfl (by rw [S.2.2.1]; exact hl.1) rfl dX5_init_1 (Nat.le_of_ble_eq_true rfl) (Nat.le_of_ble_eq_true rfl) ?_
  refine W.eq (g2 := F0 m 4 ls []) rfl ?_
  refine lv_aload_n hx hb dX5_init_4 rfl (lv_at hl 0 rfl) ?_
  refine lv_bipush (v := 12) hx hb dX5_init_5 (by decide) ?_
  refine W_size (fun hle => ?_)
  have hge := hS.1
  refine zc_newarr (atype := .long) (c0 := 5) (i0 := 0) (k0 := 0) (N := 12) S hG hS hZ.1 zw_66 (Or.inr (Or.inr (Or.inr ⟨rfl, rfl⟩))) (by simp [hfr]) (hp0.trans (by omega)) (by decide) (by decide) rfl (by decide) (Nat.le_of_ble_eq_true rfl) (Nat.le_of_ble_eq_true rfl) dX5_init_7 (fun H hsz hG hS => ?_)
  obtain ⟨σ2, eσ2, hf⟩ := zlt_s hf
  rw [← eσ2] at hG
  refine zc_putref (N := (N ++ [(5, 0, 1)])) (nu := nu) (ty := .array .long) (c0 := 5) (i0 := 0) (k0 := 0) (T := TX5) S hG hS tyX5 tyX5_ok nmX5 (by simp [hobj]) (by simp [hnu]) rfl inlX5 (by decide) rfl rfl hin2 rfl zw_67 (by decide +kernel) rfl rfl rfl dX5_init_9 (fun H locs hG hS => ?_)
  have hG : zG D aC A ((N ++ [(5, 0, 1)]), nu) ad σ2 s _ := hG
  obtain ⟨nl, hnl⟩ : ∃ nl : zNL, nl = ((N ++ [(5, 0, 1)]), nu) := ⟨_, rfl⟩
  rw [← hnl] at hG ⊢
  have h_this : zin nl 5 0 := by
    rw [hnl]
    refine ⟨by simp [hobj], fun k h1 h2 => ?_, fun k => by simp [hnu]⟩
    have hk := (by decide +kernel : ∀ k, k < zN 5 → 4 ≤ zkd 5 k → k ∈ [0]) k h1 h2
    simp only [List.mem_cons, List.not_mem_nil, or_false] at hk
    rcases hk with rfl <;> simp
  refine lv_aload_n hx hb dX5_init_12 rfl (lv_at hl 0 rfl) ?_
  refine lv_iconst (v := 0) hx hb dX5_init_13 (by decide) ?_
  refine zc_putI (c0 := 5) (i0 := 0) (k0 := 1) (T := TX5) S hG hS tyX5 tyX5_ok nmX5 h_this.1 (h_this.2.2 _) rfl inlX5 (by decide) rfl (Or.inl rfl) zw_68 (by decide +kernel) rfl dX5_init_14 (fun H locs hG hS => ?_)
  obtain ⟨σ3, eσ3, hf⟩ := zlt_s hf
  rw [← eσ3] at hG
  refine lv_aload_n hx hb dX5_init_17 rfl (lv_at hl 0 rfl) ?_
  refine lv_iconst (v := 0) hx hb dX5_init_18 (by decide) ?_
  refine zc_putI (c0 := 5) (i0 := 0) (k0 := 2) (T := TX5) S hG hS tyX5 tyX5_ok nmX5 h_this.1 (h_this.2.2 _) rfl inlX5 (by decide) rfl (Or.inl rfl) zw_69 (by decide +kernel) rfl dX5_init_19 (fun H locs hG hS => ?_)
  obtain ⟨σ4, eσ4, hf⟩ := zlt_s hf
  rw [← eσ4] at hG
  have hq := hf
  subst hq
  exact z_vret S hG hS hlocks trivial hr dX5_init_22
set_option maxRecDepth 100000 in
set_option maxHeartbeats 4000000 in
theorem c_X7_init (l : Launch) (D : va_G) (aC : Nat → ClassId) (zs : Nat × Nat) (fx : List (Nat × Nat)) (A : Nat → Prop) (N nu : List (Nat × Nat × Nat)) (ad : Nat → Nat → Nat → Nat) (σ : zM) (o : Nat) (x1 : Int32) (σ' : zM) (hobj : (7, o, 0) ∈ N) (hfr : ∀ k, k ≠ 0 → (7, o, k) ∉ N) (hnu : ∀ k, (7, o, k) ∉ nu) (hf : f_X7_init σ o x1 = σ') : Met l yX7_init (Cond.code yX7_init cX7_init 2 none :: wsL_law) ({ frames := 1, cells := 3, slots := 257, locals := 12 } : Room) (zPm D aC zs fx A (N, ([(7, o, 2), (7, o, 3), (7, o, 4)] ++ nu)) ad σ [.ref (ad 7 o 0), .int x1] (fun sz => ad 7 o 3 = sz + 0 ∧ ad 7 o 4 = sz + 1 ∧ ad 7 o 5 = sz + 2 ∧ True)) (zQ none (fun t => zG D aC A ((((N ++ [(7, o, 3)]) ++ [(7, o, 4)]) ++ [(7, o, 5)]), nu) ad σ' t t.heap ∧ True) A) 3 257 A := by
  refine Met.ofW (cc := cX7_init) (maxL := 2) (ret := none) (by decide) rfl ?_
  intro p e s m args below meth c s₁ B hml hv
  obtain ⟨rfl, ⟨hG, hZ⟩, hp0, hp1, hp2, -⟩ := hv
  have hx := B.exec
  have hb := B.bytes
  have hr := B.returns
  have hts : ∀ w ∈ wsL_law, w.before ([.ref (ad 7 o 0), .int x1] : List Value).toArray s = true := fun w h => (atoms_spec B.pre) w (List.mem_cons_of_mem _ h)
  have hown : s.vm.findClass RX7 = some m.cls := findClass_of_methodNamed B.named
  have hlocks := B.notSynchronized
  have hin2 : meth.name = "<init>" := (name_of_methodNamed B.named B.method).1
  have S : zS p m c cX7_init 2 s ([.ref (ad 7 o 0), .int x1] : List Value).toArray RX7 := ⟨hx, hb, hml, hown, hts⟩
  have hS : va_S A s.heap s.heap [] := va_S.rf
  have hl := lv_entry ([.ref (ad 7 o 0), .int x1]) (n := 2) (Nat.le_of_ble_eq_true rfl)
  rw [lg_entry_eq]
  generalize (lg_sl ([.ref (ad 7 o 0), .int x1]) ++ List.replicate (2 - (lg_sl ([.ref (ad 7 o 0), .int x1])).length) Slot.unset).toArray = ls at hl ⊢
  have hl : lv_has ls 2 [(0, .ref (ad 7 o 0)), (1, .int x1)] := hl
  generalize hargs : ([.ref (ad 7 o 0), .int x1] : List Value).toArray = args at S hts ⊢
  clear hargs
  unfold f_X7_init at hf
  refine lv_aload_n hx hb dX7_init_0 rfl (lv_at hl 0 rfl) ?_
  refine W.objInit hx hb hown (hts _ zw_788) (hts _ zw_11) (hts _ zw_12) rfl (by rw [S.2.2.1]; exact hl.1) rfl dX7_init_1 (Nat.le_of_ble_eq_true rfl) (Nat.le_of_ble_eq_true rfl) ?_
  refine W.eq (g2 := F0 m 4 ls []) rfl ?_
  refine lv_aload_n hx hb dX7_init_4 rfl (lv_at hl 0 rfl) ?_
  refine lv_iconst (v := (-1)) hx hb dX7_init_5 (by decide) ?_
  refine zc_putI (c0 := 7) (i0 := o) (k0 := 1) (T := TX7) S hG hS tyX7 tyX7_ok nmX7 (by simp [hobj]) (by simp [hnu]) rfl inlX7 (by decide) rfl (Or.inl rfl) zw_789 (by decide +kernel) rfl dX7_init_6 (fun H locs hG hS => ?_)
  obtain ⟨σ1, eσ1, hf⟩ := zlt_s hf
  rw [← eσ1] at hG
  refine lv_aload_n hx hb dX7_init_9 rfl (lv_at hl 0 rfl) ?_
  refine lv_sipush (v := 240) hx hb dX7_init_10 (by decide) ?_
  refine W_size (fun hle => ?_)
  have hge := hS.1
  refine zc_newarr (atype := .int) (c0 := 7) (i0 := o) (k0 := 2) (N := 240) S hG hS hZ.1 zw_60 (Or.inl ⟨rfl, rfl⟩) (by simp [hfr]) (hp0.trans (by omega)) (by decide) (by decide) rfl (by decide) (Nat.le_of_ble_eq_true rfl) (Nat.le_of_ble_eq_true rfl) dX7_init_13 (fun H hsz hG hS => ?_)
  obtain ⟨σ3, eσ3, hf⟩ := zlt_s hf
  rw [← eσ3] at hG
  refine zc_putref (N := (N ++ [(7, o, 3)])) (nu := ([(7, o, 3), (7, o, 4)] ++ nu)) (ty := .array .int) (c0 := 7) (i0 := o) (k0 := 2) (T := TX7) S hG hS tyX7 tyX7_ok nmX7 (by simp [hobj]) (by simp [hnu]) rfl inlX7 (by decide) rfl rfl hin2 rfl zw_790 (by decide +kernel) rfl rfl rfl dX7_init_15 (fun H locs hG hS => ?_)
  refine lv_aload_n hx hb dX7_init_18 rfl (lv_at hl 0 rfl) ?_
  refine lv_bipush (v := 15) hx hb dX7_init_19 (by decide) ?_
  refine W_size (fun hle => ?_)
  have hge := zG_lt hG (q := (7, o, 3)) (by simp)
  simp only [zad, hp0] at hge
  refine zc_newarr (atype := .int) (c0 := 7) (i0 := o) (k0 := 3) (N := 15) S hG hS hZ.1 zw_60 (Or.inl ⟨rfl, rfl⟩) (by simp [hfr]) (hp1.trans (by omega)) (by decide) (by decide) rfl (by decide) (Nat.le_of_ble_eq_true rfl) (Nat.le_of_ble_eq_true rfl) dX7_init_21 (fun H hsz hG hS => ?_)
  obtain ⟨σ5, eσ5, hf⟩ := zlt_s hf
  rw [← eσ5] at hG
  refine zc_putref (N := ((N ++ [(7, o, 3)]) ++ [(7, o, 4)])) (nu := ([(7, o, 4)] ++ nu)) (ty := .array .int) (c0 := 7) (i0 := o) (k0 := 3) (T := TX7) S hG hS tyX7 tyX7_ok nmX7 (by simp [hobj]) (by simp [hnu]) rfl inlX7 (by decide) rfl rfl hin2 rfl zw_791 (by decide +kernel) rfl rfl rfl dX7_init_23 (fun H locs hG hS => ?_)
  refine lv_aload_n hx hb dX7_init_26 rfl (lv_at hl 0 rfl) ?_
  refine lv_iconst (v := 2) hx hb dX7_init_27 (by decide) ?_
  refine W_size (fun hle => ?_)
  have hge := zG_lt hG (q := (7, o, 4)) (by simp)
  simp only [zad, hp1] at hge
  refine zc_newarr (atype := .int) (c0 := 7) (i0 := o) (k0 := 4) (N := 2) S hG hS hZ.1 zw_60 (Or.inl ⟨rfl, rfl⟩) (by simp [hfr]) (hp2.trans (by omega)) (by decide) (by decide) rfl (by decide) (Nat.le_of_ble_eq_true rfl) (Nat.le_of_ble_eq_true rfl) dX7_init_28 (fun H hsz hG hS => ?_)
  obtain ⟨σ7, eσ7, hf⟩ := zlt_s hf
  rw [← eσ7] at hG
  refine zc_putref (N := (((N ++ [(7, o, 3)]) ++ [(7, o, 4)]) ++ [(7, o, 5)])) (nu := nu) (ty := .array .int) (c0 := 7) (i0 := o) (k0 := 4) (T := TX7) S hG hS tyX7 tyX7_ok nmX7 (by simp [hobj]) (by simp [hnu]) rfl inlX7 (by decide) rfl rfl hin2 rfl zw_792 (by decide +kernel) rfl rfl rfl dX7_init_30 (fun H locs hG hS => ?_)
  have hG : zG D aC A ((((N ++ [(7, o, 3)]) ++ [(7, o, 4)]) ++ [(7, o, 5)]), nu) ad σ7 s _ := hG
  obtain ⟨nl, hnl⟩ : ∃ nl : zNL, nl = ((((N ++ [(7, o, 3)]) ++ [(7, o, 4)]) ++ [(7, o, 5)]), nu) := ⟨_, rfl⟩
  rw [← hnl] at hG ⊢
  have h_this : zin nl 7 o := by
    rw [hnl]
    refine ⟨by simp [hobj], fun k h1 h2 => ?_, fun k => by simp [hnu]⟩
    have hk := (by decide +kernel : ∀ k, k < zN 7 → 4 ≤ zkd 7 k → k ∈ [2, 3, 4]) k h1 h2
    simp only [List.mem_cons, List.not_mem_nil, or_false] at hk
    rcases hk with rfl | rfl | rfl <;> simp
  refine lv_aload_n hx hb dX7_init_33 rfl (lv_at hl 0 rfl) ?_
  refine lv_iconst (v := 0) hx hb dX7_init_34 (by decide) ?_
  refine zc_putI (c0 := 7) (i0 := o) (k0 := 5) (T := TX7) S hG hS tyX7 tyX7_ok nmX7 h_this.1 (h_this.2.2 _) rfl inlX7 (by decide) rfl (Or.inl rfl) zw_793 (by decide +kernel) rfl dX7_init_35 (fun H locs hG hS => ?_)
  obtain ⟨σ8, eσ8, hf⟩ := zlt_s hf
  rw [← eσ8] at hG
  refine lv_aload_n hx hb dX7_init_38 rfl (lv_at hl 0 rfl) ?_
  refine lv_iload_n hx hb dX7_init_39 rfl (lv_at hl 1 rfl) ?_
  refine zc_putI (c0 := 7) (i0 := o) (k0 := 0) (T := TX7) S hG hS tyX7 tyX7_ok nmX7 h_this.1 (h_this.2.2 _) rfl inlX7 (by decide) rfl (Or.inr ⟨rfl, hin2, rfl⟩) zw_794 (by decide +kernel) rfl dX7_init_40 (fun H locs hG hS => ?_)
  obtain ⟨σ9, eσ9, hf⟩ := zlt_s hf
  rw [← eσ9] at hG
  have hq := hf
  subst hq
  exact z_vret S hG hS hlocks trivial hr dX7_init_43
set_option maxRecDepth 100000 in
set_option maxHeartbeats 4000000 in
theorem c_X3_init (l : Launch) (D : va_G) (aC : Nat → ClassId) (zs : Nat × Nat) (fx : List (Nat × Nat)) (A : Nat → Prop) (N nu : List (Nat × Nat × Nat)) (ad : Nat → Nat → Nat → Nat) (σ : zM)  (σ' : zM) (hobj : (3, 0, 0) ∈ N) (hfr : ∀ k, k ≠ 0 → (3, 0, k) ∉ N) (hnu : ∀ k, (3, 0, k) ∉ nu) (hf : f_X3_init σ = σ') : Met l yX3_init (Cond.code yX3_init cX3_init 1 none :: wsL_law) ({ frames := 1, cells := 4, slots := 190, locals := 12 } : Room) (zPm D aC zs fx A (N, ([(3, 0, 0), (3, 0, 1), (3, 0, 2), (3, 0, 3)] ++ nu)) ad σ [.ref (ad 3 0 0)] (fun sz => ad 3 0 1 = sz + 0 ∧ ad 3 0 2 = sz + 1 ∧ ad 3 0 3 = sz + 2 ∧ ad 3 0 4 = sz + 3 ∧ True)) (zQ none (fun t => zG D aC A (((((N ++ [(3, 0, 1)]) ++ [(3, 0, 2)]) ++ [(3, 0, 3)]) ++ [(3, 0, 4)]), nu) ad σ' t t.heap ∧ True) A) 4 190 A := by
  refine Met.ofW (cc := cX3_init) (maxL := 1) (ret := none) (by decide) rfl ?_
  intro p e s m args below meth c s₁ B hml hv
  obtain ⟨rfl, ⟨hG, hZ⟩, hp0, hp1, hp2, hp3, -⟩ := hv
  have hx := B.exec
  have hb := B.bytes
  have hr := B.returns
  have hts : ∀ w ∈ wsL_law, w.before ([.ref (ad 3 0 0)] : List Value).toArray s = true := fun w h => (atoms_spec B.pre) w (List.mem_cons_of_mem _ h)
  have hown : s.vm.findClass RX3 = some m.cls := findClass_of_methodNamed B.named
  have hlocks := B.notSynchronized
  have hin2 : meth.name = "<init>" := (name_of_methodNamed B.named B.method).1
  have S : zS p m c cX3_init 1 s ([.ref (ad 3 0 0)] : List Value).toArray RX3 := ⟨hx, hb, hml, hown, hts⟩
  have hS : va_S A s.heap s.heap [] := va_S.rf
  have hl := lv_entry ([.ref (ad 3 0 0)]) (n := 1) (Nat.le_of_ble_eq_true rfl)
  rw [lg_entry_eq]
  generalize (lg_sl ([.ref (ad 3 0 0)]) ++ List.replicate (1 - (lg_sl ([.ref (ad 3 0 0)])).length) Slot.unset).toArray = ls at hl ⊢
  have hl : lv_has ls 1 [(0, .ref (ad 3 0 0))] := hl
  generalize hargs : ([.ref (ad 3 0 0)] : List Value).toArray = args at S hts ⊢
  clear hargs
  unfold f_X3_init at hf
  refine lv_aload_n hx hb dX3_init_0 rfl (lv_at hl 0 rfl) ?_
  refine W.objInit hx hb hown (hts _ zw_193) (hts _ zw_11) (hts _ zw_12) rfl (by rw [S.2.2.1]; exact hl.1) rfl dX3_init_1 (Nat.le_of_ble_eq_true rfl) (Nat.le_of_ble_eq_true rfl) ?_
  refine W.eq (g2 := F0 m 4 ls []) rfl ?_
  refine lv_aload_n hx hb dX3_init_4 rfl (lv_at hl 0 rfl) ?_
  refine lv_bipush (v := 40) hx hb dX3_init_5 (by decide) ?_
  refine W_size (fun hle => ?_)
  have hge := hS.1
  refine zc_newarr (atype := .long) (c0 := 3) (i0 := 0) (k0 := 0) (N := 40) S hG hS hZ.1 zw_66 (Or.inr (Or.inr (Or.inr ⟨rfl, rfl⟩))) (by simp [hfr]) (hp0.trans (by omega)) (by decide) (by decide) rfl (by decide) (Nat.le_of_ble_eq_true rfl) (Nat.le_of_ble_eq_true rfl) dX3_init_7 (fun H hsz hG hS => ?_)
  obtain ⟨σ2, eσ2, hf⟩ := zlt_s hf
  rw [← eσ2] at hG
  refine zc_putref (N := (N ++ [(3, 0, 1)])) (nu := ([(3, 0, 1), (3, 0, 2), (3, 0, 3)] ++ nu)) (ty := .array .long) (c0 := 3) (i0 := 0) (k0 := 0) (T := TX3) S hG hS tyX3 tyX3_ok nmX3 (by simp [hobj]) (by simp [hnu]) rfl inlX3 (by decide) rfl rfl hin2 rfl zw_194 (by decide +kernel) rfl rfl rfl dX3_init_9 (fun H locs hG hS => ?_)
  refine lv_aload_n hx hb dX3_init_12 rfl (lv_at hl 0 rfl) ?_
  refine lv_bipush (v := 50) hx hb dX3_init_13 (by decide) ?_
  refine W_size (fun hle => ?_)
  have hge := zG_lt hG (q := (3, 0, 1)) (by simp)
  simp only [zad, hp0] at hge
  refine zc_newarr (atype := .int) (c0 := 3) (i0 := 0) (k0 := 1) (N := 50) S hG hS hZ.1 zw_60 (Or.inl ⟨rfl, rfl⟩) (by simp [hfr]) (hp1.trans (by omega)) (by decide) (by decide) rfl (by decide) (Nat.le_of_ble_eq_true rfl) (Nat.le_of_ble_eq_true rfl) dX3_init_15 (fun H hsz hG hS => ?_)
  obtain ⟨σ4, eσ4, hf⟩ := zlt_s hf
  rw [← eσ4] at hG
  refine zc_putref (N := ((N ++ [(3, 0, 1)]) ++ [(3, 0, 2)])) (nu := ([(3, 0, 2), (3, 0, 3)] ++ nu)) (ty := .array .int) (c0 := 3) (i0 := 0) (k0 := 1) (T := TX3) S hG hS tyX3 tyX3_ok nmX3 (by simp [hobj]) (by simp [hnu]) rfl inlX3 (by decide) rfl rfl hin2 rfl zw_195 (by decide +kernel) rfl rfl rfl dX3_init_17 (fun H locs hG hS => ?_)
  refine lv_aload_n hx hb dX3_init_20 rfl (lv_at hl 0 rfl) ?_
  refine lv_bipush (v := 50) hx hb dX3_init_21 (by decide) ?_
  refine W_size (fun hle => ?_)
  have hge := zG_lt hG (q := (3, 0, 2)) (by simp)
  simp only [zad, hp1] at hge
  refine zc_newarr (atype := .int) (c0 := 3) (i0 := 0) (k0 := 2) (N := 50) S hG hS hZ.1 zw_60 (Or.inl ⟨rfl, rfl⟩) (by simp [hfr]) (hp2.trans (by omega)) (by decide) (by decide) rfl (by decide) (Nat.le_of_ble_eq_true rfl) (Nat.le_of_ble_eq_true rfl) dX3_init_23 (fun H hsz hG hS => ?_)
  obtain ⟨σ6, eσ6, hf⟩ := zlt_s hf
  rw [← eσ6] at hG
  refine zc_putref (N := (((N ++ [(3, 0, 1)]) ++ [(3, 0, 2)]) ++ [(3, 0, 3)])) (nu := ([(3, 0, 3)] ++ nu)) (ty := .array .int) (c0 := 3) (i0 := 0) (k0 := 2) (T := TX3) S hG hS tyX3 tyX3_ok nmX3 (by simp [hobj]) (by simp [hnu]) rfl inlX3 (by decide) rfl rfl hin2 rfl zw_196 (by decide +kernel) rfl rfl rfl dX3_init_25 (fun H locs hG hS => ?_)
  refine lv_aload_n hx hb dX3_init_28 rfl (lv_at hl 0 rfl) ?_
  refine lv_bipush (v := 50) hx hb dX3_init_29 (by decide) ?_
  refine W_size (fun hle => ?_)
  have hge := zG_lt hG (q := (3, 0, 3)) (by simp)
  simp only [zad, hp2] at hge
  refine zc_newarr (atype := .int) (c0 := 3) (i0 := 0) (k0 := 3) (N := 50) S hG hS hZ.1 zw_60 (Or.inl ⟨rfl, rfl⟩) (by simp [hfr]) (hp3.trans (by omega)) (by decide) (by decide) rfl (by decide) (Nat.le_of_ble_eq_true rfl) (Nat.le_of_ble_eq_true rfl) dX3_init_31 (fun H hsz hG hS => ?_)
  obtain ⟨σ8, eσ8, hf⟩ := zlt_s hf
  rw [← eσ8] at hG
  refine zc_putref (N := ((((N ++ [(3, 0, 1)]) ++ [(3, 0, 2)]) ++ [(3, 0, 3)]) ++ [(3, 0, 4)])) (nu := nu) (ty := .array .int) (c0 := 3) (i0 := 0) (k0 := 3) (T := TX3) S hG hS tyX3 tyX3_ok nmX3 (by simp [hobj]) (by simp [hnu]) rfl inlX3 (by decide) rfl rfl hin2 rfl zw_197 (by decide +kernel) rfl rfl rfl dX3_init_33 (fun H locs hG hS => ?_)
  have hG : zG D aC A (((((N ++ [(3, 0, 1)]) ++ [(3, 0, 2)]) ++ [(3, 0, 3)]) ++ [(3, 0, 4)]), nu) ad σ8 s _ := hG
  obtain ⟨nl, hnl⟩ : ∃ nl : zNL, nl = (((((N ++ [(3, 0, 1)]) ++ [(3, 0, 2)]) ++ [(3, 0, 3)]) ++ [(3, 0, 4)]), nu) := ⟨_, rfl⟩
  rw [← hnl] at hG ⊢
  have h_this : zin nl 3 0 := by
    rw [hnl]
    refine ⟨by simp [hobj], fun k h1 h2 => ?_, fun k => by simp [hnu]⟩
    have hk := (by decide +kernel : ∀ k, k < zN 3 → 4 ≤ zkd 3 k → k ∈ [0, 1, 2, 3]) k h1 h2
    simp only [List.mem_cons, List.not_mem_nil, or_false] at hk
    rcases hk with rfl | rfl | rfl | rfl <;> simp
  refine lv_aload_n hx hb dX3_init_36 rfl (lv_at hl 0 rfl) ?_
  refine lv_iconst (v := 0) hx hb dX3_init_37 (by decide) ?_
  refine zc_putI (c0 := 3) (i0 := 0) (k0 := 4) (T := TX3) S hG hS tyX3 tyX3_ok nmX3 h_this.1 (h_this.2.2 _) rfl inlX3 (by decide) rfl (Or.inl rfl) zw_198 (by decide +kernel) rfl dX3_init_38 (fun H locs hG hS => ?_)
  obtain ⟨σ9, eσ9, hf⟩ := zlt_s hf
  rw [← eσ9] at hG
  refine lv_aload_n hx hb dX3_init_41 rfl (lv_at hl 0 rfl) ?_
  refine lv_iconst (v := 0) hx hb dX3_init_42 (by decide) ?_
  refine zc_putI (c0 := 3) (i0 := 0) (k0 := 5) (T := TX3) S hG hS tyX3 tyX3_ok nmX3 h_this.1 (h_this.2.2 _) rfl inlX3 (by decide) rfl (Or.inl rfl) zw_199 (by decide +kernel) rfl dX3_init_43 (fun H locs hG hS => ?_)
  obtain ⟨σ10, eσ10, hf⟩ := zlt_s hf
  rw [← eσ10] at hG
  have hq := hf
  subst hq
  exact z_vret S hG hS hlocks trivial hr dX3_init_46
set_option maxRecDepth 100000 in
set_option maxHeartbeats 4000000 in
theorem c_X6_init (l : Launch) (D : va_G) (aC : Nat → ClassId) (zs : Nat × Nat) (fx : List (Nat × Nat)) (A : Nat → Prop) (N nu : List (Nat × Nat × Nat)) (ad : Nat → Nat → Nat → Nat) (σ : zM) (o : Nat) (σ' : zM) (hobj : (6, o, 0) ∈ N) (hfr : ∀ k, k ≠ 0 → (6, o, k) ∉ N) (hnu : ∀ k, (6, o, k) ∉ nu) (hf : f_X6_init σ o = σ') : Met l yX6_init (Cond.code yX6_init cX6_init 1 none :: wsL_law) ({ frames := 1, cells := 6, slots := 114, locals := 12 } : Room) (zPm D aC zs fx A (N, ([(6, o, 0), (6, o, 1), (6, o, 2), (6, o, 3), (6, o, 4), (6, o, 5)] ++ nu)) ad σ [.ref (ad 6 o 0)] (fun sz => ad 6 o 1 = sz + 0 ∧ ad 6 o 2 = sz + 1 ∧ ad 6 o 3 = sz + 2 ∧ ad 6 o 4 = sz + 3 ∧ ad 6 o 5 = sz + 4 ∧ ad 6 o 6 = sz + 5 ∧ True)) (zQ none (fun t => zG D aC A (((((((N ++ [(6, o, 1)]) ++ [(6, o, 2)]) ++ [(6, o, 3)]) ++ [(6, o, 4)]) ++ [(6, o, 5)]) ++ [(6, o, 6)]), nu) ad σ' t t.heap ∧ True) A) 6 114 A := by
  refine Met.ofW (cc := cX6_init) (maxL := 1) (ret := none) (by decide) rfl ?_
  intro p e s m args below meth c s₁ B hml hv
  obtain ⟨rfl, ⟨hG, hZ⟩, hp0, hp1, hp2, hp3, hp4, hp5, -⟩ := hv
  have hx := B.exec
  have hb := B.bytes
  have hr := B.returns
  have hts : ∀ w ∈ wsL_law, w.before ([.ref (ad 6 o 0)] : List Value).toArray s = true := fun w h => (atoms_spec B.pre) w (List.mem_cons_of_mem _ h)
  have hown : s.vm.findClass RX6 = some m.cls := findClass_of_methodNamed B.named
  have hlocks := B.notSynchronized
  have hin2 : meth.name = "<init>" := (name_of_methodNamed B.named B.method).1
  have S : zS p m c cX6_init 1 s ([.ref (ad 6 o 0)] : List Value).toArray RX6 := ⟨hx, hb, hml, hown, hts⟩
  have hS : va_S A s.heap s.heap [] := va_S.rf
  have hl := lv_entry ([.ref (ad 6 o 0)]) (n := 1) (Nat.le_of_ble_eq_true rfl)
  rw [lg_entry_eq]
  generalize (lg_sl ([.ref (ad 6 o 0)]) ++ List.replicate (1 - (lg_sl ([.ref (ad 6 o 0)])).length) Slot.unset).toArray = ls at hl ⊢
  have hl : lv_has ls 1 [(0, .ref (ad 6 o 0))] := hl
  generalize hargs : ([.ref (ad 6 o 0)] : List Value).toArray = args at S hts ⊢
  clear hargs
  unfold f_X6_init at hf
  refine lv_aload_n hx hb dX6_init_0 rfl (lv_at hl 0 rfl) ?_
  refine W.objInit hx hb hown (hts _ zw_208) (hts _ zw_11) (hts _ zw_12) rfl (by rw [S.2.2.1]; exact hl.1) rfl dX6_init_1 (Nat.le_of_ble_eq_true rfl) (Nat.le_of_ble_eq_true rfl) ?_
  refine W.eq (g2 := F0 m 4 ls []) rfl ?_
  refine lv_aload_n hx hb dX6_init_4 rfl (lv_at hl 0 rfl) ?_
  refine lv_bipush (v := 10) hx hb dX6_init_5 (by decide) ?_
  refine W_size (fun hle => ?_)
  have hge := hS.1
  refine zc_newarr (atype := .boolean) (c0 := 6) (i0 := o) (k0 := 0) (N := 10) S hG hS hZ.1 zw_114 (Or.inr (Or.inr (Or.inl ⟨rfl, rfl⟩))) (by simp [hfr]) (hp0.trans (by omega)) (by decide) (by decide) rfl (by decide) (Nat.le_of_ble_eq_true rfl) (Nat.le_of_ble_eq_true rfl) dX6_init_7 (fun H hsz hG hS => ?_)
  obtain ⟨σ2, eσ2, hf⟩ := zlt_s hf
  rw [← eσ2] at hG
  refine zc_putref (N := (N ++ [(6, o, 1)])) (nu := ([(6, o, 1), (6, o, 2), (6, o, 3), (6, o, 4), (6, o, 5)] ++ nu)) (ty := .array .boolean) (c0 := 6) (i0 := o) (k0 := 0) (T := TX6) S hG hS tyX6 tyX6_ok nmX6 (by simp [hobj]) (by simp [hnu]) rfl inlX6 (by decide) rfl rfl hin2 rfl zw_209 (by decide +kernel) rfl rfl rfl dX6_init_9 (fun H locs hG hS => ?_)
  refine lv_aload_n hx hb dX6_init_12 rfl (lv_at hl 0 rfl) ?_
  refine lv_bipush (v := 70) hx hb dX6_init_13 (by decide) ?_
  refine W_size (fun hle => ?_)
  have hge := zG_lt hG (q := (6, o, 1)) (by simp)
  simp only [zad, hp0] at hge
  refine zc_newarr (atype := .int) (c0 := 6) (i0 := o) (k0 := 1) (N := 70) S hG hS hZ.1 zw_60 (Or.inl ⟨rfl, rfl⟩) (by simp [hfr]) (hp1.trans (by omega)) (by decide) (by decide) rfl (by decide) (Nat.le_of_ble_eq_true rfl) (Nat.le_of_ble_eq_true rfl) dX6_init_15 (fun H hsz hG hS => ?_)
  obtain ⟨σ4, eσ4, hf⟩ := zlt_s hf
  rw [← eσ4] at hG
  refine zc_putref (N := ((N ++ [(6, o, 1)]) ++ [(6, o, 2)])) (nu := ([(6, o, 2), (6, o, 3), (6, o, 4), (6, o, 5)] ++ nu)) (ty := .array .int) (c0 := 6) (i0 := o) (k0 := 1) (T := TX6) S hG hS tyX6 tyX6_ok nmX6 (by simp [hobj]) (by simp [hnu]) rfl inlX6 (by decide) rfl rfl hin2 rfl zw_210 (by decide +kernel) rfl rfl rfl dX6_init_17 (fun H locs hG hS => ?_)
  refine lv_aload_n hx hb dX6_init_20 rfl (lv_at hl 0 rfl) ?_
  refine lv_bipush (v := 7) hx hb dX6_init_21 (by decide) ?_
  refine W_size (fun hle => ?_)
  have hge := zG_lt hG (q := (6, o, 2)) (by simp)
  simp only [zad, hp1] at hge
  refine zc_newarr (atype := .int) (c0 := 6) (i0 := o) (k0 := 2) (N := 7) S hG hS hZ.1 zw_60 (Or.inl ⟨rfl, rfl⟩) (by simp [hfr]) (hp2.trans (by omega)) (by decide) (by decide) rfl (by decide) (Nat.le_of_ble_eq_true rfl) (Nat.le_of_ble_eq_true rfl) dX6_init_23 (fun H hsz hG hS => ?_)
  obtain ⟨σ6, eσ6, hf⟩ := zlt_s hf
  rw [← eσ6] at hG
  refine zc_putref (N := (((N ++ [(6, o, 1)]) ++ [(6, o, 2)]) ++ [(6, o, 3)])) (nu := ([(6, o, 3), (6, o, 4), (6, o, 5)] ++ nu)) (ty := .array .int) (c0 := 6) (i0 := o) (k0 := 2) (T := TX6) S hG hS tyX6 tyX6_ok nmX6 (by simp [hobj]) (by simp [hnu]) rfl inlX6 (by decide) rfl rfl hin2 rfl zw_211 (by decide +kernel) rfl rfl rfl dX6_init_25 (fun H locs hG hS => ?_)
  refine lv_aload_n hx hb dX6_init_28 rfl (lv_at hl 0 rfl) ?_
  refine lv_bipush (v := 7) hx hb dX6_init_29 (by decide) ?_
  refine W_size (fun hle => ?_)
  have hge := zG_lt hG (q := (6, o, 3)) (by simp)
  simp only [zad, hp2] at hge
  refine zc_newarr (atype := .boolean) (c0 := 6) (i0 := o) (k0 := 3) (N := 7) S hG hS hZ.1 zw_114 (Or.inr (Or.inr (Or.inl ⟨rfl, rfl⟩))) (by simp [hfr]) (hp3.trans (by omega)) (by decide) (by decide) rfl (by decide) (Nat.le_of_ble_eq_true rfl) (Nat.le_of_ble_eq_true rfl) dX6_init_31 (fun H hsz hG hS => ?_)
  obtain ⟨σ8, eσ8, hf⟩ := zlt_s hf
  rw [← eσ8] at hG
  refine zc_putref (N := ((((N ++ [(6, o, 1)]) ++ [(6, o, 2)]) ++ [(6, o, 3)]) ++ [(6, o, 4)])) (nu := ([(6, o, 4), (6, o, 5)] ++ nu)) (ty := .array .boolean) (c0 := 6) (i0 := o) (k0 := 3) (T := TX6) S hG hS tyX6 tyX6_ok nmX6 (by simp [hobj]) (by simp [hnu]) rfl inlX6 (by decide) rfl rfl hin2 rfl zw_212 (by decide +kernel) rfl rfl rfl dX6_init_33 (fun H locs hG hS => ?_)
  refine lv_aload_n hx hb dX6_init_36 rfl (lv_at hl 0 rfl) ?_
  refine lv_bipush (v := 10) hx hb dX6_init_37 (by decide) ?_
  refine W_size (fun hle => ?_)
  have hge := zG_lt hG (q := (6, o, 4)) (by simp)
  simp only [zad, hp3] at hge
  refine zc_newarr (atype := .int) (c0 := 6) (i0 := o) (k0 := 4) (N := 10) S hG hS hZ.1 zw_60 (Or.inl ⟨rfl, rfl⟩) (by simp [hfr]) (hp4.trans (by omega)) (by decide) (by decide) rfl (by decide) (Nat.le_of_ble_eq_true rfl) (Nat.le_of_ble_eq_true rfl) dX6_init_39 (fun H hsz hG hS => ?_)
  obtain ⟨σ10, eσ10, hf⟩ := zlt_s hf
  rw [← eσ10] at hG
  refine zc_putref (N := (((((N ++ [(6, o, 1)]) ++ [(6, o, 2)]) ++ [(6, o, 3)]) ++ [(6, o, 4)]) ++ [(6, o, 5)])) (nu := ([(6, o, 5)] ++ nu)) (ty := .array .int) (c0 := 6) (i0 := o) (k0 := 4) (T := TX6) S hG hS tyX6 tyX6_ok nmX6 (by simp [hobj]) (by simp [hnu]) rfl inlX6 (by decide) rfl rfl hin2 rfl zw_213 (by decide +kernel) rfl rfl rfl dX6_init_41 (fun H locs hG hS => ?_)
  refine lv_aload_n hx hb dX6_init_44 rfl (lv_at hl 0 rfl) ?_
  refine lv_bipush (v := 10) hx hb dX6_init_45 (by decide) ?_
  refine W_size (fun hle => ?_)
  have hge := zG_lt hG (q := (6, o, 5)) (by simp)
  simp only [zad, hp4] at hge
  refine zc_newarr (atype := .int) (c0 := 6) (i0 := o) (k0 := 5) (N := 10) S hG hS hZ.1 zw_60 (Or.inl ⟨rfl, rfl⟩) (by simp [hfr]) (hp5.trans (by omega)) (by decide) (by decide) rfl (by decide) (Nat.le_of_ble_eq_true rfl) (Nat.le_of_ble_eq_true rfl) dX6_init_47 (fun H hsz hG hS => ?_)
  obtain ⟨σ12, eσ12, hf⟩ := zlt_s hf
  rw [← eσ12] at hG
  refine zc_putref (N := ((((((N ++ [(6, o, 1)]) ++ [(6, o, 2)]) ++ [(6, o, 3)]) ++ [(6, o, 4)]) ++ [(6, o, 5)]) ++ [(6, o, 6)])) (nu := nu) (ty := .array .int) (c0 := 6) (i0 := o) (k0 := 5) (T := TX6) S hG hS tyX6 tyX6_ok nmX6 (by simp [hobj]) (by simp [hnu]) rfl inlX6 (by decide) rfl rfl hin2 rfl zw_214 (by decide +kernel) rfl rfl rfl dX6_init_49 (fun H locs hG hS => ?_)
  have hG : zG D aC A (((((((N ++ [(6, o, 1)]) ++ [(6, o, 2)]) ++ [(6, o, 3)]) ++ [(6, o, 4)]) ++ [(6, o, 5)]) ++ [(6, o, 6)]), nu) ad σ12 s _ := hG
  obtain ⟨nl, hnl⟩ : ∃ nl : zNL, nl = (((((((N ++ [(6, o, 1)]) ++ [(6, o, 2)]) ++ [(6, o, 3)]) ++ [(6, o, 4)]) ++ [(6, o, 5)]) ++ [(6, o, 6)]), nu) := ⟨_, rfl⟩
  rw [← hnl] at hG ⊢
  have h_this : zin nl 6 o := by
    rw [hnl]
    refine ⟨by simp [hobj], fun k h1 h2 => ?_, fun k => by simp [hnu]⟩
    have hk := (by decide +kernel : ∀ k, k < zN 6 → 4 ≤ zkd 6 k → k ∈ [0, 1, 2, 3, 4, 5]) k h1 h2
    simp only [List.mem_cons, List.not_mem_nil, or_false] at hk
    rcases hk with rfl | rfl | rfl | rfl | rfl | rfl <;> simp
  refine lv_aload_n hx hb dX6_init_52 rfl (lv_at hl 0 rfl) ?_
  refine lv_iconst (v := 0) hx hb dX6_init_53 (by decide) ?_
  refine zc_putI (c0 := 6) (i0 := o) (k0 := 6) (T := TX6) S hG hS tyX6 tyX6_ok nmX6 h_this.1 (h_this.2.2 _) rfl inlX6 (by decide) rfl (Or.inl rfl) zw_215 (by decide +kernel) rfl dX6_init_54 (fun H locs hG hS => ?_)
  obtain ⟨σ13, eσ13, hf⟩ := zlt_s hf
  rw [← eσ13] at hG
  refine lv_aload_n hx hb dX6_init_57 rfl (lv_at hl 0 rfl) ?_
  refine lv_iconst (v := 0) hx hb dX6_init_58 (by decide) ?_
  refine zc_putI (c0 := 6) (i0 := o) (k0 := 7) (T := TX6) S hG hS tyX6 tyX6_ok nmX6 h_this.1 (h_this.2.2 _) rfl inlX6 (by decide) rfl (Or.inl rfl) zw_216 (by decide +kernel) rfl dX6_init_59 (fun H locs hG hS => ?_)
  obtain ⟨σ14, eσ14, hf⟩ := zlt_s hf
  rw [← eσ14] at hG
  refine lv_aload_n hx hb dX6_init_62 rfl (lv_at hl 0 rfl) ?_
  refine lv_iconst (v := 0) hx hb dX6_init_63 (by decide) ?_
  refine zc_putI (c0 := 6) (i0 := o) (k0 := 8) (T := TX6) S hG hS tyX6 tyX6_ok nmX6 h_this.1 (h_this.2.2 _) rfl inlX6 (by decide) rfl (Or.inl rfl) zw_217 (by decide +kernel) rfl dX6_init_64 (fun H locs hG hS => ?_)
  obtain ⟨σ15, eσ15, hf⟩ := zlt_s hf
  rw [← eσ15] at hG
  have hq := hf
  subst hq
  exact z_vret S hG hS hlocks trivial hr dX6_init_67
