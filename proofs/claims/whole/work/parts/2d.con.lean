set_option maxRecDepth 100000 in
set_option maxHeartbeats 4000000 in
theorem c_X6_lengthOf (l : Launch) (D : va_G) (aC : Nat → ClassId) (zs : Nat × Nat) (A : Nat → Prop) (nl : zNL) (ad : Nat → Nat → Nat → Nat) (σ : zM) (o : Nat) (x1 : Int32) (r : Int32) (h_o : zin nl 6 o) (hf : f_X6_lengthOf σ o x1 = some r) : Met l yX6_lengthOf (Cond.code yX6_lengthOf cX6_lengthOf 2 (some .int) :: wsL_law) ({ frames := 0, cells := 0, slots := 0, locals := 0 } : Room) (zP D aC zs zfX A nl ad σ [.ref (ad 6 o 0), .int x1]) (zQ (some (.int r)) (fun t => zG D aC A nl ad σ t t.heap ∧ True) A) 0 0 A := by
  refine Met.ofW (cc := cX6_lengthOf) (maxL := 2) (ret := (some .int)) (by decide) rfl ?_
  intro p e s m args below meth c s₁ B hml hv
  obtain ⟨rfl, hG, hZ⟩ := hv
  have hx := B.exec
  have hb := B.bytes
  have hr := B.returns
  have hts : ∀ w ∈ wsL_law, w.before ([.ref (ad 6 o 0), .int x1] : List Value).toArray s = true := fun w h => (atoms_spec B.pre) w (List.mem_cons_of_mem _ h)
  have hown : s.vm.findClass RX6 = some m.cls := findClass_of_methodNamed B.named
  have hlocks := B.notSynchronized
  have S : zS p m c cX6_lengthOf 2 s ([.ref (ad 6 o 0), .int x1] : List Value).toArray RX6 := ⟨hx, hb, hml, hown, hts⟩
  have hS : va_S A s.heap s.heap [] := va_S.rf
  have hl := lv_entry ([.ref (ad 6 o 0), .int x1]) (n := 2) (Nat.le_of_ble_eq_true rfl)
  rw [lg_entry_eq]
  generalize (lg_sl ([.ref (ad 6 o 0), .int x1]) ++ List.replicate (2 - (lg_sl ([.ref (ad 6 o 0), .int x1])).length) Slot.unset).toArray = ls at hl ⊢
  have hl : lv_has ls 2 [(0, .ref (ad 6 o 0)), (1, .int x1)] := hl
  generalize hargs : ([.ref (ad 6 o 0), .int x1] : List Value).toArray = args at S hts ⊢
  clear hargs
  have hK0 : ∀ (H : Heap) (locs : List Loc) (ls : Array Slot), zG D aC A nl ad σ s H → va_S A s.heap H locs → lv_has ls 2 [(0, .ref (ad 6 o 0)), (1, .int x1)] → f_X6_lengthOf σ o x1 = some r → zWk p l e ({ frames := 0, cells := 0, slots := 0, locals := 0 } : Room) s m args below meth c A (some (.int r)) (fun t => zG D aC A nl ad σ t t.heap ∧ True) H locs (F0 m 0 ls []) := by
    intro H locs ls hG hS hl hf
    unfold f_X6_lengthOf at hf
    refine lv_iload_n hx hb dX6_lengthOf_0 rfl (lv_at hl 1 rfl) ?_
    refine lv_if_lt (tgt := 22) hx hb dX6_lengthOf_1 (by decide) (fun c1 => ?_) (fun c1 => ?_)
    · have hf := zif_p c1 hf
      refine lv_iconst (v := 0) hx hb dX6_lengthOf_22 (by decide) ?_
      have hq := (Option.some.inj hf)
      subst hq
      exact z_iret S hG hS hlocks trivial hr dX6_lengthOf_23
    · have hf := zif_n c1 hf
      refine lv_iload_n hx hb dX6_lengthOf_4 rfl (lv_at hl 1 rfl) ?_
      refine lv_aload_n hx hb dX6_lengthOf_5 rfl (lv_at hl 0 rfl) ?_
      refine z_get (c0 := 6) (i0 := o) (k0 := 2) (T := TX6) (v := .ref (ad 6 o 3)) S hG h_o rfl inlX6 (by decide) rfl zw_213 rfl dX6_lengthOf_6 ?_
      refine z_alen (c0 := 6) (i0 := o) (k0 := 2) (n := 4) (v := 7) S hG h_o (by decide) rfl (by decide) (by rfl) dX6_lengthOf_9 ?_
      refine lv_icmp_ge (tgt := 22) hx hb dX6_lengthOf_10 (by decide) (fun c2 => ?_) (fun c2 => ?_)
      · have hf := zif_p c2 hf
        refine lv_iconst (v := 0) hx hb dX6_lengthOf_22 (by decide) ?_
        have hq := (Option.some.inj hf)
        subst hq
        exact z_iret S hG hS hlocks trivial hr dX6_lengthOf_23
      · have hf := zif_n c2 hf
        refine lv_aload_n hx hb dX6_lengthOf_13 rfl (lv_at hl 0 rfl) ?_
        refine z_get (c0 := 6) (i0 := o) (k0 := 2) (T := TX6) (v := .ref (ad 6 o 3)) S hG h_o rfl inlX6 (by decide) rfl zw_213 rfl dX6_lengthOf_14 ?_
        refine lv_iload_n hx hb dX6_lengthOf_17 rfl (lv_at hl 1 rfl) ?_
        obtain ⟨i3, hi3, hf⟩ := zbi hf
        refine z_iald (c0 := 6) (i0 := o) (k0 := 2) S hG h_o (by decide) rfl hi3 dX6_lengthOf_18 ?_
        refine lv_goto (tgt := 23) hx hb dX6_lengthOf_19 (by decide) ?_
        have hq := (Option.some.inj hf)
        subst hq
        exact z_iret S hG hS hlocks trivial hr dX6_lengthOf_23
  exact hK0 _ _ ls hG hS hl hf
set_option maxRecDepth 100000 in
set_option maxHeartbeats 4000000 in
theorem c_X6_markAt (l : Launch) (D : va_G) (aC : Nat → ClassId) (zs : Nat × Nat) (A : Nat → Prop) (nl : zNL) (ad : Nat → Nat → Nat → Nat) (σ : zM) (o : Nat) (x1 : Int32) (x2 : Int32) (r : Int32) (h_o : zin nl 6 o) (hf : f_X6_markAt σ o x1 x2 = some r) : Met l yX6_markAt (Cond.code yX6_markAt cX6_markAt 4 (some .int) :: wsL_law) ({ frames := 0, cells := 0, slots := 0, locals := 0 } : Room) (zP D aC zs zfX A nl ad σ [.ref (ad 6 o 0), .int x1, .int x2]) (zQ (some (.int r)) (fun t => zG D aC A nl ad σ t t.heap ∧ True) A) 0 0 A := by
  refine Met.ofW (cc := cX6_markAt) (maxL := 4) (ret := (some .int)) (by decide) rfl ?_
  intro p e s m args below meth c s₁ B hml hv
  obtain ⟨rfl, hG, hZ⟩ := hv
  have hx := B.exec
  have hb := B.bytes
  have hr := B.returns
  have hts : ∀ w ∈ wsL_law, w.before ([.ref (ad 6 o 0), .int x1, .int x2] : List Value).toArray s = true := fun w h => (atoms_spec B.pre) w (List.mem_cons_of_mem _ h)
  have hown : s.vm.findClass RX6 = some m.cls := findClass_of_methodNamed B.named
  have hlocks := B.notSynchronized
  have S : zS p m c cX6_markAt 4 s ([.ref (ad 6 o 0), .int x1, .int x2] : List Value).toArray RX6 := ⟨hx, hb, hml, hown, hts⟩
  have hS : va_S A s.heap s.heap [] := va_S.rf
  have hl := lv_entry ([.ref (ad 6 o 0), .int x1, .int x2]) (n := 4) (Nat.le_of_ble_eq_true rfl)
  rw [lg_entry_eq]
  generalize (lg_sl ([.ref (ad 6 o 0), .int x1, .int x2]) ++ List.replicate (4 - (lg_sl ([.ref (ad 6 o 0), .int x1, .int x2])).length) Slot.unset).toArray = ls at hl ⊢
  have hl : lv_has ls 4 [(0, .ref (ad 6 o 0)), (1, .int x1), (2, .int x2)] := hl
  generalize hargs : ([.ref (ad 6 o 0), .int x1, .int x2] : List Value).toArray = args at S hts ⊢
  clear hargs
  have hK0 : ∀ (H : Heap) (locs : List Loc) (ls : Array Slot), zG D aC A nl ad σ s H → va_S A s.heap H locs → lv_has ls 4 [(0, .ref (ad 6 o 0)), (1, .int x1), (2, .int x2)] → f_X6_markAt σ o x1 x2 = some r → zWk p l e ({ frames := 0, cells := 0, slots := 0, locals := 0 } : Room) s m args below meth c A (some (.int r)) (fun t => zG D aC A nl ad σ t t.heap ∧ True) H locs (F0 m 0 ls []) := by
    intro H locs ls hG hS hl hf
    unfold f_X6_markAt at hf
    refine lv_iload_n hx hb dX6_markAt_0 rfl (lv_at hl 1 rfl) ?_
    refine lv_bipush (v := 10) hx hb dX6_markAt_1 (by decide) ?_
    refine lv_imul hx hb dX6_markAt_3 ?_
    refine lv_iload_n hx hb dX6_markAt_4 rfl (lv_at hl 2 rfl) ?_
    refine lv_iadd hx hb dX6_markAt_5 ?_
    refine lv_istore_n (lv' := [(3, .int ((x1 * 10) + x2)), (0, .ref (ad 6 o 0)), (1, .int x1), (2, .int x2)]) hx hb dX6_markAt_6 rfl hl (by decide) rfl (fun ls hl => ?_)
    refine lv_iload_n hx hb dX6_markAt_7 rfl (lv_at hl 0 rfl) ?_
    refine lv_if_lt (tgt := 29) hx hb dX6_markAt_8 (by decide) (fun c1 => ?_) (fun c1 => ?_)
    · have hf := zif_p c1 hf
      refine lv_iconst (v := (-1)) hx hb dX6_markAt_29 (by decide) ?_
      have hq := (Option.some.inj hf)
      subst hq
      exact z_iret S hG hS hlocks trivial hr dX6_markAt_30
    · have hf := zif_n c1 hf
      refine lv_iload_n hx hb dX6_markAt_11 rfl (lv_at hl 0 rfl) ?_
      refine lv_aload_n hx hb dX6_markAt_12 rfl (lv_at hl 1 rfl) ?_
      refine z_get (c0 := 6) (i0 := o) (k0 := 1) (T := TX6) (v := .ref (ad 6 o 2)) S hG h_o rfl inlX6 (by decide) rfl zw_212 rfl dX6_markAt_13 ?_
      refine z_alen (c0 := 6) (i0 := o) (k0 := 1) (n := 4) (v := 70) S hG h_o (by decide) rfl (by decide) (by rfl) dX6_markAt_16 ?_
      refine lv_icmp_ge (tgt := 29) hx hb dX6_markAt_17 (by decide) (fun c2 => ?_) (fun c2 => ?_)
      · have hf := zif_p c2 hf
        refine lv_iconst (v := (-1)) hx hb dX6_markAt_29 (by decide) ?_
        have hq := (Option.some.inj hf)
        subst hq
        exact z_iret S hG hS hlocks trivial hr dX6_markAt_30
      · have hf := zif_n c2 hf
        refine lv_aload_n hx hb dX6_markAt_20 rfl (lv_at hl 1 rfl) ?_
        refine z_get (c0 := 6) (i0 := o) (k0 := 1) (T := TX6) (v := .ref (ad 6 o 2)) S hG h_o rfl inlX6 (by decide) rfl zw_212 rfl dX6_markAt_21 ?_
        refine lv_iload_n hx hb dX6_markAt_24 rfl (lv_at hl 0 rfl) ?_
        obtain ⟨i3, hi3, hf⟩ := zbi hf
        refine z_iald (c0 := 6) (i0 := o) (k0 := 1) S hG h_o (by decide) rfl hi3 dX6_markAt_25 ?_
        refine lv_goto (tgt := 30) hx hb dX6_markAt_26 (by decide) ?_
        have hq := (Option.some.inj hf)
        subst hq
        exact z_iret S hG hS hlocks trivial hr dX6_markAt_30
  exact hK0 _ _ ls hG hS hl hf
set_option maxRecDepth 100000 in
set_option maxHeartbeats 4000000 in
theorem c_X6_isBiased (l : Launch) (D : va_G) (aC : Nat → ClassId) (zs : Nat × Nat) (A : Nat → Prop) (nl : zNL) (ad : Nat → Nat → Nat → Nat) (σ : zM) (o : Nat) (x1 : Int32) (x4 : Int32) (r : Int32) (h_o : zin nl 6 o) (hf : f_X6_isBiased σ o x1 x4 = some r) : Met l yX6_isBiased (Cond.code yX6_isBiased cX6_isBiased 8 (some .boolean) :: wsL_law) ({ frames := 1, cells := 0, slots := 0, locals := 24 } : Room) (zP D aC zs zfX A nl ad σ [.ref (ad 6 o 0), .int x1, .ref (ad 2 0 0), .ref (ad 11 0 8), .int x4]) (zQ (some (.int r)) (fun t => zG D aC A nl ad σ t t.heap ∧ (r = 0 ∨ r = 1)) A) 0 0 A := by
  refine Met.ofW (cc := cX6_isBiased) (maxL := 8) (ret := (some .boolean)) (by decide) rfl ?_
  intro p e s m args below meth c s₁ B hml hv
  obtain ⟨rfl, hG, hZ⟩ := hv
  have hx := B.exec
  have hb := B.bytes
  have hr := B.returns
  have hts : ∀ w ∈ wsL_law, w.before ([.ref (ad 6 o 0), .int x1, .ref (ad 2 0 0), .ref (ad 11 0 8), .int x4] : List Value).toArray s = true := fun w h => (atoms_spec B.pre) w (List.mem_cons_of_mem _ h)
  have hown : s.vm.findClass RX6 = some m.cls := findClass_of_methodNamed B.named
  have hlocks := B.notSynchronized
  have S : zS p m c cX6_isBiased 8 s ([.ref (ad 6 o 0), .int x1, .ref (ad 2 0 0), .ref (ad 11 0 8), .int x4] : List Value).toArray RX6 := ⟨hx, hb, hml, hown, hts⟩
  have hS : va_S A s.heap s.heap [] := va_S.rf
  have hl := lv_entry ([.ref (ad 6 o 0), .int x1, .ref (ad 2 0 0), .ref (ad 11 0 8), .int x4]) (n := 8) (Nat.le_of_ble_eq_true rfl)
  rw [lg_entry_eq]
  generalize (lg_sl ([.ref (ad 6 o 0), .int x1, .ref (ad 2 0 0), .ref (ad 11 0 8), .int x4]) ++ List.replicate (8 - (lg_sl ([.ref (ad 6 o 0), .int x1, .ref (ad 2 0 0), .ref (ad 11 0 8), .int x4])).length) Slot.unset).toArray = ls at hl ⊢
  have hl : lv_has ls 8 [(0, .ref (ad 6 o 0)), (1, .int x1), (2, .ref (ad 2 0 0)), (3, .ref (ad 11 0 8)), (4, .int x4)] := hl
  generalize hargs : ([.ref (ad 6 o 0), .int x1, .ref (ad 2 0 0), .ref (ad 11 0 8), .int x4] : List Value).toArray = args at S hts ⊢
  clear hargs
  have hK0 : ∀ (H : Heap) (locs : List Loc) (ls : Array Slot), zG D aC A nl ad σ s H → va_S A s.heap H locs → lv_has ls 8 [(0, .ref (ad 6 o 0)), (1, .int x1), (2, .ref (ad 2 0 0)), (3, .ref (ad 11 0 8)), (4, .int x4)] → f_X6_isBiased σ o x1 x4 = some r → zWk p l e ({ frames := 1, cells := 0, slots := 0, locals := 24 } : Room) s m args below meth c A (some (.int r)) (fun t => zG D aC A nl ad σ t t.heap ∧ (r = 0 ∨ r = 1)) H locs (F0 m 0 ls []) := by
    intro H locs ls hG hS hl hf
    unfold f_X6_isBiased at hf
    refine lv_iconst (v := 0) hx hb dX6_isBiased_0 (by decide) ?_
    refine lv_istore (lv' := [(5, .int 0), (0, .ref (ad 6 o 0)), (1, .int x1), (2, .ref (ad 2 0 0)), (3, .ref (ad 11 0 8)), (4, .int x4)]) hx hb dX6_isBiased_1 hl (by decide) rfl (fun ls hl => ?_)
    obtain ⟨t3, hw3, hfo3⟩ := zbi hf
    have KL3 : ∀ (n : Nat) (y5l3 : Int32) (H : Heap) (locs : List Loc) (ls : Array Slot), zG D aC A nl ad σ s H → va_S A s.heap H locs → lv_has ls 8 [(0, .ref (ad 6 o 0)), (1, .int x1), (2, .ref (ad 2 0 0)), (3, .ref (ad 11 0 8)), (4, .int x4), (5, .int y5l3)] → zwh (fun (q : Int32) => f_X6_isBiased_L3 σ o x1 x4 q) n y5l3 = some t3 → zWk p l e ({ frames := 1, cells := 0, slots := 0, locals := 24 } : Room) s m args below meth c A (some (.int r)) (fun t => zG D aC A nl ad σ t t.heap ∧ (r = 0 ∨ r = 1)) H locs (F0 m 3 ls []) := by
      intro n
      induction n with
      | zero =>
        intro y5l3 H locs ls hG hS hl hw
        exact (zwh_0 hw).elim
      | succ n ih3 =>
        intro y5l3 H locs ls hG hS hl hw
        obtain ⟨rr3, hf, hk3⟩ := zwh_u hw
        have hf : f_X6_isBiased_L3 σ o x1 x4 y5l3 = some rr3 := hf
        unfold f_X6_isBiased_L3 at hf
        have KJ75_3 : ∀ (y5b75 : Int32)   (H : Heap) (locs : List Loc) (ls : Array Slot), zG D aC A nl ad σ s H → va_S A s.heap H locs → lv_has ls 8 [(0, .ref (ad 6 o 0)), (1, .int x1), (2, .ref (ad 2 0 0)), (3, .ref (ad 11 0 8)), (4, .int x4), (5, .int y5b75)] → (f_X6_isBiased_B75_3 σ o x1 x4 y5b75) = some rr3 → zWk p l e ({ frames := 1, cells := 0, slots := 0, locals := 24 } : Room) s m args below meth c A (some (.int r)) (fun t => zG D aC A nl ad σ t t.heap ∧ (r = 0 ∨ r = 1)) H locs (F0 m 75 ls []) := by
          intro y5b75   H locs ls hG hS hl hf
          unfold f_X6_isBiased_B75_3 at hf
          refine lv_iinc (v := (y5b75 + 1)) (lv' := [(5, .int (y5b75 + 1)), (0, .ref (ad 6 o 0)), (1, .int x1), (2, .ref (ad 2 0 0)), (3, .ref (ad 11 0 8)), (4, .int x4)]) hx hb dX6_isBiased_75 hl (k := 5) rfl rfl (by decide) rfl (fun ls hl => ?_)
          refine lv_goto (tgt := 3) hx hb dX6_isBiased_78 (by decide) ?_
          cases hf
          exact ih3 (y5b75 + 1) H locs ls hG hS (lv_sub hl [1, 2, 3, 4, 5, 0] rfl) hk3
        have KJ42_3 : ∀ (y5b42 : Int32) (y6b42 : Int32) (t0b42 : Option Nat) (h_t0b42 : ∀ j, t0b42 = some j → zin nl 7 j)  (H : Heap) (locs : List Loc) (ls : Array Slot), zG D aC A nl ad σ s H → va_S A s.heap H locs → lv_has ls 8 [(0, .ref (ad 6 o 0)), (1, .int x1), (2, .ref (ad 2 0 0)), (3, .ref (ad 11 0 8)), (4, .int x4), (5, .int y5b42), (6, .int y6b42)] → (f_X6_isBiased_B42_3 σ o x1 x4 y5b42 y6b42 t0b42) = some rr3 → zWk p l e ({ frames := 1, cells := 0, slots := 0, locals := 24 } : Room) s m args below meth c A (some (.int r)) (fun t => zG D aC A nl ad σ t t.heap ∧ (r = 0 ∨ r = 1)) H locs (F0 m 42 ls [va_rf (Option.map (fun j => ad 7 j 0) t0b42)]) := by
          intro y5b42 y6b42 t0b42 h_t0b42  H locs ls hG hS hl hf
          unfold f_X6_isBiased_B42_3 at hf
          rcases t0b42 with _ | j25
          · have hf := znu_n hf
            have hl : lv_has ls 8 [(0, .ref (ad 6 o 0)), (1, .int x1), (2, .ref (ad 2 0 0)), (3, .ref (ad 11 0 8)), (4, .int x4), (5, .int y5b42), (6, .int y6b42)] := hl
            refine W.eq (g2 := F0 m 42 ls [.null]) (by rfl) ?_
            refine lv_astoreN (lv' := [(7, .null), (0, .ref (ad 6 o 0)), (1, .int x1), (2, .ref (ad 2 0 0)), (3, .ref (ad 11 0 8)), (4, .int x4), (5, .int y5b42), (6, .int y6b42)]) hx hb dX6_isBiased_42 hl (by decide) rfl (fun ls hl => ?_)
            refine lv_aloadN hx hb dX6_isBiased_44 (lv_at hl 0 rfl) ?_
            refine lv_ifnullN (tgt := 75) hx hb dX6_isBiased_46 (by decide) ?_
            exact KJ75_3 y5b42 H locs ls hG hS (lv_sub hl [1, 2, 3, 4, 5, 6] rfl) hf
          · have hf := znu_s hf
            have hl : lv_has ls 8 [(0, .ref (ad 6 o 0)), (1, .int x1), (2, .ref (ad 2 0 0)), (3, .ref (ad 11 0 8)), (4, .int x4), (5, .int y5b42), (6, .int y6b42)] := hl
            refine W.eq (g2 := F0 m 42 ls [.ref (ad 7 j25 0)]) (by rfl) ?_
            refine lv_astore (lv' := [(7, .ref (ad 7 j25 0)), (0, .ref (ad 6 o 0)), (1, .int x1), (2, .ref (ad 2 0 0)), (3, .ref (ad 11 0 8)), (4, .int x4), (5, .int y5b42), (6, .int y6b42)]) hx hb dX6_isBiased_42 hl (by decide) rfl (fun ls hl => ?_)
            refine lv_aload hx hb dX6_isBiased_44 (lv_at hl 0 rfl) ?_
            refine lv_ifnull hx hb dX6_isBiased_46 ?_
            refine lv_aload_n hx hb dX6_isBiased_49 rfl (lv_at hl 1 rfl) ?_
            refine lv_iload hx hb dX6_isBiased_50 (lv_at hl 7 rfl) ?_
            obtain ⟨r26, er26, hf⟩ := zbi hf
            refine z_callV (n := 1) (rest := []) (st1 := [.int r26]) (c0 := 6) (i0 := o) h_o (by rfl) S hG hS hZ (fun _ _ h => h) (c_X6_has l D aC zs A nl ad σ o y6b42 r26 h_o er26) zw_1250 zw_1251 zw_1252 zw_45 zw_1253 (by decide +kernel) ⟨rfl, rfl⟩ ⟨(Nat.le_of_ble_eq_true rfl), (Nat.le_of_ble_eq_true rfl)⟩ hl.1 rfl (by rfl) (by rfl) (Nat.le_of_ble_eq_true rfl) dX6_isBiased_52 ⟨Nat.zero_le _, Nat.zero_le _⟩ (fun H locs hz27 hG hS => ?_)
            refine lv_if_eq (tgt := 75) hx hb dX6_isBiased_55 (by decide) (fun c28 => ?_) (fun c28 => ?_)
            · have hf := zif_p c28 hf
              exact KJ75_3 y5b42 H locs ls hG hS (lv_sub hl [1, 2, 3, 4, 5, 6] rfl) hf
            · have hf := zif_n c28 hf
              refine lv_aload_n hx hb dX6_isBiased_58 rfl (lv_at hl 3 rfl) ?_
              refine lv_iload_n hx hb dX6_isBiased_59 rfl (lv_at hl 2 rfl) ?_
              refine lv_aload hx hb dX6_isBiased_60 (lv_at hl 0 rfl) ?_
              refine z_get (c0 := 7) (i0 := j25) (k0 := 0) (T := TX7) (v := .int (zI σ 7 j25 0)) S hG (h_t0b42 j25 rfl) rfl inlX7 (by decide) rfl zw_1241 rfl dX6_isBiased_62 ?_
              refine lv_iload hx hb dX6_isBiased_65 (lv_at hl 5 rfl) ?_
              obtain ⟨r29, er29, hf⟩ := zbi hf
              refine z_callV (n := 3) (rest := []) (st1 := [.int r29]) (c0 := 2) (i0 := 0) (hZ.2.1 (2, 0) (by decide)) (by rfl) S hG hS hZ (fun _ _ h => h) (c_X2_knowsBy l D aC zs A nl ad σ x1 (zI σ 7 j25 0) x4 r29 er29) zw_1254 zw_1255 zw_1256 zw_39 zw_1257 (by decide +kernel) ⟨rfl, rfl⟩ ⟨(Nat.le_of_ble_eq_true rfl), (Nat.le_of_ble_eq_true rfl)⟩ hl.1 rfl (by rfl) (by rfl) (Nat.le_of_ble_eq_true rfl) dX6_isBiased_67 ⟨Nat.zero_le _, Nat.zero_le _⟩ (fun H locs hz30 hG hS => ?_)
              refine lv_if_eq (tgt := 75) hx hb dX6_isBiased_70 (by decide) (fun c31 => ?_) (fun c31 => ?_)
              · have hf := zif_p c31 hf
                exact KJ75_3 y5b42 H locs ls hG hS (lv_sub hl [1, 2, 3, 4, 5, 6] rfl) hf
              · have hf := zif_n c31 hf
                cases hf
                have hk3 : ((.inl ()) : (Unit ⊕ Unit)) = t3 := hk3
                have hf := hfo3
                rw [← hk3] at hf
                have hf : (some 1) = some r := hf
                refine lv_iconst (v := 1) hx hb dX6_isBiased_73 (by decide) ?_
                have hq := (Option.some.inj hf)
                subst hq
                exact z_zret S hG hS hlocks (Or.inr rfl) hr dX6_isBiased_74
        have KJ41_3 : ∀ (y5b41 : Int32) (y6b41 : Int32)   (H : Heap) (locs : List Loc) (ls : Array Slot), zG D aC A nl ad σ s H → va_S A s.heap H locs → lv_has ls 8 [(0, .ref (ad 6 o 0)), (1, .int x1), (2, .ref (ad 2 0 0)), (3, .ref (ad 11 0 8)), (4, .int x4), (5, .int y5b41), (6, .int y6b41)] → (f_X6_isBiased_B41_3 σ o x1 x4 y5b41 y6b41) = some rr3 → zWk p l e ({ frames := 1, cells := 0, slots := 0, locals := 24 } : Room) s m args below meth c A (some (.int r)) (fun t => zG D aC A nl ad σ t t.heap ∧ (r = 0 ∨ r = 1)) H locs (F0 m 41 ls []) := by
          intro y5b41 y6b41   H locs ls hG hS hl hf
          unfold f_X6_isBiased_B41_3 at hf
          refine lv_null hx hb dX6_isBiased_41 ?_
          refine W.eq (g2 := F0 m 42 ls [va_rf (Option.map (fun j => ad 7 j 0) none)]) (by rfl) ?_
          exact KJ42_3 y5b41 y6b41 none (fun _ h => by cases h) H locs ls hG hS (lv_sub hl [0, 1, 2, 3, 4, 5, 6] rfl) hf
        refine lv_iload hx hb dX6_isBiased_3 (lv_at hl 5 rfl) ?_
        refine lv_aload_n hx hb dX6_isBiased_5 rfl (lv_at hl 0 rfl) ?_
        refine lv_iload_n hx hb dX6_isBiased_6 rfl (lv_at hl 1 rfl) ?_
        obtain ⟨r19, er19, hf⟩ := zbi hf
        refine z_callV (n := 1) (rest := [.int y5l3]) (st1 := [.int r19, .int y5l3]) (c0 := 6) (i0 := o) h_o (by rfl) S hG hS hZ (fun _ _ h => h) (c_X6_lengthOf l D aC zs A nl ad σ o x1 r19 h_o er19) zw_1242 zw_1243 zw_1244 zw_45 zw_1245 (by decide +kernel) ⟨rfl, rfl⟩ ⟨(Nat.le_of_ble_eq_true rfl), (Nat.le_of_ble_eq_true rfl)⟩ hl.1 rfl (by rfl) (by rfl) (Nat.le_of_ble_eq_true rfl) dX6_isBiased_7 ⟨Nat.zero_le _, Nat.zero_le _⟩ (fun H locs hz20 hG hS => ?_)
        refine lv_icmp_ge (tgt := 81) hx hb dX6_isBiased_10 (by decide) (fun c21 => ?_) (fun c21 => ?_)
        · have hf := zif_p c21 hf
          cases hf
          have hk3 : ((.inr ()) : (Unit ⊕ Unit)) = t3 := hk3
          have hf := hfo3
          rw [← hk3] at hf
          have hf : (some 0) = some r := hf
          refine lv_iconst (v := 0) hx hb dX6_isBiased_81 (by decide) ?_
          have hq := (Option.some.inj hf)
          subst hq
          exact z_zret S hG hS hlocks (Or.inl rfl) hr dX6_isBiased_82
        · have hf := zif_n c21 hf
          refine lv_aload_n hx hb dX6_isBiased_13 rfl (lv_at hl 0 rfl) ?_
          refine lv_iload_n hx hb dX6_isBiased_14 rfl (lv_at hl 1 rfl) ?_
          refine lv_iload hx hb dX6_isBiased_15 (lv_at hl 5 rfl) ?_
          obtain ⟨r22, er22, hf⟩ := zbi hf
          refine z_callV (n := 2) (rest := []) (st1 := [.int r22]) (c0 := 6) (i0 := o) h_o (by rfl) S hG hS hZ (fun _ _ h => h) (c_X6_markAt l D aC zs A nl ad σ o x1 y5l3 r22 h_o er22) zw_1246 zw_1247 zw_1248 zw_45 zw_1249 (by decide +kernel) ⟨rfl, rfl⟩ ⟨(Nat.le_of_ble_eq_true rfl), (Nat.le_of_ble_eq_true rfl)⟩ hl.1 rfl (by rfl) (by rfl) (Nat.le_of_ble_eq_true rfl) dX6_isBiased_17 ⟨Nat.zero_le _, Nat.zero_le _⟩ (fun H locs hz23 hG hS => ?_)
          refine lv_istore (lv' := [(6, .int r22), (0, .ref (ad 6 o 0)), (1, .int x1), (2, .ref (ad 2 0 0)), (3, .ref (ad 11 0 8)), (4, .int x4), (5, .int y5l3)]) hx hb dX6_isBiased_20 hl (by decide) rfl (fun ls hl => ?_)
          refine lv_iload hx hb dX6_isBiased_22 (lv_at hl 0 rfl) ?_
          refine lv_if_lt (tgt := 41) hx hb dX6_isBiased_24 (by decide) (fun c24 => ?_) (fun c24 => ?_)
          · have hf := zif_p c24 hf
            exact KJ41_3 y5l3 r22 H locs ls hG hS (lv_sub hl [1, 2, 3, 4, 5, 6, 0] rfl) hf
          · have hf := zif_n c24 hf
            refine lv_iload hx hb dX6_isBiased_27 (lv_at hl 0 rfl) ?_
            refine lv_aload_n hx hb dX6_isBiased_29 rfl (lv_at hl 4 rfl) ?_
            refine z_alen (c0 := 11) (i0 := 0) (k0 := 7) (n := 8) (v := 10) S hG (hZ.2.1 (11, 0) (by decide)) (by decide) rfl (by decide) (by rfl) dX6_isBiased_30 ?_
            refine lv_icmp_ge (tgt := 41) hx hb dX6_isBiased_31 (by decide) (fun c32 => ?_) (fun c32 => ?_)
            · have hf := zif_p c32 hf
              exact KJ41_3 y5l3 r22 H locs ls hG hS (lv_sub hl [1, 2, 3, 4, 5, 6, 0] rfl) hf
            · have hf := zif_n c32 hf
              refine lv_aload_n hx hb dX6_isBiased_34 rfl (lv_at hl 4 rfl) ?_
              refine lv_iload hx hb dX6_isBiased_35 (lv_at hl 0 rfl) ?_
              obtain ⟨i33, hi33, hf⟩ := zbi hf
              refine z_aald8 (c0 := 11) (i0 := 0) (k0 := 7) S hG (hZ.2.1 (11, 0) (by decide)) (by decide) rfl hi33 dX6_isBiased_37 (fun hz34 => ?_)
              rcases hE36 : (zO σ 11 0 7 i33) with _ | j35
              · have hf := znu_n0 hE36 hf
                refine W.eq (g2 := F0 m 38 ls [.null]) (by first | rfl | (rw [hE36]; rfl)) ?_
                refine lv_goto (tgt := 42) hx hb dX6_isBiased_38 (by decide) ?_
                refine W.eq (g2 := F0 m 42 ls [va_rf (Option.map (fun j => ad 7 j 0) none)]) (by rfl) ?_
                exact KJ42_3 y5l3 r22 none (fun _ h => by cases h) H locs ls hG hS (lv_sub hl [1, 2, 3, 4, 5, 6, 0] rfl) hf
              · have hf := znu_s0 hE36 hf
                refine W.eq (g2 := F0 m 38 ls [.ref (ad 7 j35 0)]) (by first | rfl | (rw [hE36]; rfl)) ?_
                refine lv_goto (tgt := 42) hx hb dX6_isBiased_38 (by decide) ?_
                refine W.eq (g2 := F0 m 42 ls [va_rf (Option.map (fun j => ad 7 j 0) (some j35))]) (by rfl) ?_
                exact KJ42_3 y5l3 r22 (some j35) (fun _ h => by cases h; exact (hz34 j35 hE36)) H locs ls hG hS (lv_sub hl [1, 2, 3, 4, 5, 6, 0] rfl) hf
    exact KL3 zFu 0 H locs ls hG hS (lv_sub hl [1, 2, 3, 4, 5, 0] rfl) hw3
  exact hK0 _ _ ls hG hS hl hf
set_option maxRecDepth 100000 in
set_option maxHeartbeats 4000000 in
theorem c_X6_weighVoices (l : Launch) (D : va_G) (aC : Nat → ClassId) (zs : Nat × Nat) (A : Nat → Prop) (nl : zNL) (ad : Nat → Nat → Nat → Nat) (σ : zM) (o : Nat) (x3 : Int32)  (σ' : zM) (h_o : zin nl 6 o) (hf : f_X6_weighVoices σ o x3 = some σ') : Met l yX6_weighVoices (Cond.code yX6_weighVoices cX6_weighVoices 5 none :: wsL_law) ({ frames := 2, cells := 0, slots := 0, locals := 51 } : Room) (zP D aC zs zfX A nl ad σ [.ref (ad 6 o 0), .ref (ad 2 0 0), .ref (ad 11 0 8), .int x3]) (zQ none (fun t => zG D aC A nl ad σ' t t.heap ∧ True) A) 0 0 A := by
  refine Met.ofW (cc := cX6_weighVoices) (maxL := 5) (ret := none) (by decide) rfl ?_
  intro p e s m args below meth c s₁ B hml hv
  obtain ⟨rfl, hG, hZ⟩ := hv
  have hx := B.exec
  have hb := B.bytes
  have hr := B.returns
  have hts : ∀ w ∈ wsL_law, w.before ([.ref (ad 6 o 0), .ref (ad 2 0 0), .ref (ad 11 0 8), .int x3] : List Value).toArray s = true := fun w h => (atoms_spec B.pre) w (List.mem_cons_of_mem _ h)
  have hown : s.vm.findClass RX6 = some m.cls := findClass_of_methodNamed B.named
  have hlocks := B.notSynchronized
  have S : zS p m c cX6_weighVoices 5 s ([.ref (ad 6 o 0), .ref (ad 2 0 0), .ref (ad 11 0 8), .int x3] : List Value).toArray RX6 := ⟨hx, hb, hml, hown, hts⟩
  have hS : va_S A s.heap s.heap [] := va_S.rf
  have hl := lv_entry ([.ref (ad 6 o 0), .ref (ad 2 0 0), .ref (ad 11 0 8), .int x3]) (n := 5) (Nat.le_of_ble_eq_true rfl)
  rw [lg_entry_eq]
  generalize (lg_sl ([.ref (ad 6 o 0), .ref (ad 2 0 0), .ref (ad 11 0 8), .int x3]) ++ List.replicate (5 - (lg_sl ([.ref (ad 6 o 0), .ref (ad 2 0 0), .ref (ad 11 0 8), .int x3])).length) Slot.unset).toArray = ls at hl ⊢
  have hl : lv_has ls 5 [(0, .ref (ad 6 o 0)), (1, .ref (ad 2 0 0)), (2, .ref (ad 11 0 8)), (3, .int x3)] := hl
  generalize hargs : ([.ref (ad 6 o 0), .ref (ad 2 0 0), .ref (ad 11 0 8), .int x3] : List Value).toArray = args at S hts ⊢
  clear hargs
  have hK0 : ∀ (H : Heap) (locs : List Loc) (ls : Array Slot), zG D aC A nl ad σ s H → va_S A s.heap H locs → lv_has ls 5 [(0, .ref (ad 6 o 0)), (1, .ref (ad 2 0 0)), (2, .ref (ad 11 0 8)), (3, .int x3)] → f_X6_weighVoices σ o x3 = some σ' → zWk p l e ({ frames := 2, cells := 0, slots := 0, locals := 51 } : Room) s m args below meth c A none (fun t => zG D aC A nl ad σ' t t.heap ∧ True) H locs (F0 m 0 ls []) := by
    intro H locs ls hG hS hl hf
    unfold f_X6_weighVoices at hf
    refine lv_iconst (v := 0) hx hb dX6_weighVoices_0 (by decide) ?_
    refine lv_istore (lv' := [(4, .int 0), (0, .ref (ad 6 o 0)), (1, .ref (ad 2 0 0)), (2, .ref (ad 11 0 8)), (3, .int x3)]) hx hb dX6_weighVoices_1 hl (by decide) rfl (fun ls hl => ?_)
    obtain ⟨t3, hw3, hfo3⟩ := zbi hf
    have KL3 : ∀ (n : Nat) (y4l3 : Int32) (σl3 : zM) (H : Heap) (locs : List Loc) (ls : Array Slot), zG D aC A nl ad σl3 s H → va_S A s.heap H locs → lv_has ls 5 [(0, .ref (ad 6 o 0)), (1, .ref (ad 2 0 0)), (2, .ref (ad 11 0 8)), (3, .int x3), (4, .int y4l3)] → zwh (fun (q : (Int32 × zM)) => f_X6_weighVoices_L3 o x3 q.1 q.2) n (y4l3, σl3) = some t3 → zWk p l e ({ frames := 2, cells := 0, slots := 0, locals := 51 } : Room) s m args below meth c A none (fun t => zG D aC A nl ad σ' t t.heap ∧ True) H locs (F0 m 3 ls []) := by
      intro n
      induction n with
      | zero =>
        intro y4l3 σl3 H locs ls hG hS hl hw
        exact (zwh_0 hw).elim
      | succ n ih3 =>
        intro y4l3 σl3 H locs ls hG hS hl hw
        obtain ⟨rr3, hf, hk3⟩ := zwh_u hw
        have hf : f_X6_weighVoices_L3 o x3 y4l3 σl3 = some rr3 := hf
        unfold f_X6_weighVoices_L3 at hf
        have KJ45_3 : ∀ (y4b45 : Int32) (t1b45 : Int32) (t2b45 : Int32)  (σb45_3 : zM) (H : Heap) (locs : List Loc) (ls : Array Slot), zG D aC A nl ad σb45_3 s H → va_S A s.heap H locs → lv_has ls 5 [(0, .ref (ad 6 o 0)), (1, .ref (ad 2 0 0)), (2, .ref (ad 11 0 8)), (3, .int x3), (4, .int y4b45)] → (f_X6_weighVoices_B45_3 σb45_3 o x3 y4b45 t1b45 t2b45) = some rr3 → zWk p l e ({ frames := 2, cells := 0, slots := 0, locals := 51 } : Room) s m args below meth c A none (fun t => zG D aC A nl ad σ' t t.heap ∧ True) H locs (F0 m 45 ls [.int t2b45, .int t1b45, .ref (ad 6 o 4)]) := by
          intro y4b45 t1b45 t2b45  σb45_3 H locs ls hG hS hl hf
          unfold f_X6_weighVoices_B45_3 at hf
          obtain ⟨i18, hi18, hf⟩ := zbi hf
          refine z_zast (c0 := 6) (i0 := o) (k0 := 3) S hG hS h_o (by decide) rfl hi18 dX6_weighVoices_45 (fun H locs hG hS => ?_)
          obtain ⟨σ19, eσ19, hf⟩ := zlt_s hf
          rw [← eσ19] at hG
          refine lv_iinc (v := (y4b45 + 1)) (lv' := [(4, .int (y4b45 + 1)), (0, .ref (ad 6 o 0)), (1, .ref (ad 2 0 0)), (2, .ref (ad 11 0 8)), (3, .int x3)]) hx hb dX6_weighVoices_46 hl (k := 4) rfl rfl (by decide) rfl (fun ls hl => ?_)
          refine lv_goto (tgt := 3) hx hb dX6_weighVoices_49 (by decide) ?_
          cases hf
          exact ih3 (y4b45 + 1) σ19 H locs ls hG hS (lv_sub hl [1, 2, 3, 4, 0] rfl) hk3
        have KJ44_3 : ∀ (y4b44 : Int32) (t1b44 : Int32)  (σb44_3 : zM) (H : Heap) (locs : List Loc) (ls : Array Slot), zG D aC A nl ad σb44_3 s H → va_S A s.heap H locs → lv_has ls 5 [(0, .ref (ad 6 o 0)), (1, .ref (ad 2 0 0)), (2, .ref (ad 11 0 8)), (3, .int x3), (4, .int y4b44)] → (f_X6_weighVoices_B44_3 σb44_3 o x3 y4b44 t1b44) = some rr3 → zWk p l e ({ frames := 2, cells := 0, slots := 0, locals := 51 } : Room) s m args below meth c A none (fun t => zG D aC A nl ad σ' t t.heap ∧ True) H locs (F0 m 44 ls [.int t1b44, .ref (ad 6 o 4)]) := by
          intro y4b44 t1b44  σb44_3 H locs ls hG hS hl hf
          unfold f_X6_weighVoices_B44_3 at hf
          refine lv_iconst (v := 0) hx hb dX6_weighVoices_44 (by decide) ?_
          exact KJ45_3 y4b44 t1b44 0 σb44_3 H locs ls hG hS (lv_sub hl [0, 1, 2, 3, 4] rfl) hf
        refine lv_iload hx hb dX6_weighVoices_3 (lv_at hl 4 rfl) ?_
        refine lv_aload_n hx hb dX6_weighVoices_5 rfl (lv_at hl 0 rfl) ?_
        refine z_get (c0 := 6) (i0 := o) (k0 := 3) (T := TX6) (v := .ref (ad 6 o 4)) S hG h_o rfl inlX6 (by decide) rfl zw_214 rfl dX6_weighVoices_6 ?_
        refine z_alen (c0 := 6) (i0 := o) (k0 := 3) (n := 6) (v := 7) S hG h_o (by decide) rfl (by decide) (by rfl) dX6_weighVoices_9 ?_
        refine lv_icmp_ge (tgt := 52) hx hb dX6_weighVoices_10 (by decide) (fun c15 => ?_) (fun c15 => ?_)
        · have hf := zif_p c15 hf
          cases hf
          have hk3 : (σl3 : zM) = t3 := hk3
          have hf := hfo3
          rw [← hk3] at hf
          have hf : (some σl3) = some σ' := hf
          have hq := (Option.some.inj hf)
          subst hq
          exact z_vret S hG hS hlocks trivial hr dX6_weighVoices_52
        · have hf := zif_n c15 hf
          refine lv_aload_n hx hb dX6_weighVoices_13 rfl (lv_at hl 0 rfl) ?_
          refine z_get (c0 := 6) (i0 := o) (k0 := 3) (T := TX6) (v := .ref (ad 6 o 4)) S hG h_o rfl inlX6 (by decide) rfl zw_214 rfl dX6_weighVoices_14 ?_
          refine lv_iload hx hb dX6_weighVoices_17 (lv_at hl 4 rfl) ?_
          refine lv_aload_n hx hb dX6_weighVoices_19 rfl (lv_at hl 1 rfl) ?_
          refine lv_iload hx hb dX6_weighVoices_20 (lv_at hl 4 rfl) ?_
          refine z_callV (n := 1) (rest := [.int y4l3, .ref (ad 6 o 4)]) (st1 := [.int (f_X2_has σl3 y4l3), .int y4l3, .ref (ad 6 o 4)]) (c0 := 2) (i0 := 0) (hZ.2.1 (2, 0) (by decide)) (by rfl) S hG hS hZ (fun _ _ h => h) (c_X2_has l D aC zs A nl ad σl3 y4l3 (f_X2_has σl3 y4l3) rfl) zw_1236 zw_1208 zw_1209 zw_39 zw_1210 (by decide +kernel) ⟨rfl, rfl⟩ ⟨(Nat.le_of_ble_eq_true rfl), (Nat.le_of_ble_eq_true rfl)⟩ hl.1 rfl (by rfl) (by rfl) (Nat.le_of_ble_eq_true rfl) dX6_weighVoices_22 ⟨Nat.zero_le _, Nat.zero_le _⟩ (fun H locs hz16 hG hS => ?_)
          refine lv_if_eq (tgt := 44) hx hb dX6_weighVoices_25 (by decide) (fun c17 => ?_) (fun c17 => ?_)
          · have hf := zif_p c17 hf
            exact KJ44_3 y4l3 y4l3 σl3 H locs ls hG hS (lv_sub hl [0, 1, 2, 3, 4] rfl) hf
          · have hf := zif_n c17 hf
            refine lv_aload_n hx hb dX6_weighVoices_28 rfl (lv_at hl 0 rfl) ?_
            refine lv_iload hx hb dX6_weighVoices_29 (lv_at hl 4 rfl) ?_
            refine lv_aload_n hx hb dX6_weighVoices_31 rfl (lv_at hl 1 rfl) ?_
            refine lv_aload_n hx hb dX6_weighVoices_32 rfl (lv_at hl 2 rfl) ?_
            refine lv_iload_n hx hb dX6_weighVoices_33 rfl (lv_at hl 3 rfl) ?_
            obtain ⟨r20, er20, hf⟩ := zbi hf
            refine z_callV (n := 4) (rest := [.int y4l3, .ref (ad 6 o 4)]) (st1 := [.int r20, .int y4l3, .ref (ad 6 o 4)]) (c0 := 6) (i0 := o) h_o (by rfl) S hG hS hZ (fun _ _ h => h) (c_X6_isBiased l D aC zs A nl ad σl3 o y4l3 x3 r20 h_o er20) zw_1237 zw_1238 zw_1239 zw_45 zw_1240 (by decide +kernel) ⟨rfl, rfl⟩ ⟨(Nat.le_of_ble_eq_true rfl), (Nat.le_of_ble_eq_true rfl)⟩ hl.1 rfl (by rfl) (by rfl) (Nat.le_of_ble_eq_true rfl) dX6_weighVoices_34 ⟨Nat.zero_le _, Nat.zero_le _⟩ (fun H locs hz21 hG hS => ?_)
            have Kv24 : ∀ (v24 : Int32) (ls : Array Slot), lv_has ls 5 [(0, .ref (ad 6 o 0)), (1, .ref (ad 2 0 0)), (2, .ref (ad 11 0 8)), (3, .int x3), (4, .int y4l3)] → ((zix y4l3 7).bind fun i27 => zlt (zsA σl3 6 o 3 i27 (vp_nar .boolean v24)) fun σ28 => some (.inl ((y4l3 + 1), σ28))) = some rr3 → zWk p l e ({ frames := 2, cells := 0, slots := 0, locals := 51 } : Room) s m args below meth c A none (fun t => zG D aC A nl ad σ' t t.heap ∧ True) H locs (F0 m 45 ls [.int v24, .int y4l3, .ref (ad 6 o 4)]) := by
              intro v24 ls hl hf
              obtain ⟨i27, hi27, hf⟩ := zbi hf
              refine z_zast (c0 := 6) (i0 := o) (k0 := 3) S hG hS h_o (by decide) rfl hi27 dX6_weighVoices_45 (fun H locs hG hS => ?_)
              obtain ⟨σ28, eσ28, hf⟩ := zlt_s hf
              rw [← eσ28] at hG
              refine lv_iinc (v := (y4l3 + 1)) (lv' := [(4, .int (y4l3 + 1)), (0, .ref (ad 6 o 0)), (1, .ref (ad 2 0 0)), (2, .ref (ad 11 0 8)), (3, .int x3)]) hx hb dX6_weighVoices_46 hl (k := 4) rfl rfl (by decide) rfl (fun ls hl => ?_)
              refine lv_goto (tgt := 3) hx hb dX6_weighVoices_49 (by decide) ?_
              cases hf
              exact ih3 (y4l3 + 1) σ28 H locs ls hG hS (lv_sub hl [1, 2, 3, 4, 0] rfl) hk3
            refine lv_if_ne (tgt := 44) hx hb dX6_weighVoices_37 (by decide) (fun c23 => ?_) (fun c23 => ?_)
            · rw [if_neg c23] at hf
              refine lv_iconst (v := 0) hx hb dX6_weighVoices_44 (by decide) ?_
              exact Kv24 _ ls hl hf
            · rw [if_pos c23] at hf
              refine lv_iconst (v := 1) hx hb dX6_weighVoices_40 (by decide) ?_
              refine lv_goto (tgt := 45) hx hb dX6_weighVoices_41 (by decide) ?_
              exact Kv24 _ ls hl hf
    exact KL3 zFu 0 σ H locs ls hG hS (lv_sub hl [1, 2, 3, 4, 0] rfl) hw3
  exact hK0 _ _ ls hG hS hl hf
set_option maxRecDepth 100000 in
set_option maxHeartbeats 4000000 in
theorem c_X6_placeIn (l : Launch) (D : va_G) (aC : Nat → ClassId) (zs : Nat × Nat) (A : Nat → Prop) (nl : zNL) (ad : Nat → Nat → Nat → Nat) (σ : zM) (o : Nat) (x1 : Int32) (x2 : Int32) (r : Int32) (h_o : zin nl 6 o) (hf : f_X6_placeIn σ o x1 x2 = some r) : Met l yX6_placeIn (Cond.code yX6_placeIn cX6_placeIn 6 (some .int) :: wsL_law) ({ frames := 1, cells := 0, slots := 0, locals := 23 } : Room) (zP D aC zs zfX A nl ad σ [.ref (ad 6 o 0), .int x1, .int x2]) (zQ (some (.int r)) (fun t => zG D aC A nl ad σ t t.heap ∧ True) A) 0 0 A := by
  refine Met.ofW (cc := cX6_placeIn) (maxL := 6) (ret := (some .int)) (by decide) rfl ?_
  intro p e s m args below meth c s₁ B hml hv
  obtain ⟨rfl, hG, hZ⟩ := hv
  have hx := B.exec
  have hb := B.bytes
  have hr := B.returns
  have hts : ∀ w ∈ wsL_law, w.before ([.ref (ad 6 o 0), .int x1, .int x2] : List Value).toArray s = true := fun w h => (atoms_spec B.pre) w (List.mem_cons_of_mem _ h)
  have hown : s.vm.findClass RX6 = some m.cls := findClass_of_methodNamed B.named
  have hlocks := B.notSynchronized
  have S : zS p m c cX6_placeIn 6 s ([.ref (ad 6 o 0), .int x1, .int x2] : List Value).toArray RX6 := ⟨hx, hb, hml, hown, hts⟩
  have hS : va_S A s.heap s.heap [] := va_S.rf
  have hl := lv_entry ([.ref (ad 6 o 0), .int x1, .int x2]) (n := 6) (Nat.le_of_ble_eq_true rfl)
  rw [lg_entry_eq]
  generalize (lg_sl ([.ref (ad 6 o 0), .int x1, .int x2]) ++ List.replicate (6 - (lg_sl ([.ref (ad 6 o 0), .int x1, .int x2])).length) Slot.unset).toArray = ls at hl ⊢
  have hl : lv_has ls 6 [(0, .ref (ad 6 o 0)), (1, .int x1), (2, .int x2)] := hl
  generalize hargs : ([.ref (ad 6 o 0), .int x1, .int x2] : List Value).toArray = args at S hts ⊢
  clear hargs
  have KJ55 : ∀ (H : Heap) (locs : List Loc) (ls : Array Slot), zG D aC A nl ad σ s H → va_S A s.heap H locs → lv_has ls 6 [(0, .ref (ad 6 o 0)), (1, .int x1), (2, .int x2)] → (f_X6_placeIn_B55 σ o x1 x2) = some r → zWk p l e ({ frames := 1, cells := 0, slots := 0, locals := 23 } : Room) s m args below meth c A (some (.int r)) (fun t => zG D aC A nl ad σ t t.heap ∧ True) H locs (F0 m 55 ls []) := by
    intro    H locs ls hG hS hl hf
    unfold f_X6_placeIn_B55 at hf
    refine lv_aload_n hx hb dX6_placeIn_55 rfl (lv_at hl 0 rfl) ?_
    refine z_get (c0 := 6) (i0 := o) (k0 := 6) (T := TX6) (v := .int (zI σ 6 o 6)) S hG h_o rfl inlX6 (by decide) rfl zw_217 rfl dX6_placeIn_56 ?_
    have hq := (Option.some.inj hf)
    subst hq
    exact z_iret S hG hS hlocks trivial hr dX6_placeIn_59
  have hK0 : ∀ (H : Heap) (locs : List Loc) (ls : Array Slot), zG D aC A nl ad σ s H → va_S A s.heap H locs → lv_has ls 6 [(0, .ref (ad 6 o 0)), (1, .int x1), (2, .int x2)] → f_X6_placeIn σ o x1 x2 = some r → zWk p l e ({ frames := 1, cells := 0, slots := 0, locals := 23 } : Room) s m args below meth c A (some (.int r)) (fun t => zG D aC A nl ad σ t t.heap ∧ True) H locs (F0 m 0 ls []) := by
    intro H locs ls hG hS hl hf
    unfold f_X6_placeIn at hf
    refine lv_iconst (v := 0) hx hb dX6_placeIn_0 (by decide) ?_
    refine lv_istore_n (lv' := [(3, .int 0), (0, .ref (ad 6 o 0)), (1, .int x1), (2, .int x2)]) hx hb dX6_placeIn_1 rfl hl (by decide) rfl (fun ls hl => ?_)
    refine lv_iconst (v := 0) hx hb dX6_placeIn_2 (by decide) ?_
    refine lv_istore (lv' := [(4, .int 0), (3, .int 0), (0, .ref (ad 6 o 0)), (1, .int x1), (2, .int x2)]) hx hb dX6_placeIn_3 hl (by decide) rfl (fun ls hl => ?_)
    obtain ⟨t5, hw5, hfo5⟩ := zbi hf
    have KL5 : ∀ (n : Nat) (y3l5 : Int32) (y4l5 : Int32) (H : Heap) (locs : List Loc) (ls : Array Slot), zG D aC A nl ad σ s H → va_S A s.heap H locs → lv_has ls 6 [(0, .ref (ad 6 o 0)), (1, .int x1), (2, .int x2), (3, .int y3l5), (4, .int y4l5)] → zwh (fun (q : (Int32 × Int32)) => f_X6_placeIn_L5 σ o x1 x2 q.1 q.2) n (y3l5, y4l5) = some t5 → zWk p l e ({ frames := 1, cells := 0, slots := 0, locals := 23 } : Room) s m args below meth c A (some (.int r)) (fun t => zG D aC A nl ad σ t t.heap ∧ True) H locs (F0 m 5 ls []) := by
      intro n
      induction n with
      | zero =>
        intro y3l5 y4l5 H locs ls hG hS hl hw
        exact (zwh_0 hw).elim
      | succ n ih5 =>
        intro y3l5 y4l5 H locs ls hG hS hl hw
        obtain ⟨rr5, hf, hk5⟩ := zwh_u hw
        have hf : f_X6_placeIn_L5 σ o x1 x2 y3l5 y4l5 = some rr5 := hf
        unfold f_X6_placeIn_L5 at hf
        refine lv_iload hx hb dX6_placeIn_5 (lv_at hl 4 rfl) ?_
        refine lv_aload_n hx hb dX6_placeIn_7 rfl (lv_at hl 0 rfl) ?_
        refine lv_iload_n hx hb dX6_placeIn_8 rfl (lv_at hl 1 rfl) ?_
        obtain ⟨r12, er12, hf⟩ := zbi hf
        refine z_callV (n := 1) (rest := [.int y4l5]) (st1 := [.int r12, .int y4l5]) (c0 := 6) (i0 := o) h_o (by rfl) S hG hS hZ (fun _ _ h => h) (c_X6_lengthOf l D aC zs A nl ad σ o x1 r12 h_o er12) zw_1242 zw_1243 zw_1244 zw_45 zw_1245 (by decide +kernel) ⟨rfl, rfl⟩ ⟨(Nat.le_of_ble_eq_true rfl), (Nat.le_of_ble_eq_true rfl)⟩ hl.1 rfl (by rfl) (by rfl) (Nat.le_of_ble_eq_true rfl) dX6_placeIn_9 ⟨Nat.zero_le _, Nat.zero_le _⟩ (fun H locs hz13 hG hS => ?_)
        refine lv_icmp_ge (tgt := 55) hx hb dX6_placeIn_12 (by decide) (fun c14 => ?_) (fun c14 => ?_)
        · have hf := zif_p c14 hf
          cases hf
          have hk5 : ((.inr ()) : (Int32 ⊕ Unit)) = t5 := hk5
          have hf := hfo5
          rw [← hk5] at hf
          have hf : (f_X6_placeIn_B55 σ o x1 x2) = some r := hf
          exact KJ55 H locs ls hG hS (lv_sub hl [0, 1, 2] rfl) hf
        · have hf := zif_n c14 hf
          refine lv_aload_n hx hb dX6_placeIn_15 rfl (lv_at hl 0 rfl) ?_
          refine lv_iload_n hx hb dX6_placeIn_16 rfl (lv_at hl 1 rfl) ?_
          refine lv_iload hx hb dX6_placeIn_17 (lv_at hl 4 rfl) ?_
          obtain ⟨r15, er15, hf⟩ := zbi hf
          refine z_callV (n := 2) (rest := []) (st1 := [.int r15]) (c0 := 6) (i0 := o) h_o (by rfl) S hG hS hZ (fun _ _ h => h) (c_X6_markAt l D aC zs A nl ad σ o x1 y4l5 r15 h_o er15) zw_1246 zw_1247 zw_1248 zw_45 zw_1249 (by decide +kernel) ⟨rfl, rfl⟩ ⟨(Nat.le_of_ble_eq_true rfl), (Nat.le_of_ble_eq_true rfl)⟩ hl.1 rfl (by rfl) (by rfl) (Nat.le_of_ble_eq_true rfl) dX6_placeIn_19 ⟨Nat.zero_le _, Nat.zero_le _⟩ (fun H locs hz16 hG hS => ?_)
          refine lv_istore (lv' := [(5, .int r15), (0, .ref (ad 6 o 0)), (1, .int x1), (2, .int x2), (3, .int y3l5), (4, .int y4l5)]) hx hb dX6_placeIn_22 hl (by decide) rfl (fun ls hl => ?_)
          refine lv_iload hx hb dX6_placeIn_24 (lv_at hl 0 rfl) ?_
          refine lv_iload_n hx hb dX6_placeIn_26 rfl (lv_at hl 3 rfl) ?_
          refine lv_icmp_ne (tgt := 32) hx hb dX6_placeIn_27 (by decide) (fun c17 => ?_) (fun c17 => ?_)
          · have hf := zif_n c17 hf
            refine lv_iload_n hx hb dX6_placeIn_32 rfl (lv_at hl 4 rfl) ?_
            refine lv_aload_n hx hb dX6_placeIn_33 rfl (lv_at hl 1 rfl) ?_
            refine lv_iload hx hb dX6_placeIn_34 (lv_at hl 0 rfl) ?_
            obtain ⟨r18, er18, hf⟩ := zbi hf
            refine z_callV (n := 1) (rest := [.int y3l5]) (st1 := [.int r18, .int y3l5]) (c0 := 6) (i0 := o) h_o (by rfl) S hG hS hZ (fun _ _ h => h) (c_X6_has l D aC zs A nl ad σ o r15 r18 h_o er18) zw_1250 zw_1251 zw_1252 zw_45 zw_1253 (by decide +kernel) ⟨rfl, rfl⟩ ⟨(Nat.le_of_ble_eq_true rfl), (Nat.le_of_ble_eq_true rfl)⟩ hl.1 rfl (by rfl) (by rfl) (Nat.le_of_ble_eq_true rfl) dX6_placeIn_36 ⟨Nat.zero_le _, Nat.zero_le _⟩ (fun H locs hz19 hG hS => ?_)
            have Kv22 : ∀ (v22 : Int32) (ls : Array Slot), lv_has ls 6 [(5, .int r15), (0, .ref (ad 6 o 0)), (1, .int x1), (2, .int x2), (3, .int y3l5), (4, .int y4l5)] → (some (.inl ((y3l5 + v22), (y4l5 + 1)))) = some rr5 → zWk p l e ({ frames := 1, cells := 0, slots := 0, locals := 23 } : Room) s m args below meth c A (some (.int r)) (fun t => zG D aC A nl ad σ t t.heap ∧ True) H locs (F0 m 47 ls [.int v22, .int y3l5]) := by
              intro v22 ls hl hf
              refine lv_iadd hx hb dX6_placeIn_47 ?_
              refine lv_istore_n (lv' := [(3, .int (y3l5 + v22)), (5, .int r15), (0, .ref (ad 6 o 0)), (1, .int x1), (2, .int x2), (4, .int y4l5)]) hx hb dX6_placeIn_48 rfl hl (by decide) rfl (fun ls hl => ?_)
              refine lv_iinc (v := (y4l5 + 1)) (lv' := [(4, .int (y4l5 + 1)), (3, .int (y3l5 + v22)), (5, .int r15), (0, .ref (ad 6 o 0)), (1, .int x1), (2, .int x2)]) hx hb dX6_placeIn_49 hl (k := 5) rfl rfl (by decide) rfl (fun ls hl => ?_)
              refine lv_goto (tgt := 5) hx hb dX6_placeIn_52 (by decide) ?_
              cases hf
              exact ih5 (y3l5 + v22) (y4l5 + 1) H locs ls hG hS (lv_sub hl [3, 4, 5, 1, 0] rfl) hk5
            refine lv_if_eq (tgt := 46) hx hb dX6_placeIn_39 (by decide) (fun c21 => ?_) (fun c21 => ?_)
            · rw [if_pos c21] at hf
              refine lv_iconst (v := 0) hx hb dX6_placeIn_46 (by decide) ?_
              exact Kv22 _ ls hl hf
            · rw [if_neg c21] at hf
              refine lv_iconst (v := 1) hx hb dX6_placeIn_42 (by decide) ?_
              refine lv_goto (tgt := 47) hx hb dX6_placeIn_43 (by decide) ?_
              exact Kv22 _ ls hl hf
          · have hf := zif_p c17 hf
            cases hf
            have hk5 : ((.inl y3l5) : (Int32 ⊕ Unit)) = t5 := hk5
            have hf := hfo5
            rw [← hk5] at hf
            have hf : (some y3l5) = some r := hf
            refine lv_iload_n hx hb dX6_placeIn_30 rfl (lv_at hl 4 rfl) ?_
            have hq := (Option.some.inj hf)
            subst hq
            exact z_iret S hG hS hlocks trivial hr dX6_placeIn_31
    exact KL5 zFu 0 0 H locs ls hG hS (lv_sub hl [2, 3, 4, 1, 0] rfl) hw5
  exact hK0 _ _ ls hG hS hl hf
set_option maxRecDepth 100000 in
set_option maxHeartbeats 4000000 in
theorem c_J6_compare_7cf53 (l : Launch) (D : va_G) (aC : Nat → ClassId) (zs : Nat × Nat) (fx : List (Nat × Nat)) (A : Nat → Prop) (nl : zNL) (ad : Nat → Nat → Nat → Nat) (σ : zM) (x0 : Int32) (x1 : Int32) (r : Int32)  (hf : f_J6_compare_7cf53 x0 x1 = r) : Met l yJ6_compare_7cf53 (Cond.code yJ6_compare_7cf53 cJ6_compare_7cf53 2 (some .int) :: wsL_law) ({ frames := 0, cells := 0, slots := 0, locals := 0 } : Room) (zP D aC zs fx A nl ad σ [.int x0, .int x1]) (zQ (some (.int r)) (fun t => zG D aC A nl ad σ t t.heap ∧ True) A) 0 0 A := by
  refine Met.ofW (cc := cJ6_compare_7cf53) (maxL := 2) (ret := (some .int)) (by decide) rfl ?_
  intro p e s m args below meth c s₁ B hml hv
  obtain ⟨rfl, hG, hZ⟩ := hv
  have hx := B.exec
  have hb := B.bytes
  have hr := B.returns
  have hts : ∀ w ∈ wsL_law, w.before ([.int x0, .int x1] : List Value).toArray s = true := fun w h => (atoms_spec B.pre) w (List.mem_cons_of_mem _ h)
  have hown : s.vm.findClass RJ6 = some m.cls := findClass_of_methodNamed B.named
  have hlocks := B.notSynchronized
  have S : zS p m c cJ6_compare_7cf53 2 s ([.int x0, .int x1] : List Value).toArray RJ6 := ⟨hx, hb, hml, hown, hts⟩
  have hS : va_S A s.heap s.heap [] := va_S.rf
  have hl := lv_entry ([.int x0, .int x1]) (n := 2) (Nat.le_of_ble_eq_true rfl)
  rw [lg_entry_eq]
  generalize (lg_sl ([.int x0, .int x1]) ++ List.replicate (2 - (lg_sl ([.int x0, .int x1])).length) Slot.unset).toArray = ls at hl ⊢
  have hl : lv_has ls 2 [(0, .int x0), (1, .int x1)] := hl
  generalize hargs : ([.int x0, .int x1] : List Value).toArray = args at S hts ⊢
  clear hargs
  have hK0 : ∀ (H : Heap) (locs : List Loc) (ls : Array Slot), zG D aC A nl ad σ s H → va_S A s.heap H locs → lv_has ls 2 [(0, .int x0), (1, .int x1)] → f_J6_compare_7cf53 x0 x1 = r → zWk p l e ({ frames := 0, cells := 0, slots := 0, locals := 0 } : Room) s m args below meth c A (some (.int r)) (fun t => zG D aC A nl ad σ t t.heap ∧ True) H locs (F0 m 0 ls []) := by
    intro H locs ls hG hS hl hf
    unfold f_J6_compare_7cf53 at hf
    refine lv_iload_n hx hb dJ6_compare_7cf53_0 rfl (lv_at hl 0 rfl) ?_
    refine lv_iload_n hx hb dJ6_compare_7cf53_1 rfl (lv_at hl 1 rfl) ?_
    refine lv_icmp_ge (tgt := 9) hx hb dJ6_compare_7cf53_2 (by decide) (fun c1 => ?_) (fun c1 => ?_)
    · have hf := zif_p c1 hf
      refine lv_iload_n hx hb dJ6_compare_7cf53_9 rfl (lv_at hl 0 rfl) ?_
      refine lv_iload_n hx hb dJ6_compare_7cf53_10 rfl (lv_at hl 1 rfl) ?_
      refine lv_icmp_ne (tgt := 18) hx hb dJ6_compare_7cf53_11 (by decide) (fun c2 => ?_) (fun c2 => ?_)
      · have hf := zif_n c2 hf
        refine lv_iconst (v := 1) hx hb dJ6_compare_7cf53_18 (by decide) ?_
        have hq := hf
        subst hq
        exact z_iret S hG hS hlocks trivial hr dJ6_compare_7cf53_19
      · have hf := zif_p c2 hf
        refine lv_iconst (v := 0) hx hb dJ6_compare_7cf53_14 (by decide) ?_
        refine lv_goto (tgt := 19) hx hb dJ6_compare_7cf53_15 (by decide) ?_
        have hq := hf
        subst hq
        exact z_iret S hG hS hlocks trivial hr dJ6_compare_7cf53_19
    · have hf := zif_n c1 hf
      refine lv_iconst (v := (-1)) hx hb dJ6_compare_7cf53_5 (by decide) ?_
      refine lv_goto (tgt := 19) hx hb dJ6_compare_7cf53_6 (by decide) ?_
      have hq := hf
      subst hq
      exact z_iret S hG hS hlocks trivial hr dJ6_compare_7cf53_19
  exact hK0 _ _ ls hG hS hl hf
set_option maxRecDepth 100000 in
set_option maxHeartbeats 4000000 in
theorem c_X6_pairPoints (l : Launch) (D : va_G) (aC : Nat → ClassId) (zs : Nat × Nat) (A : Nat → Prop) (nl : zNL) (ad : Nat → Nat → Nat → Nat) (σ : zM) (o : Nat) (x1 : Int32) (x2 : Int32) (r : Int32) (h_o : zin nl 6 o) (hf : f_X6_pairPoints σ o x1 x2 = some r) : Met l yX6_pairPoints (Cond.code yX6_pairPoints cX6_pairPoints 5 (some .int) :: wsL_law) ({ frames := 2, cells := 0, slots := 0, locals := 48 } : Room) (zP D aC zs zfX A nl ad σ [.ref (ad 6 o 0), .int x1, .int x2]) (zQ (some (.int r)) (fun t => zG D aC A nl ad σ t t.heap ∧ True) A) 0 0 A := by
  refine Met.ofW (cc := cX6_pairPoints) (maxL := 5) (ret := (some .int)) (by decide) rfl ?_
  intro p e s m args below meth c s₁ B hml hv
  obtain ⟨rfl, hG, hZ⟩ := hv
  have hx := B.exec
  have hb := B.bytes
  have hr := B.returns
  have hts : ∀ w ∈ wsL_law, w.before ([.ref (ad 6 o 0), .int x1, .int x2] : List Value).toArray s = true := fun w h => (atoms_spec B.pre) w (List.mem_cons_of_mem _ h)
  have hown : s.vm.findClass RX6 = some m.cls := findClass_of_methodNamed B.named
  have hlocks := B.notSynchronized
  have S : zS p m c cX6_pairPoints 5 s ([.ref (ad 6 o 0), .int x1, .int x2] : List Value).toArray RX6 := ⟨hx, hb, hml, hown, hts⟩
  have hS : va_S A s.heap s.heap [] := va_S.rf
  have hl := lv_entry ([.ref (ad 6 o 0), .int x1, .int x2]) (n := 5) (Nat.le_of_ble_eq_true rfl)
  rw [lg_entry_eq]
  generalize (lg_sl ([.ref (ad 6 o 0), .int x1, .int x2]) ++ List.replicate (5 - (lg_sl ([.ref (ad 6 o 0), .int x1, .int x2])).length) Slot.unset).toArray = ls at hl ⊢
  have hl : lv_has ls 5 [(0, .ref (ad 6 o 0)), (1, .int x1), (2, .int x2)] := hl
  generalize hargs : ([.ref (ad 6 o 0), .int x1, .int x2] : List Value).toArray = args at S hts ⊢
  clear hargs
  have KJ50 : ∀ (y3b50 : Int32)   (H : Heap) (locs : List Loc) (ls : Array Slot), zG D aC A nl ad σ s H → va_S A s.heap H locs → lv_has ls 5 [(0, .ref (ad 6 o 0)), (1, .int x1), (2, .int x2), (3, .int y3b50)] → (f_X6_pairPoints_B50 σ o x1 x2 y3b50) = some r → zWk p l e ({ frames := 2, cells := 0, slots := 0, locals := 48 } : Room) s m args below meth c A (some (.int r)) (fun t => zG D aC A nl ad σ t t.heap ∧ True) H locs (F0 m 50 ls []) := by
    intro y3b50   H locs ls hG hS hl hf
    unfold f_X6_pairPoints_B50 at hf
    refine lv_iload_n hx hb dX6_pairPoints_50 rfl (lv_at hl 3 rfl) ?_
    refine lv_if_le (tgt := 56) hx hb dX6_pairPoints_51 (by decide) (fun c2 => ?_) (fun c2 => ?_)
    · have hf := zif_p c2 hf
      refine lv_iload_n hx hb dX6_pairPoints_56 rfl (lv_at hl 3 rfl) ?_
      refine lv_if_ne (tgt := 64) hx hb dX6_pairPoints_57 (by decide) (fun c3 => ?_) (fun c3 => ?_)
      · have hf := zif_n c3 hf
        refine lv_iconst (v := 0) hx hb dX6_pairPoints_64 (by decide) ?_
        have hq := (Option.some.inj hf)
        subst hq
        exact z_iret S hG hS hlocks trivial hr dX6_pairPoints_65
      · have hf := zif_p c3 hf
        refine lv_iconst (v := 1) hx hb dX6_pairPoints_60 (by decide) ?_
        refine lv_goto (tgt := 65) hx hb dX6_pairPoints_61 (by decide) ?_
        have hq := (Option.some.inj hf)
        subst hq
        exact z_iret S hG hS hlocks trivial hr dX6_pairPoints_65
    · have hf := zif_n c2 hf
      refine lv_iconst (v := 2) hx hb dX6_pairPoints_54 (by decide) ?_
      have hq := (Option.some.inj hf)
      subst hq
      exact z_iret S hG hS hlocks trivial hr dX6_pairPoints_55
  have hK0 : ∀ (H : Heap) (locs : List Loc) (ls : Array Slot), zG D aC A nl ad σ s H → va_S A s.heap H locs → lv_has ls 5 [(0, .ref (ad 6 o 0)), (1, .int x1), (2, .int x2)] → f_X6_pairPoints σ o x1 x2 = some r → zWk p l e ({ frames := 2, cells := 0, slots := 0, locals := 48 } : Room) s m args below meth c A (some (.int r)) (fun t => zG D aC A nl ad σ t t.heap ∧ True) H locs (F0 m 0 ls []) := by
    intro H locs ls hG hS hl hf
    unfold f_X6_pairPoints at hf
    refine lv_iconst (v := 0) hx hb dX6_pairPoints_0 (by decide) ?_
    refine lv_istore_n (lv' := [(3, .int 0), (0, .ref (ad 6 o 0)), (1, .int x1), (2, .int x2)]) hx hb dX6_pairPoints_1 rfl hl (by decide) rfl (fun ls hl => ?_)
    refine lv_iconst (v := 0) hx hb dX6_pairPoints_2 (by decide) ?_
    refine lv_istore (lv' := [(4, .int 0), (3, .int 0), (0, .ref (ad 6 o 0)), (1, .int x1), (2, .int x2)]) hx hb dX6_pairPoints_3 hl (by decide) rfl (fun ls hl => ?_)
    obtain ⟨t5, hw5, hfo5⟩ := zbi hf
    have KL5 : ∀ (n : Nat) (y3l5 : Int32) (y4l5 : Int32) (H : Heap) (locs : List Loc) (ls : Array Slot), zG D aC A nl ad σ s H → va_S A s.heap H locs → lv_has ls 5 [(0, .ref (ad 6 o 0)), (1, .int x1), (2, .int x2), (3, .int y3l5), (4, .int y4l5)] → zwh (fun (q : (Int32 × Int32)) => f_X6_pairPoints_L5 σ o x1 x2 q.1 q.2) n (y3l5, y4l5) = some t5 → zWk p l e ({ frames := 2, cells := 0, slots := 0, locals := 48 } : Room) s m args below meth c A (some (.int r)) (fun t => zG D aC A nl ad σ t t.heap ∧ True) H locs (F0 m 5 ls []) := by
      intro n
      induction n with
      | zero =>
        intro y3l5 y4l5 H locs ls hG hS hl hw
        exact (zwh_0 hw).elim
      | succ n ih5 =>
        intro y3l5 y4l5 H locs ls hG hS hl hw
        obtain ⟨rr5, hf, hk5⟩ := zwh_u hw
        have hf : f_X6_pairPoints_L5 σ o x1 x2 y3l5 y4l5 = some rr5 := hf
        unfold f_X6_pairPoints_L5 at hf
        have KJ44_5 : ∀ (y3b44 : Int32) (y4b44 : Int32)   (H : Heap) (locs : List Loc) (ls : Array Slot), zG D aC A nl ad σ s H → va_S A s.heap H locs → lv_has ls 5 [(0, .ref (ad 6 o 0)), (1, .int x1), (2, .int x2), (3, .int y3b44), (4, .int y4b44)] → (f_X6_pairPoints_B44_5 σ o x1 x2 y3b44 y4b44) = some rr5 → zWk p l e ({ frames := 2, cells := 0, slots := 0, locals := 48 } : Room) s m args below meth c A (some (.int r)) (fun t => zG D aC A nl ad σ t t.heap ∧ True) H locs (F0 m 44 ls []) := by
          intro y3b44 y4b44   H locs ls hG hS hl hf
          unfold f_X6_pairPoints_B44_5 at hf
          refine lv_iinc (v := (y4b44 + 1)) (lv' := [(4, .int (y4b44 + 1)), (0, .ref (ad 6 o 0)), (1, .int x1), (2, .int x2), (3, .int y3b44)]) hx hb dX6_pairPoints_44 hl (k := 4) rfl rfl (by decide) rfl (fun ls hl => ?_)
          refine lv_goto (tgt := 5) hx hb dX6_pairPoints_47 (by decide) ?_
          cases hf
          exact ih5 y3b44 (y4b44 + 1) H locs ls hG hS (lv_sub hl [1, 2, 3, 4, 0] rfl) hk5
        refine lv_iload hx hb dX6_pairPoints_5 (lv_at hl 4 rfl) ?_
        refine lv_aload_n hx hb dX6_pairPoints_7 rfl (lv_at hl 0 rfl) ?_
        refine z_get (c0 := 6) (i0 := o) (k0 := 3) (T := TX6) (v := .ref (ad 6 o 4)) S hG h_o rfl inlX6 (by decide) rfl zw_214 rfl dX6_pairPoints_8 ?_
        refine z_alen (c0 := 6) (i0 := o) (k0 := 3) (n := 6) (v := 7) S hG h_o (by decide) rfl (by decide) (by rfl) dX6_pairPoints_11 ?_
        refine lv_icmp_ge (tgt := 50) hx hb dX6_pairPoints_12 (by decide) (fun c12 => ?_) (fun c12 => ?_)
        · have hf := zif_p c12 hf
          cases hf
          have hk5 : (y3l5 : Int32) = t5 := hk5
          have hf := hfo5
          rw [← hk5] at hf
          have hf : (f_X6_pairPoints_B50 σ o x1 x2 y3l5) = some r := hf
          exact KJ50 y3l5 H locs ls hG hS (lv_sub hl [0, 1, 2, 3] rfl) hf
        · have hf := zif_n c12 hf
          refine lv_aload_n hx hb dX6_pairPoints_15 rfl (lv_at hl 0 rfl) ?_
          refine lv_iload hx hb dX6_pairPoints_16 (lv_at hl 4 rfl) ?_
          obtain ⟨r13, er13, hf⟩ := zbi hf
          refine z_callV (n := 1) (rest := []) (st1 := [.int r13]) (c0 := 6) (i0 := o) h_o (by rfl) S hG hS hZ (fun _ _ h => h) (c_X6_counts l D aC zs A nl ad σ o y4l5 r13 h_o er13) zw_1320 zw_1321 zw_1322 zw_45 zw_1323 (by decide +kernel) ⟨rfl, rfl⟩ ⟨(Nat.le_of_ble_eq_true rfl), (Nat.le_of_ble_eq_true rfl)⟩ hl.1 rfl (by rfl) (by rfl) (Nat.le_of_ble_eq_true rfl) dX6_pairPoints_18 ⟨Nat.zero_le _, Nat.zero_le _⟩ (fun H locs hz14 hG hS => ?_)
          refine lv_if_eq (tgt := 44) hx hb dX6_pairPoints_21 (by decide) (fun c15 => ?_) (fun c15 => ?_)
          · have hf := zif_p c15 hf
            exact KJ44_5 y3l5 y4l5 H locs ls hG hS (lv_sub hl [0, 1, 2, 3, 4] rfl) hf
          · have hf := zif_n c15 hf
            refine lv_iload_n hx hb dX6_pairPoints_24 rfl (lv_at hl 3 rfl) ?_
            refine lv_aload_n hx hb dX6_pairPoints_25 rfl (lv_at hl 0 rfl) ?_
            refine lv_iload hx hb dX6_pairPoints_26 (lv_at hl 4 rfl) ?_
            refine lv_iload_n hx hb dX6_pairPoints_28 rfl (lv_at hl 2 rfl) ?_
            obtain ⟨r16, er16, hf⟩ := zbi hf
            refine z_callV (n := 2) (rest := [.int y3l5]) (st1 := [.int r16, .int y3l5]) (c0 := 6) (i0 := o) h_o (by rfl) S hG hS hZ (fun _ _ h => h) (c_X6_placeIn l D aC zs A nl ad σ o y4l5 x2 r16 h_o er16) zw_1324 zw_1325 zw_1326 zw_45 zw_1327 (by decide +kernel) ⟨rfl, rfl⟩ ⟨(Nat.le_of_ble_eq_true rfl), (Nat.le_of_ble_eq_true rfl)⟩ hl.1 rfl (by rfl) (by rfl) (Nat.le_of_ble_eq_true rfl) dX6_pairPoints_29 ⟨Nat.zero_le _, Nat.zero_le _⟩ (fun H locs hz17 hG hS => ?_)
            refine lv_aload_n hx hb dX6_pairPoints_32 rfl (lv_at hl 0 rfl) ?_
            refine lv_iload hx hb dX6_pairPoints_33 (lv_at hl 4 rfl) ?_
            refine lv_iload_n hx hb dX6_pairPoints_35 rfl (lv_at hl 1 rfl) ?_
            obtain ⟨r18, er18, hf⟩ := zbi hf
            refine z_callV (n := 2) (rest := [.int r16, .int y3l5]) (st1 := [.int r18, .int r16, .int y3l5]) (c0 := 6) (i0 := o) h_o (by rfl) S hG hS hZ (fun _ _ h => h) (c_X6_placeIn l D aC zs A nl ad σ o y4l5 x1 r18 h_o er18) zw_1324 zw_1325 zw_1326 zw_45 zw_1327 (by decide +kernel) ⟨rfl, rfl⟩ ⟨(Nat.le_of_ble_eq_true rfl), (Nat.le_of_ble_eq_true rfl)⟩ hl.1 rfl (by rfl) (by rfl) (Nat.le_of_ble_eq_true rfl) dX6_pairPoints_36 ⟨Nat.zero_le _, Nat.zero_le _⟩ (fun H locs hz19 hG hS => ?_)
            refine z_callS (n := 2) (rest := [.int y3l5]) (st1 := [.int (f_J6_compare_7cf53 r16 r18), .int y3l5]) S hG hS hZ (fun _ _ h => h) (c_J6_compare_7cf53 l D aC zs zfX A nl ad σ r16 r18 (f_J6_compare_7cf53 r16 r18) rfl) zw_1332 zw_1333 zw_1022 zw_1334 (by decide +kernel) ⟨rfl, rfl⟩ ⟨(Nat.le_of_ble_eq_true rfl), (Nat.le_of_ble_eq_true rfl)⟩ hl.1 rfl (by rfl) (by rfl) (Nat.le_of_ble_eq_true rfl) dX6_pairPoints_39 ⟨Nat.zero_le _, Nat.zero_le _⟩ (fun H locs hz20 hG hS => ?_)
            refine lv_iadd hx hb dX6_pairPoints_42 ?_
            refine lv_istore_n (lv' := [(3, .int (y3l5 + (f_J6_compare_7cf53 r16 r18))), (0, .ref (ad 6 o 0)), (1, .int x1), (2, .int x2), (4, .int y4l5)]) hx hb dX6_pairPoints_43 rfl hl (by decide) rfl (fun ls hl => ?_)
            exact KJ44_5 (y3l5 + (f_J6_compare_7cf53 r16 r18)) y4l5 H locs ls hG hS (lv_sub hl [1, 2, 3, 0, 4] rfl) hf
    exact KL5 zFu 0 0 H locs ls hG hS (lv_sub hl [2, 3, 4, 1, 0] rfl) hw5
  exact hK0 _ _ ls hG hS hl hf
set_option maxRecDepth 100000 in
set_option maxHeartbeats 4000000 in
theorem c_X6_pointsBy (l : Launch) (D : va_G) (aC : Nat → ClassId) (zs : Nat × Nat) (A : Nat → Prop) (nl : zNL) (ad : Nat → Nat → Nat → Nat) (σ : zM) (o : Nat) (x1 : Int32) (x2 : Int32) (r : Int32) (h_o : zin nl 6 o) (hf : f_X6_pointsBy σ o x1 x2 = some r) : Met l yX6_pointsBy (Cond.code yX6_pointsBy cX6_pointsBy 5 (some .int) :: wsL_law) ({ frames := 3, cells := 0, slots := 0, locals := 72 } : Room) (zP D aC zs zfX A nl ad σ [.ref (ad 6 o 0), .int x1, .int x2]) (zQ (some (.int r)) (fun t => zG D aC A nl ad σ t t.heap ∧ True) A) 0 0 A := by
  refine Met.ofW (cc := cX6_pointsBy) (maxL := 5) (ret := (some .int)) (by decide) rfl ?_
  intro p e s m args below meth c s₁ B hml hv
  obtain ⟨rfl, hG, hZ⟩ := hv
  have hx := B.exec
  have hb := B.bytes
  have hr := B.returns
  have hts : ∀ w ∈ wsL_law, w.before ([.ref (ad 6 o 0), .int x1, .int x2] : List Value).toArray s = true := fun w h => (atoms_spec B.pre) w (List.mem_cons_of_mem _ h)
  have hown : s.vm.findClass RX6 = some m.cls := findClass_of_methodNamed B.named
  have hlocks := B.notSynchronized
  have S : zS p m c cX6_pointsBy 5 s ([.ref (ad 6 o 0), .int x1, .int x2] : List Value).toArray RX6 := ⟨hx, hb, hml, hown, hts⟩
  have hS : va_S A s.heap s.heap [] := va_S.rf
  have hl := lv_entry ([.ref (ad 6 o 0), .int x1, .int x2]) (n := 5) (Nat.le_of_ble_eq_true rfl)
  rw [lg_entry_eq]
  generalize (lg_sl ([.ref (ad 6 o 0), .int x1, .int x2]) ++ List.replicate (5 - (lg_sl ([.ref (ad 6 o 0), .int x1, .int x2])).length) Slot.unset).toArray = ls at hl ⊢
  have hl : lv_has ls 5 [(0, .ref (ad 6 o 0)), (1, .int x1), (2, .int x2)] := hl
  generalize hargs : ([.ref (ad 6 o 0), .int x1, .int x2] : List Value).toArray = args at S hts ⊢
  clear hargs
  have hK0 : ∀ (H : Heap) (locs : List Loc) (ls : Array Slot), zG D aC A nl ad σ s H → va_S A s.heap H locs → lv_has ls 5 [(0, .ref (ad 6 o 0)), (1, .int x1), (2, .int x2)] → f_X6_pointsBy σ o x1 x2 = some r → zWk p l e ({ frames := 3, cells := 0, slots := 0, locals := 72 } : Room) s m args below meth c A (some (.int r)) (fun t => zG D aC A nl ad σ t t.heap ∧ True) H locs (F0 m 0 ls []) := by
    intro H locs ls hG hS hl hf
    unfold f_X6_pointsBy at hf
    refine lv_iconst (v := 0) hx hb dX6_pointsBy_0 (by decide) ?_
    refine lv_istore_n (lv' := [(3, .int 0), (0, .ref (ad 6 o 0)), (1, .int x1), (2, .int x2)]) hx hb dX6_pointsBy_1 rfl hl (by decide) rfl (fun ls hl => ?_)
    refine lv_iload_n hx hb dX6_pointsBy_2 rfl (lv_at hl 2 rfl) ?_
    by_cases c13 : x1 = 0
    · have hf := zif_p c13 hf
      refine lv_lookup (x := x1) (off := 25) (tgt := 28) hx hb dX6_pointsBy_3 (by decide) (by rw [c13]; decide) (by decide) ?_
      refine lv_iconst (v := 0) hx hb dX6_pointsBy_28 (by decide) ?_
      refine lv_istore (lv' := [(4, .int 0), (3, .int 0), (0, .ref (ad 6 o 0)), (1, .int x1), (2, .int x2)]) hx hb dX6_pointsBy_29 hl (by decide) rfl (fun ls hl => ?_)
      obtain ⟨t31, hw31, hfo31⟩ := zbi hf
      have KL31 : ∀ (n : Nat) (y3l31 : Int32) (y4l31 : Int32) (H : Heap) (locs : List Loc) (ls : Array Slot), zG D aC A nl ad σ s H → va_S A s.heap H locs → lv_has ls 5 [(0, .ref (ad 6 o 0)), (1, .int x1), (2, .int x2), (3, .int y3l31), (4, .int y4l31)] → zwh (fun (q : (Int32 × Int32)) => f_X6_pointsBy_L31 σ o x1 x2 q.1 q.2) n (y3l31, y4l31) = some t31 → zWk p l e ({ frames := 3, cells := 0, slots := 0, locals := 72 } : Room) s m args below meth c A (some (.int r)) (fun t => zG D aC A nl ad σ t t.heap ∧ True) H locs (F0 m 31 ls []) := by
        intro n
        induction n with
        | zero =>
          intro y3l31 y4l31 H locs ls hG hS hl hw
          exact (zwh_0 hw).elim
        | succ n ih31 =>
          intro y3l31 y4l31 H locs ls hG hS hl hw
          obtain ⟨rr31, hf, hk31⟩ := zwh_u hw
          have hf : f_X6_pointsBy_L31 σ o x1 x2 y3l31 y4l31 = some rr31 := hf
          unfold f_X6_pointsBy_L31 at hf
          have KJ66_31 : ∀ (y4b66 : Int32) (t0b66 : Int32) (t1b66 : Int32)   (H : Heap) (locs : List Loc) (ls : Array Slot), zG D aC A nl ad σ s H → va_S A s.heap H locs → lv_has ls 5 [(0, .ref (ad 6 o 0)), (1, .int x1), (2, .int x2), (4, .int y4b66)] → (f_X6_pointsBy_B66_31 σ o x1 x2 y4b66 t0b66 t1b66) = some rr31 → zWk p l e ({ frames := 3, cells := 0, slots := 0, locals := 72 } : Room) s m args below meth c A (some (.int r)) (fun t => zG D aC A nl ad σ t t.heap ∧ True) H locs (F0 m 66 ls [.int t1b66, .int t0b66]) := by
            intro y4b66 t0b66 t1b66   H locs ls hG hS hl hf
            unfold f_X6_pointsBy_B66_31 at hf
            refine lv_iadd hx hb dX6_pointsBy_66 ?_
            refine lv_istore_n (lv' := [(3, .int (t0b66 + t1b66)), (0, .ref (ad 6 o 0)), (1, .int x1), (2, .int x2), (4, .int y4b66)]) hx hb dX6_pointsBy_67 rfl hl (by decide) rfl (fun ls hl => ?_)
            refine lv_iinc (v := (y4b66 + 1)) (lv' := [(4, .int (y4b66 + 1)), (3, .int (t0b66 + t1b66)), (0, .ref (ad 6 o 0)), (1, .int x1), (2, .int x2)]) hx hb dX6_pointsBy_68 hl (k := 4) rfl rfl (by decide) rfl (fun ls hl => ?_)
            refine lv_goto (tgt := 31) hx hb dX6_pointsBy_71 (by decide) ?_
            cases hf
            exact ih31 (t0b66 + t1b66) (y4b66 + 1) H locs ls hG hS (lv_sub hl [2, 3, 4, 1, 0] rfl) hk31
          have KJ65_31 : ∀ (y4b65 : Int32) (t0b65 : Int32)   (H : Heap) (locs : List Loc) (ls : Array Slot), zG D aC A nl ad σ s H → va_S A s.heap H locs → lv_has ls 5 [(0, .ref (ad 6 o 0)), (1, .int x1), (2, .int x2), (4, .int y4b65)] → (f_X6_pointsBy_B65_31 σ o x1 x2 y4b65 t0b65) = some rr31 → zWk p l e ({ frames := 3, cells := 0, slots := 0, locals := 72 } : Room) s m args below meth c A (some (.int r)) (fun t => zG D aC A nl ad σ t t.heap ∧ True) H locs (F0 m 65 ls [.int t0b65]) := by
            intro y4b65 t0b65   H locs ls hG hS hl hf
            unfold f_X6_pointsBy_B65_31 at hf
            refine lv_iconst (v := 0) hx hb dX6_pointsBy_65 (by decide) ?_
            exact KJ66_31 y4b65 t0b65 0 H locs ls hG hS (lv_sub hl [0, 1, 2, 3] rfl) hf
          refine lv_iload hx hb dX6_pointsBy_31 (lv_at hl 4 rfl) ?_
          refine lv_aload_n hx hb dX6_pointsBy_33 rfl (lv_at hl 0 rfl) ?_
          refine z_get (c0 := 6) (i0 := o) (k0 := 3) (T := TX6) (v := .ref (ad 6 o 4)) S hG h_o rfl inlX6 (by decide) rfl zw_214 rfl dX6_pointsBy_34 ?_
          refine z_alen (c0 := 6) (i0 := o) (k0 := 3) (n := 6) (v := 7) S hG h_o (by decide) rfl (by decide) (by rfl) dX6_pointsBy_37 ?_
          refine lv_icmp_ge (tgt := 74) hx hb dX6_pointsBy_38 (by decide) (fun c23 => ?_) (fun c23 => ?_)
          · have hf := zif_p c23 hf
            cases hf
            have hk31 : (y3l31 : Int32) = t31 := hk31
            have hf := hfo31
            rw [← hk31] at hf
            have hf : (some y3l31) = some r := hf
            refine lv_iload_n hx hb dX6_pointsBy_74 rfl (lv_at hl 3 rfl) ?_
            have hq := (Option.some.inj hf)
            subst hq
            exact z_iret S hG hS hlocks trivial hr dX6_pointsBy_75
          · have hf := zif_n c23 hf
            refine lv_iload_n hx hb dX6_pointsBy_41 rfl (lv_at hl 3 rfl) ?_
            refine lv_aload_n hx hb dX6_pointsBy_42 rfl (lv_at hl 0 rfl) ?_
            refine lv_iload hx hb dX6_pointsBy_43 (lv_at hl 4 rfl) ?_
            obtain ⟨r24, er24, hf⟩ := zbi hf
            refine z_callV (n := 1) (rest := [.int y3l31]) (st1 := [.int r24, .int y3l31]) (c0 := 6) (i0 := o) h_o (by rfl) S hG hS hZ (fun _ _ h => h) (c_X6_counts l D aC zs A nl ad σ o y4l31 r24 h_o er24) zw_1320 zw_1321 zw_1322 zw_45 zw_1323 (by decide +kernel) ⟨rfl, rfl⟩ ⟨(Nat.le_of_ble_eq_true rfl), (Nat.le_of_ble_eq_true rfl)⟩ hl.1 rfl (by rfl) (by rfl) (Nat.le_of_ble_eq_true rfl) dX6_pointsBy_45 ⟨Nat.zero_le _, Nat.zero_le _⟩ (fun H locs hz25 hG hS => ?_)
            refine lv_if_eq (tgt := 65) hx hb dX6_pointsBy_48 (by decide) (fun c26 => ?_) (fun c26 => ?_)
            · have hf := zif_p c26 hf
              exact KJ65_31 y4l31 y3l31 H locs ls hG hS (lv_sub hl [0, 1, 2, 4] rfl) hf
            · have hf := zif_n c26 hf
              refine lv_aload_n hx hb dX6_pointsBy_51 rfl (lv_at hl 0 rfl) ?_
              refine lv_iload hx hb dX6_pointsBy_52 (lv_at hl 4 rfl) ?_
              refine lv_iload_n hx hb dX6_pointsBy_54 rfl (lv_at hl 2 rfl) ?_
              obtain ⟨r27, er27, hf⟩ := zbi hf
              refine z_callV (n := 2) (rest := [.int y3l31]) (st1 := [.int r27, .int y3l31]) (c0 := 6) (i0 := o) h_o (by rfl) S hG hS hZ (fun _ _ h => h) (c_X6_placeIn l D aC zs A nl ad σ o y4l31 x2 r27 h_o er27) zw_1324 zw_1325 zw_1326 zw_45 zw_1327 (by decide +kernel) ⟨rfl, rfl⟩ ⟨(Nat.le_of_ble_eq_true rfl), (Nat.le_of_ble_eq_true rfl)⟩ hl.1 rfl (by rfl) (by rfl) (Nat.le_of_ble_eq_true rfl) dX6_pointsBy_55 ⟨Nat.zero_le _, Nat.zero_le _⟩ (fun H locs hz28 hG hS => ?_)
              have Kv31 : ∀ (v31 : Int32) (ls : Array Slot), lv_has ls 5 [(0, .ref (ad 6 o 0)), (1, .int x1), (2, .int x2), (3, .int y3l31), (4, .int y4l31)] → (some (.inl ((y3l31 + v31), (y4l31 + 1)))) = some rr31 → zWk p l e ({ frames := 3, cells := 0, slots := 0, locals := 72 } : Room) s m args below meth c A (some (.int r)) (fun t => zG D aC A nl ad σ t t.heap ∧ True) H locs (F0 m 66 ls [.int v31, .int y3l31]) := by
                intro v31 ls hl hf
                refine lv_iadd hx hb dX6_pointsBy_66 ?_
                refine lv_istore_n (lv' := [(3, .int (y3l31 + v31)), (0, .ref (ad 6 o 0)), (1, .int x1), (2, .int x2), (4, .int y4l31)]) hx hb dX6_pointsBy_67 rfl hl (by decide) rfl (fun ls hl => ?_)
                refine lv_iinc (v := (y4l31 + 1)) (lv' := [(4, .int (y4l31 + 1)), (3, .int (y3l31 + v31)), (0, .ref (ad 6 o 0)), (1, .int x1), (2, .int x2)]) hx hb dX6_pointsBy_68 hl (k := 4) rfl rfl (by decide) rfl (fun ls hl => ?_)
                refine lv_goto (tgt := 31) hx hb dX6_pointsBy_71 (by decide) ?_
                cases hf
                exact ih31 (y3l31 + v31) (y4l31 + 1) H locs ls hG hS (lv_sub hl [2, 3, 4, 1, 0] rfl) hk31
              refine lv_if_ne (tgt := 65) hx hb dX6_pointsBy_58 (by decide) (fun c30 => ?_) (fun c30 => ?_)
              · rw [if_neg c30] at hf
                refine lv_iconst (v := 0) hx hb dX6_pointsBy_65 (by decide) ?_
                exact Kv31 _ ls hl hf
              · rw [if_pos c30] at hf
                refine lv_iconst (v := 1) hx hb dX6_pointsBy_61 (by decide) ?_
                refine lv_goto (tgt := 66) hx hb dX6_pointsBy_62 (by decide) ?_
                exact Kv31 _ ls hl hf
      exact KL31 zFu 0 0 H locs ls hG hS (lv_sub hl [2, 3, 4, 1, 0] rfl) hw31
    · have hf := zif_n c13 hf
      by_cases c32 : x1 = 1
      · have hf := zif_p c32 hf
        refine lv_lookup (x := x1) (off := 73) (tgt := 76) hx hb dX6_pointsBy_3 (by decide) (by rw [c32]; decide) (by decide) ?_
        refine lv_iconst (v := 0) hx hb dX6_pointsBy_76 (by decide) ?_
        refine lv_istore (lv' := [(4, .int 0), (3, .int 0), (0, .ref (ad 6 o 0)), (1, .int x1), (2, .int x2)]) hx hb dX6_pointsBy_77 hl (by decide) rfl (fun ls hl => ?_)
        obtain ⟨t79, hw79, hfo79⟩ := zbi hf
        have KL79 : ∀ (n : Nat) (y3l79 : Int32) (y4l79 : Int32) (H : Heap) (locs : List Loc) (ls : Array Slot), zG D aC A nl ad σ s H → va_S A s.heap H locs → lv_has ls 5 [(0, .ref (ad 6 o 0)), (1, .int x1), (2, .int x2), (3, .int y3l79), (4, .int y4l79)] → zwh (fun (q : (Int32 × Int32)) => f_X6_pointsBy_L79 σ o x1 x2 q.1 q.2) n (y3l79, y4l79) = some t79 → zWk p l e ({ frames := 3, cells := 0, slots := 0, locals := 72 } : Room) s m args below meth c A (some (.int r)) (fun t => zG D aC A nl ad σ t t.heap ∧ True) H locs (F0 m 79 ls []) := by
          intro n
          induction n with
          | zero =>
            intro y3l79 y4l79 H locs ls hG hS hl hw
            exact (zwh_0 hw).elim
          | succ n ih79 =>
            intro y3l79 y4l79 H locs ls hG hS hl hw
            obtain ⟨rr79, hf, hk79⟩ := zwh_u hw
            have hf : f_X6_pointsBy_L79 σ o x1 x2 y3l79 y4l79 = some rr79 := hf
            unfold f_X6_pointsBy_L79 at hf
            have KJ115_79 : ∀ (y4b115 : Int32) (t0b115 : Int32) (t1b115 : Int32)   (H : Heap) (locs : List Loc) (ls : Array Slot), zG D aC A nl ad σ s H → va_S A s.heap H locs → lv_has ls 5 [(0, .ref (ad 6 o 0)), (1, .int x1), (2, .int x2), (4, .int y4b115)] → (f_X6_pointsBy_B115_79 σ o x1 x2 y4b115 t0b115 t1b115) = some rr79 → zWk p l e ({ frames := 3, cells := 0, slots := 0, locals := 72 } : Room) s m args below meth c A (some (.int r)) (fun t => zG D aC A nl ad σ t t.heap ∧ True) H locs (F0 m 115 ls [.int t1b115, .int t0b115]) := by
              intro y4b115 t0b115 t1b115   H locs ls hG hS hl hf
              unfold f_X6_pointsBy_B115_79 at hf
              refine lv_iadd hx hb dX6_pointsBy_115 ?_
              refine lv_istore_n (lv' := [(3, .int (t0b115 + t1b115)), (0, .ref (ad 6 o 0)), (1, .int x1), (2, .int x2), (4, .int y4b115)]) hx hb dX6_pointsBy_116 rfl hl (by decide) rfl (fun ls hl => ?_)
              refine lv_iinc (v := (y4b115 + 1)) (lv' := [(4, .int (y4b115 + 1)), (3, .int (t0b115 + t1b115)), (0, .ref (ad 6 o 0)), (1, .int x1), (2, .int x2)]) hx hb dX6_pointsBy_117 hl (k := 4) rfl rfl (by decide) rfl (fun ls hl => ?_)
              refine lv_goto (tgt := 79) hx hb dX6_pointsBy_120 (by decide) ?_
              cases hf
              exact ih79 (t0b115 + t1b115) (y4b115 + 1) H locs ls hG hS (lv_sub hl [2, 3, 4, 1, 0] rfl) hk79
            refine lv_iload hx hb dX6_pointsBy_79 (lv_at hl 4 rfl) ?_
            refine lv_aload_n hx hb dX6_pointsBy_81 rfl (lv_at hl 0 rfl) ?_
            refine z_get (c0 := 6) (i0 := o) (k0 := 3) (T := TX6) (v := .ref (ad 6 o 4)) S hG h_o rfl inlX6 (by decide) rfl zw_214 rfl dX6_pointsBy_82 ?_
            refine z_alen (c0 := 6) (i0 := o) (k0 := 3) (n := 6) (v := 7) S hG h_o (by decide) rfl (by decide) (by rfl) dX6_pointsBy_85 ?_
            refine lv_icmp_ge (tgt := 123) hx hb dX6_pointsBy_86 (by decide) (fun c39 => ?_) (fun c39 => ?_)
            · have hf := zif_p c39 hf
              cases hf
              have hk79 : (y3l79 : Int32) = t79 := hk79
              have hf := hfo79
              rw [← hk79] at hf
              have hf : (some y3l79) = some r := hf
              refine lv_iload_n hx hb dX6_pointsBy_123 rfl (lv_at hl 3 rfl) ?_
              have hq := (Option.some.inj hf)
              subst hq
              exact z_iret S hG hS hlocks trivial hr dX6_pointsBy_124
            · have hf := zif_n c39 hf
              refine lv_iload_n hx hb dX6_pointsBy_89 rfl (lv_at hl 3 rfl) ?_
              refine lv_aload_n hx hb dX6_pointsBy_90 rfl (lv_at hl 0 rfl) ?_
              refine lv_iload hx hb dX6_pointsBy_91 (lv_at hl 4 rfl) ?_
              obtain ⟨r40, er40, hf⟩ := zbi hf
              refine z_callV (n := 1) (rest := [.int y3l79]) (st1 := [.int r40, .int y3l79]) (c0 := 6) (i0 := o) h_o (by rfl) S hG hS hZ (fun _ _ h => h) (c_X6_counts l D aC zs A nl ad σ o y4l79 r40 h_o er40) zw_1320 zw_1321 zw_1322 zw_45 zw_1323 (by decide +kernel) ⟨rfl, rfl⟩ ⟨(Nat.le_of_ble_eq_true rfl), (Nat.le_of_ble_eq_true rfl)⟩ hl.1 rfl (by rfl) (by rfl) (Nat.le_of_ble_eq_true rfl) dX6_pointsBy_93 ⟨Nat.zero_le _, Nat.zero_le _⟩ (fun H locs hz41 hG hS => ?_)
              refine lv_if_eq (tgt := 114) hx hb dX6_pointsBy_96 (by decide) (fun c42 => ?_) (fun c42 => ?_)
              · have hf := zif_p c42 hf
                refine lv_iconst (v := 0) hx hb dX6_pointsBy_114 (by decide) ?_
                exact KJ115_79 y4l79 y3l79 0 H locs ls hG hS (lv_sub hl [0, 1, 2, 4] rfl) hf
              · have hf := zif_n c42 hf
                refine lv_aload_n hx hb dX6_pointsBy_99 rfl (lv_at hl 0 rfl) ?_
                refine z_get (c0 := 6) (i0 := o) (k0 := 6) (T := TX6) (v := .int (zI σ 6 o 6)) S hG h_o rfl inlX6 (by decide) rfl zw_217 rfl dX6_pointsBy_100 ?_
                refine lv_aload_n hx hb dX6_pointsBy_103 rfl (lv_at hl 0 rfl) ?_
                refine lv_iload hx hb dX6_pointsBy_104 (lv_at hl 4 rfl) ?_
                refine lv_iload_n hx hb dX6_pointsBy_106 rfl (lv_at hl 2 rfl) ?_
                obtain ⟨r43, er43, hf⟩ := zbi hf
                refine z_callV (n := 2) (rest := [.int (zI σ 6 o 6), .int y3l79]) (st1 := [.int r43, .int (zI σ 6 o 6), .int y3l79]) (c0 := 6) (i0 := o) h_o (by rfl) S hG hS hZ (fun _ _ h => h) (c_X6_placeIn l D aC zs A nl ad σ o y4l79 x2 r43 h_o er43) zw_1324 zw_1325 zw_1326 zw_45 zw_1327 (by decide +kernel) ⟨rfl, rfl⟩ ⟨(Nat.le_of_ble_eq_true rfl), (Nat.le_of_ble_eq_true rfl)⟩ hl.1 rfl (by rfl) (by rfl) (Nat.le_of_ble_eq_true rfl) dX6_pointsBy_107 ⟨Nat.zero_le _, Nat.zero_le _⟩ (fun H locs hz44 hG hS => ?_)
                refine lv_isub hx hb dX6_pointsBy_110 ?_
                refine lv_goto (tgt := 115) hx hb dX6_pointsBy_111 (by decide) ?_
                exact KJ115_79 y4l79 y3l79 ((zI σ 6 o 6) - r43) H locs ls hG hS (lv_sub hl [0, 1, 2, 4] rfl) hf
        exact KL79 zFu 0 0 H locs ls hG hS (lv_sub hl [2, 3, 4, 1, 0] rfl) hw79
      · have hf := zif_n c32 hf
        refine lv_lookup (x := x1) (off := 122) (tgt := 125) hx hb dX6_pointsBy_3 (by decide) ((lv_osw c13 rfl).trans ((lv_osw c32 rfl).trans (rfl))) (by decide) ?_
        refine lv_iconst (v := 0) hx hb dX6_pointsBy_125 (by decide) ?_
        refine lv_istore (lv' := [(4, .int 0), (3, .int 0), (0, .ref (ad 6 o 0)), (1, .int x1), (2, .int x2)]) hx hb dX6_pointsBy_126 hl (by decide) rfl (fun ls hl => ?_)
        obtain ⟨t128, hw128, hfo128⟩ := zbi hf
        have KL128 : ∀ (n : Nat) (y3l128 : Int32) (y4l128 : Int32) (H : Heap) (locs : List Loc) (ls : Array Slot), zG D aC A nl ad σ s H → va_S A s.heap H locs → lv_has ls 5 [(0, .ref (ad 6 o 0)), (1, .int x1), (2, .int x2), (3, .int y3l128), (4, .int y4l128)] → zwh (fun (q : (Int32 × Int32)) => f_X6_pointsBy_L128 σ o x1 x2 q.1 q.2) n (y3l128, y4l128) = some t128 → zWk p l e ({ frames := 3, cells := 0, slots := 0, locals := 72 } : Room) s m args below meth c A (some (.int r)) (fun t => zG D aC A nl ad σ t t.heap ∧ True) H locs (F0 m 128 ls []) := by
          intro n
          induction n with
          | zero =>
            intro y3l128 y4l128 H locs ls hG hS hl hw
            exact (zwh_0 hw).elim
          | succ n ih128 =>
            intro y3l128 y4l128 H locs ls hG hS hl hw
            obtain ⟨rr128, hf, hk128⟩ := zwh_u hw
            have hf : f_X6_pointsBy_L128 σ o x1 x2 y3l128 y4l128 = some rr128 := hf
            unfold f_X6_pointsBy_L128 at hf
            have KJ166_128 : ∀ (y4b166 : Int32) (t0b166 : Int32) (t1b166 : Int32)   (H : Heap) (locs : List Loc) (ls : Array Slot), zG D aC A nl ad σ s H → va_S A s.heap H locs → lv_has ls 5 [(0, .ref (ad 6 o 0)), (1, .int x1), (2, .int x2), (4, .int y4b166)] → (f_X6_pointsBy_B166_128 σ o x1 x2 y4b166 t0b166 t1b166) = some rr128 → zWk p l e ({ frames := 3, cells := 0, slots := 0, locals := 72 } : Room) s m args below meth c A (some (.int r)) (fun t => zG D aC A nl ad σ t t.heap ∧ True) H locs (F0 m 166 ls [.int t1b166, .int t0b166]) := by
              intro y4b166 t0b166 t1b166   H locs ls hG hS hl hf
              unfold f_X6_pointsBy_B166_128 at hf
              refine lv_iadd hx hb dX6_pointsBy_166 ?_
              refine lv_istore_n (lv' := [(3, .int (t0b166 + t1b166)), (0, .ref (ad 6 o 0)), (1, .int x1), (2, .int x2), (4, .int y4b166)]) hx hb dX6_pointsBy_167 rfl hl (by decide) rfl (fun ls hl => ?_)
              refine lv_iinc (v := (y4b166 + 1)) (lv' := [(4, .int (y4b166 + 1)), (3, .int (t0b166 + t1b166)), (0, .ref (ad 6 o 0)), (1, .int x1), (2, .int x2)]) hx hb dX6_pointsBy_168 hl (k := 4) rfl rfl (by decide) rfl (fun ls hl => ?_)
              refine lv_goto (tgt := 128) hx hb dX6_pointsBy_171 (by decide) ?_
              cases hf
              exact ih128 (t0b166 + t1b166) (y4b166 + 1) H locs ls hG hS (lv_sub hl [2, 3, 4, 1, 0] rfl) hk128
            have KJ165_128 : ∀ (y4b165 : Int32) (t0b165 : Int32)   (H : Heap) (locs : List Loc) (ls : Array Slot), zG D aC A nl ad σ s H → va_S A s.heap H locs → lv_has ls 5 [(0, .ref (ad 6 o 0)), (1, .int x1), (2, .int x2), (4, .int y4b165)] → (f_X6_pointsBy_B165_128 σ o x1 x2 y4b165 t0b165) = some rr128 → zWk p l e ({ frames := 3, cells := 0, slots := 0, locals := 72 } : Room) s m args below meth c A (some (.int r)) (fun t => zG D aC A nl ad σ t t.heap ∧ True) H locs (F0 m 165 ls [.int t0b165]) := by
              intro y4b165 t0b165   H locs ls hG hS hl hf
              unfold f_X6_pointsBy_B165_128 at hf
              refine lv_iconst (v := 0) hx hb dX6_pointsBy_165 (by decide) ?_
              exact KJ166_128 y4b165 t0b165 0 H locs ls hG hS (lv_sub hl [0, 1, 2, 3] rfl) hf
            refine lv_iload hx hb dX6_pointsBy_128 (lv_at hl 4 rfl) ?_
            refine lv_aload_n hx hb dX6_pointsBy_130 rfl (lv_at hl 0 rfl) ?_
            refine z_get (c0 := 6) (i0 := o) (k0 := 0) (T := TX6) (v := .ref (ad 6 o 1)) S hG h_o rfl inlX6 (by decide) rfl zw_211 rfl dX6_pointsBy_131 ?_
            refine z_alen (c0 := 6) (i0 := o) (k0 := 0) (n := 6) (v := 10) S hG h_o (by decide) rfl (by decide) (by rfl) dX6_pointsBy_134 ?_
            refine lv_icmp_ge (tgt := 174) hx hb dX6_pointsBy_135 (by decide) (fun c7 => ?_) (fun c7 => ?_)
            · have hf := zif_p c7 hf
              cases hf
              have hk128 : (y3l128 : Int32) = t128 := hk128
              have hf := hfo128
              rw [← hk128] at hf
              have hf : (some y3l128) = some r := hf
              refine lv_iload_n hx hb dX6_pointsBy_174 rfl (lv_at hl 3 rfl) ?_
              have hq := (Option.some.inj hf)
              subst hq
              exact z_iret S hG hS hlocks trivial hr dX6_pointsBy_175
            · have hf := zif_n c7 hf
              refine lv_iload_n hx hb dX6_pointsBy_138 rfl (lv_at hl 3 rfl) ?_
              refine lv_iload hx hb dX6_pointsBy_139 (lv_at hl 4 rfl) ?_
              refine lv_iload_n hx hb dX6_pointsBy_141 rfl (lv_at hl 2 rfl) ?_
              refine lv_icmp_eq (tgt := 165) hx hb dX6_pointsBy_142 (by decide) (fun c8 => ?_) (fun c8 => ?_)
              · have hf := zif_p c8 hf
                exact KJ165_128 y4l128 y3l128 H locs ls hG hS (lv_sub hl [0, 1, 2, 4] rfl) hf
              · have hf := zif_n c8 hf
                refine lv_aload_n hx hb dX6_pointsBy_145 rfl (lv_at hl 0 rfl) ?_
                refine z_get (c0 := 6) (i0 := o) (k0 := 0) (T := TX6) (v := .ref (ad 6 o 1)) S hG h_o rfl inlX6 (by decide) rfl zw_211 rfl dX6_pointsBy_146 ?_
                refine lv_iload hx hb dX6_pointsBy_149 (lv_at hl 4 rfl) ?_
                obtain ⟨i9, hi9, hf⟩ := zbi hf
                refine z_zald (c0 := 6) (i0 := o) (k0 := 0) S hG h_o (by decide) rfl hi9 dX6_pointsBy_151 ?_
                refine lv_if_eq (tgt := 165) hx hb dX6_pointsBy_152 (by decide) (fun c10 => ?_) (fun c10 => ?_)
                · have hf := zif_p c10 hf
                  exact KJ165_128 y4l128 y3l128 H locs ls hG hS (lv_sub hl [0, 1, 2, 4] rfl) hf
                · have hf := zif_n c10 hf
                  refine lv_aload_n hx hb dX6_pointsBy_155 rfl (lv_at hl 0 rfl) ?_
                  refine lv_iload_n hx hb dX6_pointsBy_156 rfl (lv_at hl 2 rfl) ?_
                  refine lv_iload hx hb dX6_pointsBy_157 (lv_at hl 4 rfl) ?_
                  obtain ⟨r11, er11, hf⟩ := zbi hf
                  refine z_callV (n := 2) (rest := [.int y3l128]) (st1 := [.int r11, .int y3l128]) (c0 := 6) (i0 := o) h_o (by rfl) S hG hS hZ (fun _ _ h => h) (c_X6_pairPoints l D aC zs A nl ad σ o x2 y4l128 r11 h_o er11) zw_1328 zw_1329 zw_1330 zw_45 zw_1331 (by decide +kernel) ⟨rfl, rfl⟩ ⟨(Nat.le_of_ble_eq_true rfl), (Nat.le_of_ble_eq_true rfl)⟩ hl.1 rfl (by rfl) (by rfl) (Nat.le_of_ble_eq_true rfl) dX6_pointsBy_159 ⟨Nat.zero_le _, Nat.zero_le _⟩ (fun H locs hz12 hG hS => ?_)
                  refine lv_goto (tgt := 166) hx hb dX6_pointsBy_162 (by decide) ?_
                  exact KJ166_128 y4l128 y3l128 r11 H locs ls hG hS (lv_sub hl [0, 1, 2, 4] rfl) hf
        exact KL128 zFu 0 0 H locs ls hG hS (lv_sub hl [2, 3, 4, 1, 0] rfl) hw128
  exact hK0 _ _ ls hG hS hl hf
set_option maxRecDepth 100000 in
set_option maxHeartbeats 4000000 in
theorem c_X6_finish (l : Launch) (D : va_G) (aC : Nat → ClassId) (zs : Nat × Nat) (A : Nat → Prop) (nl : zNL) (ad : Nat → Nat → Nat → Nat) (σ : zM) (o : Nat) (x1 : Int32) (x2 : Int32)  (σ' : zM) (h_o : zin nl 6 o) (hf : f_X6_finish σ o x1 x2 = σ') : Met l yX6_finish (Cond.code yX6_finish cX6_finish 3 none :: wsL_law) ({ frames := 0, cells := 0, slots := 0, locals := 0 } : Room) (zP D aC zs zfX A nl ad σ [.ref (ad 6 o 0), .int x1, .int x2]) (zQ none (fun t => zG D aC A nl ad σ' t t.heap ∧ True) A) 0 0 A := by
  refine Met.ofW (cc := cX6_finish) (maxL := 3) (ret := none) (by decide) rfl ?_
  intro p e s m args below meth c s₁ B hml hv
  obtain ⟨rfl, hG, hZ⟩ := hv
  have hx := B.exec
  have hb := B.bytes
  have hr := B.returns
  have hts : ∀ w ∈ wsL_law, w.before ([.ref (ad 6 o 0), .int x1, .int x2] : List Value).toArray s = true := fun w h => (atoms_spec B.pre) w (List.mem_cons_of_mem _ h)
  have hown : s.vm.findClass RX6 = some m.cls := findClass_of_methodNamed B.named
  have hlocks := B.notSynchronized
  have S : zS p m c cX6_finish 3 s ([.ref (ad 6 o 0), .int x1, .int x2] : List Value).toArray RX6 := ⟨hx, hb, hml, hown, hts⟩
  have hS : va_S A s.heap s.heap [] := va_S.rf
  have hl := lv_entry ([.ref (ad 6 o 0), .int x1, .int x2]) (n := 3) (Nat.le_of_ble_eq_true rfl)
  rw [lg_entry_eq]
  generalize (lg_sl ([.ref (ad 6 o 0), .int x1, .int x2]) ++ List.replicate (3 - (lg_sl ([.ref (ad 6 o 0), .int x1, .int x2])).length) Slot.unset).toArray = ls at hl ⊢
  have hl : lv_has ls 3 [(0, .ref (ad 6 o 0)), (1, .int x1), (2, .int x2)] := hl
  generalize hargs : ([.ref (ad 6 o 0), .int x1, .int x2] : List Value).toArray = args at S hts ⊢
  clear hargs
  have hK0 : ∀ (H : Heap) (locs : List Loc) (ls : Array Slot), zG D aC A nl ad σ s H → va_S A s.heap H locs → lv_has ls 3 [(0, .ref (ad 6 o 0)), (1, .int x1), (2, .int x2)] → f_X6_finish σ o x1 x2 = σ' → zWk p l e ({ frames := 0, cells := 0, slots := 0, locals := 0 } : Room) s m args below meth c A none (fun t => zG D aC A nl ad σ' t t.heap ∧ True) H locs (F0 m 0 ls []) := by
    intro H locs ls hG hS hl hf
    unfold f_X6_finish at hf
    refine lv_aload_n hx hb dX6_finish_0 rfl (lv_at hl 0 rfl) ?_
    refine lv_iload_n hx hb dX6_finish_1 rfl (lv_at hl 1 rfl) ?_
    refine z_putI (c0 := 6) (i0 := o) (k0 := 7) (T := TX6) S hG hS tyX6 tyX6_ok nmX6 h_o rfl inlX6 (by decide) rfl rfl zw_218 (by decide +kernel) rfl dX6_finish_2 (fun H locs hG hS => ?_)
    obtain ⟨σ1, eσ1, hf⟩ := zlt_s hf
    rw [← eσ1] at hG
    refine lv_aload_n hx hb dX6_finish_5 rfl (lv_at hl 0 rfl) ?_
    refine lv_iload_n hx hb dX6_finish_6 rfl (lv_at hl 2 rfl) ?_
    refine z_putI (c0 := 6) (i0 := o) (k0 := 8) (T := TX6) S hG hS tyX6 tyX6_ok nmX6 h_o rfl inlX6 (by decide) rfl rfl zw_219 (by decide +kernel) rfl dX6_finish_7 (fun H locs hG hS => ?_)
    obtain ⟨σ2, eσ2, hf⟩ := zlt_s hf
    rw [← eσ2] at hG
    have hq := hf
    subst hq
    exact z_vret S hG hS hlocks trivial hr dX6_finish_10
  exact hK0 _ _ ls hG hS hl hf
set_option maxRecDepth 100000 in
set_option maxHeartbeats 4000000 in
theorem c_X6_scoreOf (l : Launch) (D : va_G) (aC : Nat → ClassId) (zs : Nat × Nat) (A : Nat → Prop) (nl : zNL) (ad : Nat → Nat → Nat → Nat) (σ : zM) (o : Nat) (x1 : Int32) (r : Int32) (h_o : zin nl 6 o) (hf : f_X6_scoreOf σ o x1 = some r) : Met l yX6_scoreOf (Cond.code yX6_scoreOf cX6_scoreOf 2 (some .int) :: wsL_law) ({ frames := 0, cells := 0, slots := 0, locals := 0 } : Room) (zP D aC zs zfX A nl ad σ [.ref (ad 6 o 0), .int x1]) (zQ (some (.int r)) (fun t => zG D aC A nl ad σ t t.heap ∧ True) A) 0 0 A := by
  refine Met.ofW (cc := cX6_scoreOf) (maxL := 2) (ret := (some .int)) (by decide) rfl ?_
  intro p e s m args below meth c s₁ B hml hv
  obtain ⟨rfl, hG, hZ⟩ := hv
  have hx := B.exec
  have hb := B.bytes
  have hr := B.returns
  have hts : ∀ w ∈ wsL_law, w.before ([.ref (ad 6 o 0), .int x1] : List Value).toArray s = true := fun w h => (atoms_spec B.pre) w (List.mem_cons_of_mem _ h)
  have hown : s.vm.findClass RX6 = some m.cls := findClass_of_methodNamed B.named
  have hlocks := B.notSynchronized
  have S : zS p m c cX6_scoreOf 2 s ([.ref (ad 6 o 0), .int x1] : List Value).toArray RX6 := ⟨hx, hb, hml, hown, hts⟩
  have hS : va_S A s.heap s.heap [] := va_S.rf
  have hl := lv_entry ([.ref (ad 6 o 0), .int x1]) (n := 2) (Nat.le_of_ble_eq_true rfl)
  rw [lg_entry_eq]
  generalize (lg_sl ([.ref (ad 6 o 0), .int x1]) ++ List.replicate (2 - (lg_sl ([.ref (ad 6 o 0), .int x1])).length) Slot.unset).toArray = ls at hl ⊢
  have hl : lv_has ls 2 [(0, .ref (ad 6 o 0)), (1, .int x1)] := hl
  generalize hargs : ([.ref (ad 6 o 0), .int x1] : List Value).toArray = args at S hts ⊢
  clear hargs
  have hK0 : ∀ (H : Heap) (locs : List Loc) (ls : Array Slot), zG D aC A nl ad σ s H → va_S A s.heap H locs → lv_has ls 2 [(0, .ref (ad 6 o 0)), (1, .int x1)] → f_X6_scoreOf σ o x1 = some r → zWk p l e ({ frames := 0, cells := 0, slots := 0, locals := 0 } : Room) s m args below meth c A (some (.int r)) (fun t => zG D aC A nl ad σ t t.heap ∧ True) H locs (F0 m 0 ls []) := by
    intro H locs ls hG hS hl hf
    unfold f_X6_scoreOf at hf
    refine lv_iload_n hx hb dX6_scoreOf_0 rfl (lv_at hl 1 rfl) ?_
    refine lv_if_lt (tgt := 22) hx hb dX6_scoreOf_1 (by decide) (fun c1 => ?_) (fun c1 => ?_)
    · have hf := zif_p c1 hf
      refine lv_iconst (v := 0) hx hb dX6_scoreOf_22 (by decide) ?_
      have hq := (Option.some.inj hf)
      subst hq
      exact z_iret S hG hS hlocks trivial hr dX6_scoreOf_23
    · have hf := zif_n c1 hf
      refine lv_iload_n hx hb dX6_scoreOf_4 rfl (lv_at hl 1 rfl) ?_
      refine lv_aload_n hx hb dX6_scoreOf_5 rfl (lv_at hl 0 rfl) ?_
      refine z_get (c0 := 6) (i0 := o) (k0 := 4) (T := TX6) (v := .ref (ad 6 o 5)) S hG h_o rfl inlX6 (by decide) rfl zw_215 rfl dX6_scoreOf_6 ?_
      refine z_alen (c0 := 6) (i0 := o) (k0 := 4) (n := 4) (v := 10) S hG h_o (by decide) rfl (by decide) (by rfl) dX6_scoreOf_9 ?_
      refine lv_icmp_ge (tgt := 22) hx hb dX6_scoreOf_10 (by decide) (fun c2 => ?_) (fun c2 => ?_)
      · have hf := zif_p c2 hf
        refine lv_iconst (v := 0) hx hb dX6_scoreOf_22 (by decide) ?_
        have hq := (Option.some.inj hf)
        subst hq
        exact z_iret S hG hS hlocks trivial hr dX6_scoreOf_23
      · have hf := zif_n c2 hf
        refine lv_aload_n hx hb dX6_scoreOf_13 rfl (lv_at hl 0 rfl) ?_
        refine z_get (c0 := 6) (i0 := o) (k0 := 4) (T := TX6) (v := .ref (ad 6 o 5)) S hG h_o rfl inlX6 (by decide) rfl zw_215 rfl dX6_scoreOf_14 ?_
        refine lv_iload_n hx hb dX6_scoreOf_17 rfl (lv_at hl 1 rfl) ?_
        obtain ⟨i3, hi3, hf⟩ := zbi hf
        refine z_iald (c0 := 6) (i0 := o) (k0 := 4) S hG h_o (by decide) rfl hi3 dX6_scoreOf_18 ?_
        refine lv_goto (tgt := 23) hx hb dX6_scoreOf_19 (by decide) ?_
        have hq := (Option.some.inj hf)
        subst hq
        exact z_iret S hG hS hlocks trivial hr dX6_scoreOf_23
  exact hK0 _ _ ls hG hS hl hf
set_option maxRecDepth 100000 in
set_option maxHeartbeats 4000000 in
theorem c_X6_isAhead (l : Launch) (D : va_G) (aC : Nat → ClassId) (zs : Nat × Nat) (A : Nat → Prop) (nl : zNL) (ad : Nat → Nat → Nat → Nat) (σ : zM) (o : Nat) (x1 : Int32) (x2 : Int32) (r : Int32) (h_o : zin nl 6 o) (hf : f_X6_isAhead σ o x1 x2 = some r) : Met l yX6_isAhead (Cond.code yX6_isAhead cX6_isAhead 4 (some .boolean) :: wsL_law) ({ frames := 2, cells := 0, slots := 0, locals := 48 } : Room) (zP D aC zs zfX A nl ad σ [.ref (ad 6 o 0), .int x1, .int x2]) (zQ (some (.int r)) (fun t => zG D aC A nl ad σ t t.heap ∧ (r = 0 ∨ r = 1)) A) 0 0 A := by
  refine Met.ofW (cc := cX6_isAhead) (maxL := 4) (ret := (some .boolean)) (by decide) rfl ?_
  intro p e s m args below meth c s₁ B hml hv
  obtain ⟨rfl, hG, hZ⟩ := hv
  have hx := B.exec
  have hb := B.bytes
  have hr := B.returns
  have hts : ∀ w ∈ wsL_law, w.before ([.ref (ad 6 o 0), .int x1, .int x2] : List Value).toArray s = true := fun w h => (atoms_spec B.pre) w (List.mem_cons_of_mem _ h)
  have hown : s.vm.findClass RX6 = some m.cls := findClass_of_methodNamed B.named
  have hlocks := B.notSynchronized
  have S : zS p m c cX6_isAhead 4 s ([.ref (ad 6 o 0), .int x1, .int x2] : List Value).toArray RX6 := ⟨hx, hb, hml, hown, hts⟩
  have hS : va_S A s.heap s.heap [] := va_S.rf
  have hl := lv_entry ([.ref (ad 6 o 0), .int x1, .int x2]) (n := 4) (Nat.le_of_ble_eq_true rfl)
  rw [lg_entry_eq]
  generalize (lg_sl ([.ref (ad 6 o 0), .int x1, .int x2]) ++ List.replicate (4 - (lg_sl ([.ref (ad 6 o 0), .int x1, .int x2])).length) Slot.unset).toArray = ls at hl ⊢
  have hl : lv_has ls 4 [(0, .ref (ad 6 o 0)), (1, .int x1), (2, .int x2)] := hl
  generalize hargs : ([.ref (ad 6 o 0), .int x1, .int x2] : List Value).toArray = args at S hts ⊢
  clear hargs
  have KJ41 : ∀ (y3b41 : Int32)   (H : Heap) (locs : List Loc) (ls : Array Slot), zG D aC A nl ad σ s H → va_S A s.heap H locs → lv_has ls 4 [(0, .ref (ad 6 o 0)), (1, .int x1), (2, .int x2), (3, .int y3b41)] → (f_X6_isAhead_B41 σ o x1 x2 y3b41) = some r → zWk p l e ({ frames := 2, cells := 0, slots := 0, locals := 48 } : Room) s m args below meth c A (some (.int r)) (fun t => zG D aC A nl ad σ t t.heap ∧ (r = 0 ∨ r = 1)) H locs (F0 m 41 ls []) := by
    intro y3b41   H locs ls hG hS hl hf
    unfold f_X6_isAhead_B41 at hf
    refine lv_iload_n hx hb dX6_isAhead_41 rfl (lv_at hl 3 rfl) ?_
    refine lv_if_le (tgt := 49) hx hb dX6_isAhead_42 (by decide) (fun c7 => ?_) (fun c7 => ?_)
    · have hf := zif_p c7 hf
      refine lv_iconst (v := 0) hx hb dX6_isAhead_49 (by decide) ?_
      have hq := (Option.some.inj hf)
      subst hq
      exact z_zret S hG hS hlocks (Or.inl rfl) hr dX6_isAhead_50
    · have hf := zif_n c7 hf
      refine lv_iconst (v := 1) hx hb dX6_isAhead_45 (by decide) ?_
      refine lv_goto (tgt := 50) hx hb dX6_isAhead_46 (by decide) ?_
      have hq := (Option.some.inj hf)
      subst hq
      exact z_zret S hG hS hlocks (Or.inr rfl) hr dX6_isAhead_50
  have hK0 : ∀ (H : Heap) (locs : List Loc) (ls : Array Slot), zG D aC A nl ad σ s H → va_S A s.heap H locs → lv_has ls 4 [(0, .ref (ad 6 o 0)), (1, .int x1), (2, .int x2)] → f_X6_isAhead σ o x1 x2 = some r → zWk p l e ({ frames := 2, cells := 0, slots := 0, locals := 48 } : Room) s m args below meth c A (some (.int r)) (fun t => zG D aC A nl ad σ t t.heap ∧ (r = 0 ∨ r = 1)) H locs (F0 m 0 ls []) := by
    intro H locs ls hG hS hl hf
    unfold f_X6_isAhead at hf
    refine lv_aload_n hx hb dX6_isAhead_0 rfl (lv_at hl 0 rfl) ?_
    refine lv_iload_n hx hb dX6_isAhead_1 rfl (lv_at hl 1 rfl) ?_
    obtain ⟨r1, er1, hf⟩ := zbi hf
    refine z_callV (n := 1) (rest := []) (st1 := [.int r1]) (c0 := 6) (i0 := o) h_o (by rfl) S hG hS hZ (fun _ _ h => h) (c_X6_scoreOf l D aC zs A nl ad σ o x1 r1 h_o er1) zw_1343 zw_1344 zw_1345 zw_45 zw_1346 (by decide +kernel) ⟨rfl, rfl⟩ ⟨(Nat.le_of_ble_eq_true rfl), (Nat.le_of_ble_eq_true rfl)⟩ hl.1 rfl (by rfl) (by rfl) (Nat.le_of_ble_eq_true rfl) dX6_isAhead_2 ⟨Nat.zero_le _, Nat.zero_le _⟩ (fun H locs hz2 hG hS => ?_)
    refine lv_aload_n hx hb dX6_isAhead_5 rfl (lv_at hl 0 rfl) ?_
    refine lv_iload_n hx hb dX6_isAhead_6 rfl (lv_at hl 2 rfl) ?_
    obtain ⟨r3, er3, hf⟩ := zbi hf
    refine z_callV (n := 1) (rest := [.int r1]) (st1 := [.int r3, .int r1]) (c0 := 6) (i0 := o) h_o (by rfl) S hG hS hZ (fun _ _ h => h) (c_X6_scoreOf l D aC zs A nl ad σ o x2 r3 h_o er3) zw_1343 zw_1344 zw_1345 zw_45 zw_1346 (by decide +kernel) ⟨rfl, rfl⟩ ⟨(Nat.le_of_ble_eq_true rfl), (Nat.le_of_ble_eq_true rfl)⟩ hl.1 rfl (by rfl) (by rfl) (Nat.le_of_ble_eq_true rfl) dX6_isAhead_7 ⟨Nat.zero_le _, Nat.zero_le _⟩ (fun H locs hz4 hG hS => ?_)
    refine z_callS (n := 2) (rest := []) (st1 := [.int (f_J6_compare_7cf53 r1 r3)]) S hG hS hZ (fun _ _ h => h) (c_J6_compare_7cf53 l D aC zs zfX A nl ad σ r1 r3 (f_J6_compare_7cf53 r1 r3) rfl) zw_1332 zw_1333 zw_1022 zw_1334 (by decide +kernel) ⟨rfl, rfl⟩ ⟨(Nat.le_of_ble_eq_true rfl), (Nat.le_of_ble_eq_true rfl)⟩ hl.1 rfl (by rfl) (by rfl) (Nat.le_of_ble_eq_true rfl) dX6_isAhead_10 ⟨Nat.zero_le _, Nat.zero_le _⟩ (fun H locs hz5 hG hS => ?_)
    refine lv_istore_n (lv' := [(3, .int (f_J6_compare_7cf53 r1 r3)), (0, .ref (ad 6 o 0)), (1, .int x1), (2, .int x2)]) hx hb dX6_isAhead_13 rfl hl (by decide) rfl (fun ls hl => ?_)
    refine lv_iload_n hx hb dX6_isAhead_14 rfl (lv_at hl 0 rfl) ?_
    refine lv_if_ne (tgt := 41) hx hb dX6_isAhead_15 (by decide) (fun c6 => ?_) (fun c6 => ?_)
    · have hf := zif_n c6 hf
      exact KJ41 (f_J6_compare_7cf53 r1 r3) H locs ls hG hS (lv_sub hl [1, 2, 3, 0] rfl) hf
    · have hf := zif_p c6 hf
      refine lv_aload_n hx hb dX6_isAhead_18 rfl (lv_at hl 1 rfl) ?_
      refine z_get (c0 := 6) (i0 := o) (k0 := 8) (T := TX6) (v := .int (zI σ 6 o 8)) S hG h_o rfl inlX6 (by decide) rfl zw_219 rfl dX6_isAhead_19 ?_
      refine lv_if_ne (tgt := 41) hx hb dX6_isAhead_22 (by decide) (fun c8 => ?_) (fun c8 => ?_)
      · have hf := zif_n c8 hf
        exact KJ41 (f_J6_compare_7cf53 r1 r3) H locs ls hG hS (lv_sub hl [1, 2, 3, 0] rfl) hf
      · have hf := zif_p c8 hf
        refine lv_aload_n hx hb dX6_isAhead_25 rfl (lv_at hl 1 rfl) ?_
        refine lv_iconst (v := 0) hx hb dX6_isAhead_26 (by decide) ?_
        refine lv_iload_n hx hb dX6_isAhead_27 rfl (lv_at hl 3 rfl) ?_
        obtain ⟨r9, er9, hf⟩ := zbi hf
        refine z_callV (n := 2) (rest := []) (st1 := [.int r9]) (c0 := 6) (i0 := o) h_o (by rfl) S hG hS hZ (fun _ _ h => h) (c_X6_placeIn l D aC zs A nl ad σ o 0 x2 r9 h_o er9) zw_1324 zw_1325 zw_1326 zw_45 zw_1327 (by decide +kernel) ⟨rfl, rfl⟩ ⟨(Nat.le_of_ble_eq_true rfl), (Nat.le_of_ble_eq_true rfl)⟩ hl.1 rfl (by rfl) (by rfl) (Nat.le_of_ble_eq_true rfl) dX6_isAhead_28 ⟨Nat.zero_le _, Nat.zero_le _⟩ (fun H locs hz10 hG hS => ?_)
        refine lv_aload_n hx hb dX6_isAhead_31 rfl (lv_at hl 1 rfl) ?_
        refine lv_iconst (v := 0) hx hb dX6_isAhead_32 (by decide) ?_
        refine lv_iload_n hx hb dX6_isAhead_33 rfl (lv_at hl 2 rfl) ?_
        obtain ⟨r11, er11, hf⟩ := zbi hf
        refine z_callV (n := 2) (rest := [.int r9]) (st1 := [.int r11, .int r9]) (c0 := 6) (i0 := o) h_o (by rfl) S hG hS hZ (fun _ _ h => h) (c_X6_placeIn l D aC zs A nl ad σ o 0 x1 r11 h_o er11) zw_1324 zw_1325 zw_1326 zw_45 zw_1327 (by decide +kernel) ⟨rfl, rfl⟩ ⟨(Nat.le_of_ble_eq_true rfl), (Nat.le_of_ble_eq_true rfl)⟩ hl.1 rfl (by rfl) (by rfl) (Nat.le_of_ble_eq_true rfl) dX6_isAhead_34 ⟨Nat.zero_le _, Nat.zero_le _⟩ (fun H locs hz12 hG hS => ?_)
        refine z_callS (n := 2) (rest := []) (st1 := [.int (f_J6_compare_7cf53 r9 r11)]) S hG hS hZ (fun _ _ h => h) (c_J6_compare_7cf53 l D aC zs zfX A nl ad σ r9 r11 (f_J6_compare_7cf53 r9 r11) rfl) zw_1332 zw_1333 zw_1022 zw_1334 (by decide +kernel) ⟨rfl, rfl⟩ ⟨(Nat.le_of_ble_eq_true rfl), (Nat.le_of_ble_eq_true rfl)⟩ hl.1 rfl (by rfl) (by rfl) (Nat.le_of_ble_eq_true rfl) dX6_isAhead_37 ⟨Nat.zero_le _, Nat.zero_le _⟩ (fun H locs hz13 hG hS => ?_)
        refine lv_istore_n (lv' := [(3, .int (f_J6_compare_7cf53 r9 r11)), (0, .ref (ad 6 o 0)), (1, .int x1), (2, .int x2)]) hx hb dX6_isAhead_40 rfl hl (by decide) rfl (fun ls hl => ?_)
        exact KJ41 (f_J6_compare_7cf53 r9 r11) H locs ls hG hS (lv_sub hl [1, 2, 3, 0] rfl) hf
  exact hK0 _ _ ls hG hS hl hf
set_option maxRecDepth 100000 in
set_option maxHeartbeats 4000000 in
theorem c_X6_insert (l : Launch) (D : va_G) (aC : Nat → ClassId) (zs : Nat × Nat) (A : Nat → Prop) (nl : zNL) (ad : Nat → Nat → Nat → Nat) (σ : zM) (o : Nat) (x1 : Int32) (x2 : Int32)  (σ' : zM) (h_o : zin nl 6 o) (hf : f_X6_insert σ o x1 x2 = some σ') : Met l yX6_insert (Cond.code yX6_insert cX6_insert 5 none :: wsL_law) ({ frames := 3, cells := 0, slots := 0, locals := 71 } : Room) (zP D aC zs zfX A nl ad σ [.ref (ad 6 o 0), .int x1, .int x2]) (zQ none (fun t => zG D aC A nl ad σ' t t.heap ∧ True) A) 0 0 A := by
  refine Met.ofW (cc := cX6_insert) (maxL := 5) (ret := none) (by decide) rfl ?_
  intro p e s m args below meth c s₁ B hml hv
  obtain ⟨rfl, hG, hZ⟩ := hv
  have hx := B.exec
  have hb := B.bytes
  have hr := B.returns
  have hts : ∀ w ∈ wsL_law, w.before ([.ref (ad 6 o 0), .int x1, .int x2] : List Value).toArray s = true := fun w h => (atoms_spec B.pre) w (List.mem_cons_of_mem _ h)
  have hown : s.vm.findClass RX6 = some m.cls := findClass_of_methodNamed B.named
  have hlocks := B.notSynchronized
  have S : zS p m c cX6_insert 5 s ([.ref (ad 6 o 0), .int x1, .int x2] : List Value).toArray RX6 := ⟨hx, hb, hml, hown, hts⟩
  have hS : va_S A s.heap s.heap [] := va_S.rf
  have hl := lv_entry ([.ref (ad 6 o 0), .int x1, .int x2]) (n := 5) (Nat.le_of_ble_eq_true rfl)
  rw [lg_entry_eq]
  generalize (lg_sl ([.ref (ad 6 o 0), .int x1, .int x2]) ++ List.replicate (5 - (lg_sl ([.ref (ad 6 o 0), .int x1, .int x2])).length) Slot.unset).toArray = ls at hl ⊢
  have hl : lv_has ls 5 [(0, .ref (ad 6 o 0)), (1, .int x1), (2, .int x2)] := hl
  generalize hargs : ([.ref (ad 6 o 0), .int x1, .int x2] : List Value).toArray = args at S hts ⊢
  clear hargs
  have KJ72 : ∀ (y3b72 : Int32)  (σb72 : zM) (H : Heap) (locs : List Loc) (ls : Array Slot), zG D aC A nl ad σb72 s H → va_S A s.heap H locs → lv_has ls 5 [(0, .ref (ad 6 o 0)), (1, .int x1), (2, .int x2), (3, .int y3b72)] → (f_X6_insert_B72 σb72 o x1 x2 y3b72) = some σ' → zWk p l e ({ frames := 3, cells := 0, slots := 0, locals := 71 } : Room) s m args below meth c A none (fun t => zG D aC A nl ad σ' t t.heap ∧ True) H locs (F0 m 72 ls []) := by
    intro y3b72  σb72 H locs ls hG hS hl hf
    unfold f_X6_insert_B72 at hf
    refine lv_iload_n hx hb dX6_insert_72 rfl (lv_at hl 3 rfl) ?_
    refine lv_if_lt (tgt := 92) hx hb dX6_insert_73 (by decide) (fun c2 => ?_) (fun c2 => ?_)
    · have hf := zif_p c2 hf
      have hq := (Option.some.inj hf)
      subst hq
      exact z_vret S hG hS hlocks trivial hr dX6_insert_92
    · have hf := zif_n c2 hf
      refine lv_iload_n hx hb dX6_insert_76 rfl (lv_at hl 3 rfl) ?_
      refine lv_aload_n hx hb dX6_insert_77 rfl (lv_at hl 0 rfl) ?_
      refine z_get (c0 := 6) (i0 := o) (k0 := 5) (T := TX6) (v := .ref (ad 6 o 6)) S hG h_o rfl inlX6 (by decide) rfl zw_216 rfl dX6_insert_78 ?_
      refine z_alen (c0 := 6) (i0 := o) (k0 := 5) (n := 4) (v := 10) S hG h_o (by decide) rfl (by decide) (by rfl) dX6_insert_81 ?_
      refine lv_icmp_ge (tgt := 92) hx hb dX6_insert_82 (by decide) (fun c3 => ?_) (fun c3 => ?_)
      · have hf := zif_p c3 hf
        have hq := (Option.some.inj hf)
        subst hq
        exact z_vret S hG hS hlocks trivial hr dX6_insert_92
      · have hf := zif_n c3 hf
        refine lv_aload_n hx hb dX6_insert_85 rfl (lv_at hl 0 rfl) ?_
        refine z_get (c0 := 6) (i0 := o) (k0 := 5) (T := TX6) (v := .ref (ad 6 o 6)) S hG h_o rfl inlX6 (by decide) rfl zw_216 rfl dX6_insert_86 ?_
        refine lv_iload_n hx hb dX6_insert_89 rfl (lv_at hl 3 rfl) ?_
        refine lv_iload_n hx hb dX6_insert_90 rfl (lv_at hl 1 rfl) ?_
        obtain ⟨i4, hi4, hf⟩ := zbi hf
        refine z_iast (c0 := 6) (i0 := o) (k0 := 5) S hG hS h_o (by decide) rfl hi4 dX6_insert_91 (fun H locs hG hS => ?_)
        obtain ⟨σ5, eσ5, hf⟩ := zlt_s hf
        rw [← eσ5] at hG
        have hq := (Option.some.inj hf)
        subst hq
        exact z_vret S hG hS hlocks trivial hr dX6_insert_92
  have hK0 : ∀ (H : Heap) (locs : List Loc) (ls : Array Slot), zG D aC A nl ad σ s H → va_S A s.heap H locs → lv_has ls 5 [(0, .ref (ad 6 o 0)), (1, .int x1), (2, .int x2)] → f_X6_insert σ o x1 x2 = some σ' → zWk p l e ({ frames := 3, cells := 0, slots := 0, locals := 71 } : Room) s m args below meth c A none (fun t => zG D aC A nl ad σ' t t.heap ∧ True) H locs (F0 m 0 ls []) := by
    intro H locs ls hG hS hl hf
    unfold f_X6_insert at hf
    refine lv_iload_n hx hb dX6_insert_0 rfl (lv_at hl 2 rfl) ?_
    refine lv_istore_n (lv' := [(3, .int x2), (0, .ref (ad 6 o 0)), (1, .int x1), (2, .int x2)]) hx hb dX6_insert_1 rfl hl (by decide) rfl (fun ls hl => ?_)
    refine lv_iload_n hx hb dX6_insert_2 rfl (lv_at hl 3 rfl) ?_
    refine lv_iconst (v := 1) hx hb dX6_insert_3 (by decide) ?_
    refine lv_isub hx hb dX6_insert_4 ?_
    refine lv_istore (lv' := [(4, .int (x2 - 1)), (3, .int x2), (0, .ref (ad 6 o 0)), (1, .int x1), (2, .int x2)]) hx hb dX6_insert_5 hl (by decide) rfl (fun ls hl => ?_)
    obtain ⟨t7, hw7, hfo7⟩ := zbi hf
    have KL7 : ∀ (n : Nat) (y3l7 : Int32) (y4l7 : Int32) (σl7 : zM) (H : Heap) (locs : List Loc) (ls : Array Slot), zG D aC A nl ad σl7 s H → va_S A s.heap H locs → lv_has ls 5 [(0, .ref (ad 6 o 0)), (1, .int x1), (2, .int x2), (3, .int y3l7), (4, .int y4l7)] → zwh (fun (q : (Int32 × Int32 × zM)) => f_X6_insert_L7 o x1 x2 q.1 q.2.1 q.2.2) n (y3l7, y4l7, σl7) = some t7 → zWk p l e ({ frames := 3, cells := 0, slots := 0, locals := 71 } : Room) s m args below meth c A none (fun t => zG D aC A nl ad σ' t t.heap ∧ True) H locs (F0 m 7 ls []) := by
      intro n
      induction n with
      | zero =>
        intro y3l7 y4l7 σl7 H locs ls hG hS hl hw
        exact (zwh_0 hw).elim
      | succ n ih7 =>
        intro y3l7 y4l7 σl7 H locs ls hG hS hl hw
        obtain ⟨rr7, hf, hk7⟩ := zwh_u hw
        have hf : f_X6_insert_L7 o x1 x2 y3l7 y4l7 σl7 = some rr7 := hf
        unfold f_X6_insert_L7 at hf
        have KJ66_7 : ∀ (y3b66 : Int32) (y4b66 : Int32)  (σb66_7 : zM) (H : Heap) (locs : List Loc) (ls : Array Slot), zG D aC A nl ad σb66_7 s H → va_S A s.heap H locs → lv_has ls 5 [(0, .ref (ad 6 o 0)), (1, .int x1), (2, .int x2), (3, .int y3b66), (4, .int y4b66)] → (f_X6_insert_B66_7 σb66_7 o x1 x2 y3b66 y4b66) = some rr7 → zWk p l e ({ frames := 3, cells := 0, slots := 0, locals := 71 } : Room) s m args below meth c A none (fun t => zG D aC A nl ad σ' t t.heap ∧ True) H locs (F0 m 66 ls []) := by
          intro y3b66 y4b66  σb66_7 H locs ls hG hS hl hf
          unfold f_X6_insert_B66_7 at hf
          refine lv_iinc (v := (y4b66 + (-1))) (lv' := [(4, .int (y4b66 + (-1))), (0, .ref (ad 6 o 0)), (1, .int x1), (2, .int x2), (3, .int y3b66)]) hx hb dX6_insert_66 hl (k := 4) rfl rfl (by decide) rfl (fun ls hl => ?_)
          refine lv_goto (tgt := 7) hx hb dX6_insert_69 (by decide) ?_
          cases hf
          exact ih7 y3b66 (y4b66 + (-1)) σb66_7 H locs ls hG hS (lv_sub hl [1, 2, 3, 4, 0] rfl) hk7
        refine lv_iload hx hb dX6_insert_7 (lv_at hl 4 rfl) ?_
        refine lv_if_lt (tgt := 72) hx hb dX6_insert_9 (by decide) (fun c15 => ?_) (fun c15 => ?_)
        · have hf := zif_p c15 hf
          cases hf
          have hk7 : ((y3l7, σl7) : (Int32 × zM)) = t7 := hk7
          have hf := hfo7
          rw [← hk7] at hf
          have hf : (f_X6_insert_B72 σl7 o x1 x2 y3l7) = some σ' := hf
          exact KJ72 y3l7 σl7 H locs ls hG hS (lv_sub hl [0, 1, 2, 3] rfl) hf
        · have hf := zif_n c15 hf
          refine lv_iload hx hb dX6_insert_12 (lv_at hl 4 rfl) ?_
          refine lv_iconst (v := 1) hx hb dX6_insert_14 (by decide) ?_
          refine lv_iadd hx hb dX6_insert_15 ?_
          refine lv_aload_n hx hb dX6_insert_16 rfl (lv_at hl 0 rfl) ?_
          refine z_get (c0 := 6) (i0 := o) (k0 := 5) (T := TX6) (v := .ref (ad 6 o 6)) S hG h_o rfl inlX6 (by decide) rfl zw_216 rfl dX6_insert_17 ?_
          refine z_alen (c0 := 6) (i0 := o) (k0 := 5) (n := 4) (v := 10) S hG h_o (by decide) rfl (by decide) (by rfl) dX6_insert_20 ?_
          refine lv_icmp_ge (tgt := 72) hx hb dX6_insert_21 (by decide) (fun c16 => ?_) (fun c16 => ?_)
          · have hf := zif_p c16 hf
            cases hf
            have hk7 : ((y3l7, σl7) : (Int32 × zM)) = t7 := hk7
            have hf := hfo7
            rw [← hk7] at hf
            have hf : (f_X6_insert_B72 σl7 o x1 x2 y3l7) = some σ' := hf
            exact KJ72 y3l7 σl7 H locs ls hG hS (lv_sub hl [0, 1, 2, 3] rfl) hf
          · have hf := zif_n c16 hf
            refine lv_iload_n hx hb dX6_insert_24 rfl (lv_at hl 3 rfl) ?_
            refine lv_iload hx hb dX6_insert_25 (lv_at hl 4 rfl) ?_
            refine lv_iconst (v := 1) hx hb dX6_insert_27 (by decide) ?_
            refine lv_iadd hx hb dX6_insert_28 ?_
            refine lv_icmp_ne (tgt := 66) hx hb dX6_insert_29 (by decide) (fun c17 => ?_) (fun c17 => ?_)
            · have hf := zif_n c17 hf
              exact KJ66_7 y3l7 y4l7 σl7 H locs ls hG hS (lv_sub hl [0, 1, 2, 3, 4] rfl) hf
            · have hf := zif_p c17 hf
              refine lv_aload_n hx hb dX6_insert_32 rfl (lv_at hl 0 rfl) ?_
              refine lv_iload_n hx hb dX6_insert_33 rfl (lv_at hl 1 rfl) ?_
              refine lv_aload_n hx hb dX6_insert_34 rfl (lv_at hl 0 rfl) ?_
              refine z_get (c0 := 6) (i0 := o) (k0 := 5) (T := TX6) (v := .ref (ad 6 o 6)) S hG h_o rfl inlX6 (by decide) rfl zw_216 rfl dX6_insert_35 ?_
              refine lv_iload hx hb dX6_insert_38 (lv_at hl 4 rfl) ?_
              obtain ⟨i18, hi18, hf⟩ := zbi hf
              refine z_iald (c0 := 6) (i0 := o) (k0 := 5) S hG h_o (by decide) rfl hi18 dX6_insert_40 ?_
              obtain ⟨r19, er19, hf⟩ := zbi hf
              refine z_callV (n := 2) (rest := []) (st1 := [.int r19]) (c0 := 6) (i0 := o) h_o (by rfl) S hG hS hZ (fun _ _ h => h) (c_X6_isAhead l D aC zs A nl ad σl7 o x1 (zA σl7 6 o 5 i18) r19 h_o er19) zw_1339 zw_1340 zw_1341 zw_45 zw_1342 (by decide +kernel) ⟨rfl, rfl⟩ ⟨(Nat.le_of_ble_eq_true rfl), (Nat.le_of_ble_eq_true rfl)⟩ hl.1 rfl (by rfl) (by rfl) (Nat.le_of_ble_eq_true rfl) dX6_insert_41 ⟨Nat.zero_le _, Nat.zero_le _⟩ (fun H locs hz20 hG hS => ?_)
              refine lv_if_eq (tgt := 66) hx hb dX6_insert_44 (by decide) (fun c21 => ?_) (fun c21 => ?_)
              · have hf := zif_p c21 hf
                exact KJ66_7 y3l7 y4l7 σl7 H locs ls hG hS (lv_sub hl [0, 1, 2, 3, 4] rfl) hf
              · have hf := zif_n c21 hf
                refine lv_aload_n hx hb dX6_insert_47 rfl (lv_at hl 0 rfl) ?_
                refine z_get (c0 := 6) (i0 := o) (k0 := 5) (T := TX6) (v := .ref (ad 6 o 6)) S hG h_o rfl inlX6 (by decide) rfl zw_216 rfl dX6_insert_48 ?_
                refine lv_iload hx hb dX6_insert_51 (lv_at hl 4 rfl) ?_
                refine lv_iconst (v := 1) hx hb dX6_insert_53 (by decide) ?_
                refine lv_iadd hx hb dX6_insert_54 ?_
                refine lv_aload_n hx hb dX6_insert_55 rfl (lv_at hl 0 rfl) ?_
                refine z_get (c0 := 6) (i0 := o) (k0 := 5) (T := TX6) (v := .ref (ad 6 o 6)) S hG h_o rfl inlX6 (by decide) rfl zw_216 rfl dX6_insert_56 ?_
                refine lv_iload hx hb dX6_insert_59 (lv_at hl 4 rfl) ?_
                obtain ⟨i22, hi22, hf⟩ := zbi hf
                refine z_iald (c0 := 6) (i0 := o) (k0 := 5) S hG h_o (by decide) rfl hi22 dX6_insert_61 ?_
                obtain ⟨i23, hi23, hf⟩ := zbi hf
                refine z_iast (c0 := 6) (i0 := o) (k0 := 5) S hG hS h_o (by decide) rfl hi23 dX6_insert_62 (fun H locs hG hS => ?_)
                obtain ⟨σ24, eσ24, hf⟩ := zlt_s hf
                rw [← eσ24] at hG
                refine lv_iload hx hb dX6_insert_63 (lv_at hl 4 rfl) ?_
                refine lv_istore_n (lv' := [(3, .int y4l7), (0, .ref (ad 6 o 0)), (1, .int x1), (2, .int x2), (4, .int y4l7)]) hx hb dX6_insert_65 rfl hl (by decide) rfl (fun ls hl => ?_)
                exact KJ66_7 y4l7 y4l7 σ24 H locs ls hG hS (lv_sub hl [1, 2, 3, 0, 4] rfl) hf
    exact KL7 zFu x2 (x2 - 1) σ H locs ls hG hS (lv_sub hl [2, 3, 4, 1, 0] rfl) hw7
  exact hK0 _ _ ls hG hS hl hf
set_option maxRecDepth 100000 in
set_option maxHeartbeats 4000000 in
theorem c_X6_rankAll (l : Launch) (D : va_G) (aC : Nat → ClassId) (zs : Nat × Nat) (A : Nat → Prop) (nl : zNL) (ad : Nat → Nat → Nat → Nat) (σ : zM) (o : Nat) (x1 : Int32)  (σ' : zM) (h_o : zin nl 6 o) (hf : f_X6_rankAll σ o x1 = some σ') : Met l yX6_rankAll (Cond.code yX6_rankAll cX6_rankAll 4 none :: wsL_law) ({ frames := 4, cells := 0, slots := 0, locals := 96 } : Room) (zP D aC zs zfX A nl ad σ [.ref (ad 6 o 0), .int x1]) (zQ none (fun t => zG D aC A nl ad σ' t t.heap ∧ True) A) 0 0 A := by
  refine Met.ofW (cc := cX6_rankAll) (maxL := 4) (ret := none) (by decide) rfl ?_
  intro p e s m args below meth c s₁ B hml hv
  obtain ⟨rfl, hG, hZ⟩ := hv
  have hx := B.exec
  have hb := B.bytes
  have hr := B.returns
  have hts : ∀ w ∈ wsL_law, w.before ([.ref (ad 6 o 0), .int x1] : List Value).toArray s = true := fun w h => (atoms_spec B.pre) w (List.mem_cons_of_mem _ h)
  have hown : s.vm.findClass RX6 = some m.cls := findClass_of_methodNamed B.named
  have hlocks := B.notSynchronized
  have S : zS p m c cX6_rankAll 4 s ([.ref (ad 6 o 0), .int x1] : List Value).toArray RX6 := ⟨hx, hb, hml, hown, hts⟩
  have hS : va_S A s.heap s.heap [] := va_S.rf
  have hl := lv_entry ([.ref (ad 6 o 0), .int x1]) (n := 4) (Nat.le_of_ble_eq_true rfl)
  rw [lg_entry_eq]
  generalize (lg_sl ([.ref (ad 6 o 0), .int x1]) ++ List.replicate (4 - (lg_sl ([.ref (ad 6 o 0), .int x1])).length) Slot.unset).toArray = ls at hl ⊢
  have hl : lv_has ls 4 [(0, .ref (ad 6 o 0)), (1, .int x1)] := hl
  generalize hargs : ([.ref (ad 6 o 0), .int x1] : List Value).toArray = args at S hts ⊢
  clear hargs
  have hK0 : ∀ (H : Heap) (locs : List Loc) (ls : Array Slot), zG D aC A nl ad σ s H → va_S A s.heap H locs → lv_has ls 4 [(0, .ref (ad 6 o 0)), (1, .int x1)] → f_X6_rankAll σ o x1 = some σ' → zWk p l e ({ frames := 4, cells := 0, slots := 0, locals := 96 } : Room) s m args below meth c A none (fun t => zG D aC A nl ad σ' t t.heap ∧ True) H locs (F0 m 0 ls []) := by
    intro H locs ls hG hS hl hf
    unfold f_X6_rankAll at hf
    refine lv_iconst (v := 0) hx hb dX6_rankAll_0 (by decide) ?_
    refine lv_istore_n (lv' := [(2, .int 0), (0, .ref (ad 6 o 0)), (1, .int x1)]) hx hb dX6_rankAll_1 rfl hl (by decide) rfl (fun ls hl => ?_)
    refine lv_iconst (v := 0) hx hb dX6_rankAll_2 (by decide) ?_
    refine lv_istore_n (lv' := [(3, .int 0), (2, .int 0), (0, .ref (ad 6 o 0)), (1, .int x1)]) hx hb dX6_rankAll_3 rfl hl (by decide) rfl (fun ls hl => ?_)
    obtain ⟨t4, hw4, hfo4⟩ := zbi hf
    have KL4 : ∀ (n : Nat) (y2l4 : Int32) (y3l4 : Int32) (σl4 : zM) (H : Heap) (locs : List Loc) (ls : Array Slot), zG D aC A nl ad σl4 s H → va_S A s.heap H locs → lv_has ls 4 [(0, .ref (ad 6 o 0)), (1, .int x1), (2, .int y2l4), (3, .int y3l4)] → zwh (fun (q : (Int32 × Int32 × zM)) => f_X6_rankAll_L4 o x1 q.1 q.2.1 q.2.2) n (y2l4, y3l4, σl4) = some t4 → zWk p l e ({ frames := 4, cells := 0, slots := 0, locals := 96 } : Room) s m args below meth c A none (fun t => zG D aC A nl ad σ' t t.heap ∧ True) H locs (F0 m 4 ls []) := by
      intro n
      induction n with
      | zero =>
        intro y2l4 y3l4 σl4 H locs ls hG hS hl hw
        exact (zwh_0 hw).elim
      | succ n ih4 =>
        intro y2l4 y3l4 σl4 H locs ls hG hS hl hw
        obtain ⟨rr4, hf, hk4⟩ := zwh_u hw
        have hf : f_X6_rankAll_L4 o x1 y2l4 y3l4 σl4 = some rr4 := hf
        unfold f_X6_rankAll_L4 at hf
        have KJ52_4 : ∀ (y2b52 : Int32) (y3b52 : Int32)  (σb52_4 : zM) (H : Heap) (locs : List Loc) (ls : Array Slot), zG D aC A nl ad σb52_4 s H → va_S A s.heap H locs → lv_has ls 4 [(0, .ref (ad 6 o 0)), (1, .int x1), (2, .int y2b52), (3, .int y3b52)] → (f_X6_rankAll_B52_4 σb52_4 o x1 y2b52 y3b52) = some rr4 → zWk p l e ({ frames := 4, cells := 0, slots := 0, locals := 96 } : Room) s m args below meth c A none (fun t => zG D aC A nl ad σ' t t.heap ∧ True) H locs (F0 m 52 ls []) := by
          intro y2b52 y3b52  σb52_4 H locs ls hG hS hl hf
          unfold f_X6_rankAll_B52_4 at hf
          refine lv_iinc (v := (y3b52 + 1)) (lv' := [(3, .int (y3b52 + 1)), (0, .ref (ad 6 o 0)), (1, .int x1), (2, .int y2b52)]) hx hb dX6_rankAll_52 hl (k := 3) rfl rfl (by decide) rfl (fun ls hl => ?_)
          refine lv_goto (tgt := 4) hx hb dX6_rankAll_55 (by decide) ?_
          cases hf
          exact ih4 y2b52 (y3b52 + 1) σb52_4 H locs ls hG hS (lv_sub hl [1, 2, 3, 0] rfl) hk4
        refine lv_iload_n hx hb dX6_rankAll_4 rfl (lv_at hl 3 rfl) ?_
        refine lv_aload_n hx hb dX6_rankAll_5 rfl (lv_at hl 0 rfl) ?_
        refine z_get (c0 := 6) (i0 := o) (k0 := 0) (T := TX6) (v := .ref (ad 6 o 1)) S hG h_o rfl inlX6 (by decide) rfl zw_211 rfl dX6_rankAll_6 ?_
        refine z_alen (c0 := 6) (i0 := o) (k0 := 0) (n := 6) (v := 10) S hG h_o (by decide) rfl (by decide) (by rfl) dX6_rankAll_9 ?_
        refine lv_icmp_ge (tgt := 58) hx hb dX6_rankAll_10 (by decide) (fun c11 => ?_) (fun c11 => ?_)
        · have hf := zif_p c11 hf
          cases hf
          have hk4 : (σl4 : zM) = t4 := hk4
          have hf := hfo4
          rw [← hk4] at hf
          have hf : (some σl4) = some σ' := hf
          have hq := (Option.some.inj hf)
          subst hq
          exact z_vret S hG hS hlocks trivial hr dX6_rankAll_58
        · have hf := zif_n c11 hf
          refine lv_iload_n hx hb dX6_rankAll_13 rfl (lv_at hl 3 rfl) ?_
          refine lv_aload_n hx hb dX6_rankAll_14 rfl (lv_at hl 0 rfl) ?_
          refine z_get (c0 := 6) (i0 := o) (k0 := 4) (T := TX6) (v := .ref (ad 6 o 5)) S hG h_o rfl inlX6 (by decide) rfl zw_215 rfl dX6_rankAll_15 ?_
          refine z_alen (c0 := 6) (i0 := o) (k0 := 4) (n := 4) (v := 10) S hG h_o (by decide) rfl (by decide) (by rfl) dX6_rankAll_18 ?_
          refine lv_icmp_ge (tgt := 58) hx hb dX6_rankAll_19 (by decide) (fun c12 => ?_) (fun c12 => ?_)
          · have hf := zif_p c12 hf
            cases hf
            have hk4 : (σl4 : zM) = t4 := hk4
            have hf := hfo4
            rw [← hk4] at hf
            have hf : (some σl4) = some σ' := hf
            have hq := (Option.some.inj hf)
            subst hq
            exact z_vret S hG hS hlocks trivial hr dX6_rankAll_58
          · have hf := zif_n c12 hf
            refine lv_aload_n hx hb dX6_rankAll_22 rfl (lv_at hl 0 rfl) ?_
            refine z_get (c0 := 6) (i0 := o) (k0 := 0) (T := TX6) (v := .ref (ad 6 o 1)) S hG h_o rfl inlX6 (by decide) rfl zw_211 rfl dX6_rankAll_23 ?_
            refine lv_iload_n hx hb dX6_rankAll_26 rfl (lv_at hl 3 rfl) ?_
            obtain ⟨i13, hi13, hf⟩ := zbi hf
            refine z_zald (c0 := 6) (i0 := o) (k0 := 0) S hG h_o (by decide) rfl hi13 dX6_rankAll_27 ?_
            refine lv_if_eq (tgt := 52) hx hb dX6_rankAll_28 (by decide) (fun c14 => ?_) (fun c14 => ?_)
            · have hf := zif_p c14 hf
              exact KJ52_4 y2l4 y3l4 σl4 H locs ls hG hS (lv_sub hl [0, 1, 2, 3] rfl) hf
            · have hf := zif_n c14 hf
              refine lv_aload_n hx hb dX6_rankAll_31 rfl (lv_at hl 0 rfl) ?_
              refine z_get (c0 := 6) (i0 := o) (k0 := 4) (T := TX6) (v := .ref (ad 6 o 5)) S hG h_o rfl inlX6 (by decide) rfl zw_215 rfl dX6_rankAll_32 ?_
              refine lv_iload_n hx hb dX6_rankAll_35 rfl (lv_at hl 3 rfl) ?_
              refine lv_aload_n hx hb dX6_rankAll_36 rfl (lv_at hl 0 rfl) ?_
              refine lv_iload_n hx hb dX6_rankAll_37 rfl (lv_at hl 1 rfl) ?_
              refine lv_iload_n hx hb dX6_rankAll_38 rfl (lv_at hl 3 rfl) ?_
              obtain ⟨r15, er15, hf⟩ := zbi hf
              refine z_callV (n := 2) (rest := [.int y3l4, .ref (ad 6 o 5)]) (st1 := [.int r15, .int y3l4, .ref (ad 6 o 5)]) (c0 := 6) (i0 := o) h_o (by rfl) S hG hS hZ (fun _ _ h => h) (c_X6_pointsBy l D aC zs A nl ad σl4 o x1 y3l4 r15 h_o er15) zw_1316 zw_1317 zw_1318 zw_45 zw_1319 (by decide +kernel) ⟨rfl, rfl⟩ ⟨(Nat.le_of_ble_eq_true rfl), (Nat.le_of_ble_eq_true rfl)⟩ hl.1 rfl (by rfl) (by rfl) (Nat.le_of_ble_eq_true rfl) dX6_rankAll_39 ⟨Nat.zero_le _, Nat.zero_le _⟩ (fun H locs hz16 hG hS => ?_)
              obtain ⟨i17, hi17, hf⟩ := zbi hf
              refine z_iast (c0 := 6) (i0 := o) (k0 := 4) S hG hS h_o (by decide) rfl hi17 dX6_rankAll_42 (fun H locs hG hS => ?_)
              obtain ⟨σ18, eσ18, hf⟩ := zlt_s hf
              rw [← eσ18] at hG
              refine lv_aload_n hx hb dX6_rankAll_43 rfl (lv_at hl 0 rfl) ?_
              refine lv_iload_n hx hb dX6_rankAll_44 rfl (lv_at hl 3 rfl) ?_
              refine lv_iload_n hx hb dX6_rankAll_45 rfl (lv_at hl 2 rfl) ?_
              obtain ⟨σ19, eσ19, hf⟩ := zbi hf
              refine z_callV (n := 2) (rest := []) (st1 := []) (c0 := 6) (i0 := o) h_o (by rfl) S hG hS hZ (fun _ _ h => h) (c_X6_insert l D aC zs A nl ad σ18 o y3l4 y2l4 σ19 h_o eσ19) zw_1335 zw_1336 zw_1337 zw_45 zw_1338 (by decide +kernel) ⟨rfl, rfl⟩ ⟨(Nat.le_of_ble_eq_true rfl), (Nat.le_of_ble_eq_true rfl)⟩ hl.1 rfl (by rfl) (by rfl) (Nat.le_of_ble_eq_true rfl) dX6_rankAll_46 ⟨Nat.zero_le _, Nat.zero_le _⟩ (fun H locs hz20 hG hS => ?_)
              refine lv_iinc (v := (y2l4 + 1)) (lv' := [(2, .int (y2l4 + 1)), (0, .ref (ad 6 o 0)), (1, .int x1), (3, .int y3l4)]) hx hb dX6_rankAll_49 hl (k := 2) rfl rfl (by decide) rfl (fun ls hl => ?_)
              exact KJ52_4 (y2l4 + 1) y3l4 σ19 H locs ls hG hS (lv_sub hl [1, 2, 0, 3] rfl) hf
    exact KL4 zFu 0 0 σ H locs ls hG hS (lv_sub hl [2, 3, 1, 0] rfl) hw4
  exact hK0 _ _ ls hG hS hl hf
set_option maxRecDepth 100000 in
set_option maxHeartbeats 4000000 in
theorem c_X6_rankedAt (l : Launch) (D : va_G) (aC : Nat → ClassId) (zs : Nat × Nat) (A : Nat → Prop) (nl : zNL) (ad : Nat → Nat → Nat → Nat) (σ : zM) (o : Nat) (x1 : Int32) (x2 : Int32) (r : Int32) (σ' : zM) (h_o : zin nl 6 o) (hf : f_X6_rankedAt σ o x1 x2 = some (r, σ')) : Met l yX6_rankedAt (Cond.code yX6_rankedAt cX6_rankedAt 3 (some .int) :: wsL_law) ({ frames := 5, cells := 0, slots := 0, locals := 119 } : Room) (zP D aC zs zfX A nl ad σ [.ref (ad 6 o 0), .int x1, .int x2]) (zQ (some (.int r)) (fun t => zG D aC A nl ad σ' t t.heap ∧ True) A) 0 0 A := by
  refine Met.ofW (cc := cX6_rankedAt) (maxL := 3) (ret := (some .int)) (by decide) rfl ?_
  intro p e s m args below meth c s₁ B hml hv
  obtain ⟨rfl, hG, hZ⟩ := hv
  have hx := B.exec
  have hb := B.bytes
  have hr := B.returns
  have hts : ∀ w ∈ wsL_law, w.before ([.ref (ad 6 o 0), .int x1, .int x2] : List Value).toArray s = true := fun w h => (atoms_spec B.pre) w (List.mem_cons_of_mem _ h)
  have hown : s.vm.findClass RX6 = some m.cls := findClass_of_methodNamed B.named
  have hlocks := B.notSynchronized
  have S : zS p m c cX6_rankedAt 3 s ([.ref (ad 6 o 0), .int x1, .int x2] : List Value).toArray RX6 := ⟨hx, hb, hml, hown, hts⟩
  have hS : va_S A s.heap s.heap [] := va_S.rf
  have hl := lv_entry ([.ref (ad 6 o 0), .int x1, .int x2]) (n := 3) (Nat.le_of_ble_eq_true rfl)
  rw [lg_entry_eq]
  generalize (lg_sl ([.ref (ad 6 o 0), .int x1, .int x2]) ++ List.replicate (3 - (lg_sl ([.ref (ad 6 o 0), .int x1, .int x2])).length) Slot.unset).toArray = ls at hl ⊢
  have hl : lv_has ls 3 [(0, .ref (ad 6 o 0)), (1, .int x1), (2, .int x2)] := hl
  generalize hargs : ([.ref (ad 6 o 0), .int x1, .int x2] : List Value).toArray = args at S hts ⊢
  clear hargs
  have hK0 : ∀ (H : Heap) (locs : List Loc) (ls : Array Slot), zG D aC A nl ad σ s H → va_S A s.heap H locs → lv_has ls 3 [(0, .ref (ad 6 o 0)), (1, .int x1), (2, .int x2)] → f_X6_rankedAt σ o x1 x2 = some (r, σ') → zWk p l e ({ frames := 5, cells := 0, slots := 0, locals := 119 } : Room) s m args below meth c A (some (.int r)) (fun t => zG D aC A nl ad σ' t t.heap ∧ True) H locs (F0 m 0 ls []) := by
    intro H locs ls hG hS hl hf
    unfold f_X6_rankedAt at hf
    refine lv_iload_n hx hb dX6_rankedAt_0 rfl (lv_at hl 2 rfl) ?_
    refine lv_if_lt (tgt := 21) hx hb dX6_rankedAt_1 (by decide) (fun c1 => ?_) (fun c1 => ?_)
    · have hf := zif_p c1 hf
      refine lv_iconst (v := (-1)) hx hb dX6_rankedAt_21 (by decide) ?_
      obtain ⟨hq1, hq2⟩ := Prod.mk.inj (Option.some.inj hf)
      subst hq1
      subst hq2
      exact z_iret S hG hS hlocks trivial hr dX6_rankedAt_22
    · have hf := zif_n c1 hf
      refine lv_iload_n hx hb dX6_rankedAt_4 rfl (lv_at hl 2 rfl) ?_
      refine lv_aload_n hx hb dX6_rankedAt_5 rfl (lv_at hl 0 rfl) ?_
      refine z_get (c0 := 6) (i0 := o) (k0 := 6) (T := TX6) (v := .int (zI σ 6 o 6)) S hG h_o rfl inlX6 (by decide) rfl zw_217 rfl dX6_rankedAt_6 ?_
      refine lv_icmp_ge (tgt := 21) hx hb dX6_rankedAt_9 (by decide) (fun c2 => ?_) (fun c2 => ?_)
      · have hf := zif_p c2 hf
        refine lv_iconst (v := (-1)) hx hb dX6_rankedAt_21 (by decide) ?_
        obtain ⟨hq1, hq2⟩ := Prod.mk.inj (Option.some.inj hf)
        subst hq1
        subst hq2
        exact z_iret S hG hS hlocks trivial hr dX6_rankedAt_22
      · have hf := zif_n c2 hf
        refine lv_iload_n hx hb dX6_rankedAt_12 rfl (lv_at hl 2 rfl) ?_
        refine lv_aload_n hx hb dX6_rankedAt_13 rfl (lv_at hl 0 rfl) ?_
        refine z_get (c0 := 6) (i0 := o) (k0 := 5) (T := TX6) (v := .ref (ad 6 o 6)) S hG h_o rfl inlX6 (by decide) rfl zw_216 rfl dX6_rankedAt_14 ?_
        refine z_alen (c0 := 6) (i0 := o) (k0 := 5) (n := 4) (v := 10) S hG h_o (by decide) rfl (by decide) (by rfl) dX6_rankedAt_17 ?_
        refine lv_icmp_lt (tgt := 23) hx hb dX6_rankedAt_18 (by decide) (fun c3 => ?_) (fun c3 => ?_)
        · have hf := zif_p c3 hf
          refine lv_aload_n hx hb dX6_rankedAt_23 rfl (lv_at hl 0 rfl) ?_
          refine lv_iload_n hx hb dX6_rankedAt_24 rfl (lv_at hl 1 rfl) ?_
          obtain ⟨σ4, eσ4, hf⟩ := zbi hf
          refine z_callV (n := 1) (rest := []) (st1 := []) (c0 := 6) (i0 := o) h_o (by rfl) S hG hS hZ (fun _ _ h => h) (c_X6_rankAll l D aC zs A nl ad σ o x1 σ4 h_o eσ4) zw_1312 zw_1313 zw_1314 zw_45 zw_1315 (by decide +kernel) ⟨rfl, rfl⟩ ⟨(Nat.le_of_ble_eq_true rfl), (Nat.le_of_ble_eq_true rfl)⟩ hl.1 rfl (by rfl) (by rfl) (Nat.le_of_ble_eq_true rfl) dX6_rankedAt_25 ⟨Nat.zero_le _, Nat.zero_le _⟩ (fun H locs hz5 hG hS => ?_)
          refine lv_aload_n hx hb dX6_rankedAt_28 rfl (lv_at hl 0 rfl) ?_
          refine z_get (c0 := 6) (i0 := o) (k0 := 5) (T := TX6) (v := .ref (ad 6 o 6)) S hG h_o rfl inlX6 (by decide) rfl zw_216 rfl dX6_rankedAt_29 ?_
          refine lv_iload_n hx hb dX6_rankedAt_32 rfl (lv_at hl 2 rfl) ?_
          obtain ⟨i6, hi6, hf⟩ := zbi hf
          refine z_iald (c0 := 6) (i0 := o) (k0 := 5) S hG h_o (by decide) rfl hi6 dX6_rankedAt_33 ?_
          obtain ⟨hq1, hq2⟩ := Prod.mk.inj (Option.some.inj hf)
          subst hq1
          subst hq2
          exact z_iret S hG hS hlocks trivial hr dX6_rankedAt_34
        · have hf := zif_n c3 hf
          refine lv_iconst (v := (-1)) hx hb dX6_rankedAt_21 (by decide) ?_
          obtain ⟨hq1, hq2⟩ := Prod.mk.inj (Option.some.inj hf)
          subst hq1
          subst hq2
          exact z_iret S hG hS hlocks trivial hr dX6_rankedAt_22
  exact hK0 _ _ ls hG hS hl hf
set_option maxRecDepth 100000 in
set_option maxHeartbeats 4000000 in
theorem c_X6_keepBest (l : Launch) (D : va_G) (aC : Nat → ClassId) (zs : Nat × Nat) (A : Nat → Prop) (nl : zNL) (ad : Nat → Nat → Nat → Nat) (σ : zM) (o : Nat) (x1 : Int32) (x2 : Nat) (r : Int32) (σ' : zM) (h_o : zin nl 6 o) (h_x2 : zin nl 6 x2) (hf : f_X6_keepBest σ o x1 x2 = some (r, σ')) : Met l yX6_keepBest (Cond.code yX6_keepBest cX6_keepBest 6 (some .int) :: wsL_law) ({ frames := 5, cells := 0, slots := 0, locals := 119 } : Room) (zP D aC zs zfX A nl ad σ [.ref (ad 6 o 0), .int x1, .ref (ad 6 x2 0)]) (zQ (some (.int r)) (fun t => zG D aC A nl ad σ' t t.heap ∧ True) A) 0 0 A := by
  refine Met.ofW (cc := cX6_keepBest) (maxL := 6) (ret := (some .int)) (by decide) rfl ?_
  intro p e s m args below meth c s₁ B hml hv
  obtain ⟨rfl, hG, hZ⟩ := hv
  have hx := B.exec
  have hb := B.bytes
  have hr := B.returns
  have hts : ∀ w ∈ wsL_law, w.before ([.ref (ad 6 o 0), .int x1, .ref (ad 6 x2 0)] : List Value).toArray s = true := fun w h => (atoms_spec B.pre) w (List.mem_cons_of_mem _ h)
  have hown : s.vm.findClass RX6 = some m.cls := findClass_of_methodNamed B.named
  have hlocks := B.notSynchronized
  have S : zS p m c cX6_keepBest 6 s ([.ref (ad 6 o 0), .int x1, .ref (ad 6 x2 0)] : List Value).toArray RX6 := ⟨hx, hb, hml, hown, hts⟩
  have hS : va_S A s.heap s.heap [] := va_S.rf
  have hl := lv_entry ([.ref (ad 6 o 0), .int x1, .ref (ad 6 x2 0)]) (n := 6) (Nat.le_of_ble_eq_true rfl)
  rw [lg_entry_eq]
  generalize (lg_sl ([.ref (ad 6 o 0), .int x1, .ref (ad 6 x2 0)]) ++ List.replicate (6 - (lg_sl ([.ref (ad 6 o 0), .int x1, .ref (ad 6 x2 0)])).length) Slot.unset).toArray = ls at hl ⊢
  have hl : lv_has ls 6 [(0, .ref (ad 6 o 0)), (1, .int x1), (2, .ref (ad 6 x2 0))] := hl
  generalize hargs : ([.ref (ad 6 o 0), .int x1, .ref (ad 6 x2 0)] : List Value).toArray = args at S hts ⊢
  clear hargs
  have KJ103 : ∀ (σb103 : zM) (H : Heap) (locs : List Loc) (ls : Array Slot), zG D aC A nl ad σb103 s H → va_S A s.heap H locs → lv_has ls 6 [(0, .ref (ad 6 o 0)), (1, .int x1), (2, .ref (ad 6 x2 0))] → (f_X6_keepBest_B103 σb103 o x1 x2) = some (r, σ') → zWk p l e ({ frames := 5, cells := 0, slots := 0, locals := 119 } : Room) s m args below meth c A (some (.int r)) (fun t => zG D aC A nl ad σ' t t.heap ∧ True) H locs (F0 m 103 ls []) := by
    intro   σb103 H locs ls hG hS hl hf
    unfold f_X6_keepBest_B103 at hf
    refine lv_aload_n hx hb dX6_keepBest_103 rfl (lv_at hl 2 rfl) ?_
    refine z_get (c0 := 6) (i0 := x2) (k0 := 6) (T := TX6) (v := .int (zI σb103 6 x2 6)) S hG h_x2 rfl inlX6 (by decide) rfl zw_217 rfl dX6_keepBest_104 ?_
    obtain ⟨hq1, hq2⟩ := Prod.mk.inj (Option.some.inj hf)
    subst hq1
    subst hq2
    exact z_iret S hG hS hlocks trivial hr dX6_keepBest_107
  have KJ46 : ∀ (t0b46 : Int32)  (σb46 : zM) (H : Heap) (locs : List Loc) (ls : Array Slot), zG D aC A nl ad σb46 s H → va_S A s.heap H locs → lv_has ls 6 [(0, .ref (ad 6 o 0)), (1, .int x1), (2, .ref (ad 6 x2 0))] → (f_X6_keepBest_B46 σb46 o x1 x2 t0b46) = some (r, σ') → zWk p l e ({ frames := 5, cells := 0, slots := 0, locals := 119 } : Room) s m args below meth c A (some (.int r)) (fun t => zG D aC A nl ad σ' t t.heap ∧ True) H locs (F0 m 46 ls [.int t0b46]) := by
    intro t0b46  σb46 H locs ls hG hS hl hf
    unfold f_X6_keepBest_B46 at hf
    refine lv_istore (lv' := [(4, .int t0b46), (0, .ref (ad 6 o 0)), (1, .int x1), (2, .ref (ad 6 x2 0))]) hx hb dX6_keepBest_46 hl (by decide) rfl (fun ls hl => ?_)
    refine lv_iconst (v := 0) hx hb dX6_keepBest_48 (by decide) ?_
    refine lv_istore (lv' := [(5, .int 0), (4, .int t0b46), (0, .ref (ad 6 o 0)), (1, .int x1), (2, .ref (ad 6 x2 0))]) hx hb dX6_keepBest_49 hl (by decide) rfl (fun ls hl => ?_)
    obtain ⟨t51, hw51, hfo51⟩ := zbi hf
    have KL51 : ∀ (n : Nat) (y5l51 : Int32) (σl51 : zM) (H : Heap) (locs : List Loc) (ls : Array Slot), zG D aC A nl ad σl51 s H → va_S A s.heap H locs → lv_has ls 6 [(0, .ref (ad 6 o 0)), (1, .int x1), (2, .ref (ad 6 x2 0)), (4, .int t0b46), (5, .int y5l51)] → zwh (fun (q : (Int32 × zM)) => f_X6_keepBest_L51 o x1 x2 t0b46 q.1 q.2) n (y5l51, σl51) = some t51 → zWk p l e ({ frames := 5, cells := 0, slots := 0, locals := 119 } : Room) s m args below meth c A (some (.int r)) (fun t => zG D aC A nl ad σ' t t.heap ∧ True) H locs (F0 m 51 ls []) := by
      intro n
      induction n with
      | zero =>
        intro y5l51 σl51 H locs ls hG hS hl hw
        exact (zwh_0 hw).elim
      | succ n ih51 =>
        intro y5l51 σl51 H locs ls hG hS hl hw
        obtain ⟨rr51, hf, hk51⟩ := zwh_u hw
        have hf : f_X6_keepBest_L51 o x1 x2 t0b46 y5l51 σl51 = some rr51 := hf
        unfold f_X6_keepBest_L51 at hf
        have KJ97_51 : ∀ (y5b97 : Int32)  (σb97_51 : zM) (H : Heap) (locs : List Loc) (ls : Array Slot), zG D aC A nl ad σb97_51 s H → va_S A s.heap H locs → lv_has ls 6 [(0, .ref (ad 6 o 0)), (1, .int x1), (2, .ref (ad 6 x2 0)), (4, .int t0b46), (5, .int y5b97)] → (f_X6_keepBest_B97_51 σb97_51 o x1 x2 t0b46 y5b97) = some rr51 → zWk p l e ({ frames := 5, cells := 0, slots := 0, locals := 119 } : Room) s m args below meth c A (some (.int r)) (fun t => zG D aC A nl ad σ' t t.heap ∧ True) H locs (F0 m 97 ls []) := by
          intro y5b97  σb97_51 H locs ls hG hS hl hf
          unfold f_X6_keepBest_B97_51 at hf
          refine lv_iinc (v := (y5b97 + 1)) (lv' := [(5, .int (y5b97 + 1)), (0, .ref (ad 6 o 0)), (1, .int x1), (2, .ref (ad 6 x2 0)), (4, .int t0b46)]) hx hb dX6_keepBest_97 hl (k := 4) rfl rfl (by decide) rfl (fun ls hl => ?_)
          refine lv_goto (tgt := 51) hx hb dX6_keepBest_100 (by decide) ?_
          cases hf
          exact ih51 (y5b97 + 1) σb97_51 H locs ls hG hS (lv_sub hl [1, 2, 3, 4, 0] rfl) hk51
        refine lv_iload hx hb dX6_keepBest_51 (lv_at hl 4 rfl) ?_
        refine lv_aload_n hx hb dX6_keepBest_53 rfl (lv_at hl 0 rfl) ?_
        refine z_get (c0 := 6) (i0 := o) (k0 := 6) (T := TX6) (v := .int (zI σl51 6 o 6)) S hG h_o rfl inlX6 (by decide) rfl zw_217 rfl dX6_keepBest_54 ?_
        refine lv_icmp_ge (tgt := 103) hx hb dX6_keepBest_57 (by decide) (fun c13 => ?_) (fun c13 => ?_)
        · have hf := zif_p c13 hf
          cases hf
          have hk51 : (σl51 : zM) = t51 := hk51
          have hf := hfo51
          rw [← hk51] at hf
          have hf : (f_X6_keepBest_B103 σl51 o x1 x2) = some (r, σ') := hf
          exact KJ103 σl51 H locs ls hG hS (lv_sub hl [0, 1, 2] rfl) hf
        · have hf := zif_n c13 hf
          refine lv_iload hx hb dX6_keepBest_60 (lv_at hl 4 rfl) ?_
          refine lv_aload_n hx hb dX6_keepBest_62 rfl (lv_at hl 0 rfl) ?_
          refine z_get (c0 := 6) (i0 := o) (k0 := 5) (T := TX6) (v := .ref (ad 6 o 6)) S hG h_o rfl inlX6 (by decide) rfl zw_216 rfl dX6_keepBest_63 ?_
          refine z_alen (c0 := 6) (i0 := o) (k0 := 5) (n := 4) (v := 10) S hG h_o (by decide) rfl (by decide) (by rfl) dX6_keepBest_66 ?_
          refine lv_icmp_ge (tgt := 103) hx hb dX6_keepBest_67 (by decide) (fun c14 => ?_) (fun c14 => ?_)
          · have hf := zif_p c14 hf
            cases hf
            have hk51 : (σl51 : zM) = t51 := hk51
            have hf := hfo51
            rw [← hk51] at hf
            have hf : (f_X6_keepBest_B103 σl51 o x1 x2) = some (r, σ') := hf
            exact KJ103 σl51 H locs ls hG hS (lv_sub hl [0, 1, 2] rfl) hf
          · have hf := zif_n c14 hf
            refine lv_aload_n hx hb dX6_keepBest_70 rfl (lv_at hl 0 rfl) ?_
            refine lv_aload_n hx hb dX6_keepBest_71 rfl (lv_at hl 0 rfl) ?_
            refine z_get (c0 := 6) (i0 := o) (k0 := 5) (T := TX6) (v := .ref (ad 6 o 6)) S hG h_o rfl inlX6 (by decide) rfl zw_216 rfl dX6_keepBest_72 ?_
            refine lv_iload hx hb dX6_keepBest_75 (lv_at hl 4 rfl) ?_
            obtain ⟨i15, hi15, hf⟩ := zbi hf
            refine z_iald (c0 := 6) (i0 := o) (k0 := 5) S hG h_o (by decide) rfl hi15 dX6_keepBest_77 ?_
            obtain ⟨r16, er16, hf⟩ := zbi hf
            refine z_callV (n := 1) (rest := []) (st1 := [.int r16]) (c0 := 6) (i0 := o) h_o (by rfl) S hG hS hZ (fun _ _ h => h) (c_X6_scoreOf l D aC zs A nl ad σl51 o (zA σl51 6 o 5 i15) r16 h_o er16) zw_1343 zw_1344 zw_1345 zw_45 zw_1346 (by decide +kernel) ⟨rfl, rfl⟩ ⟨(Nat.le_of_ble_eq_true rfl), (Nat.le_of_ble_eq_true rfl)⟩ hl.1 rfl (by rfl) (by rfl) (Nat.le_of_ble_eq_true rfl) dX6_keepBest_78 ⟨Nat.zero_le _, Nat.zero_le _⟩ (fun H locs hz17 hG hS => ?_)
            refine lv_iload hx hb dX6_keepBest_81 (lv_at hl 3 rfl) ?_
            refine lv_icmp_lt (tgt := 97) hx hb dX6_keepBest_83 (by decide) (fun c18 => ?_) (fun c18 => ?_)
            · have hf := zif_p c18 hf
              exact KJ97_51 y5l51 σl51 H locs ls hG hS (lv_sub hl [0, 1, 2, 3, 4] rfl) hf
            · have hf := zif_n c18 hf
              refine lv_aload_n hx hb dX6_keepBest_86 rfl (lv_at hl 2 rfl) ?_
              refine lv_aload_n hx hb dX6_keepBest_87 rfl (lv_at hl 0 rfl) ?_
              refine z_get (c0 := 6) (i0 := o) (k0 := 5) (T := TX6) (v := .ref (ad 6 o 6)) S hG h_o rfl inlX6 (by decide) rfl zw_216 rfl dX6_keepBest_88 ?_
              refine lv_iload hx hb dX6_keepBest_91 (lv_at hl 4 rfl) ?_
              obtain ⟨i19, hi19, hf⟩ := zbi hf
              refine z_iald (c0 := 6) (i0 := o) (k0 := 5) S hG h_o (by decide) rfl hi19 dX6_keepBest_93 ?_
              obtain ⟨σ20, eσ20, hf⟩ := zbi hf
              refine z_callV (n := 1) (rest := []) (st1 := []) (c0 := 6) (i0 := x2) h_x2 (by rfl) S hG hS hZ (fun _ _ h => h) (c_X6_admit l D aC zs A nl ad σl51 x2 (zA σl51 6 o 5 i19) σ20 h_x2 eσ20) zw_1347 zw_1288 zw_1289 zw_45 zw_1290 (by decide +kernel) ⟨rfl, rfl⟩ ⟨(Nat.le_of_ble_eq_true rfl), (Nat.le_of_ble_eq_true rfl)⟩ hl.1 rfl (by rfl) (by rfl) (Nat.le_of_ble_eq_true rfl) dX6_keepBest_94 ⟨Nat.zero_le _, Nat.zero_le _⟩ (fun H locs hz21 hG hS => ?_)
              exact KJ97_51 y5l51 σ20 H locs ls hG hS (lv_sub hl [0, 1, 2, 3, 4] rfl) hf
    exact KL51 zFu 0 σb46 H locs ls hG hS (lv_sub hl [2, 3, 4, 1, 0] rfl) hw51
  have KJ45 : ∀ (σb45 : zM) (H : Heap) (locs : List Loc) (ls : Array Slot), zG D aC A nl ad σb45 s H → va_S A s.heap H locs → lv_has ls 6 [(0, .ref (ad 6 o 0)), (1, .int x1), (2, .ref (ad 6 x2 0))] → (f_X6_keepBest_B45 σb45 o x1 x2) = some (r, σ') → zWk p l e ({ frames := 5, cells := 0, slots := 0, locals := 119 } : Room) s m args below meth c A (some (.int r)) (fun t => zG D aC A nl ad σ' t t.heap ∧ True) H locs (F0 m 45 ls []) := by
    intro   σb45 H locs ls hG hS hl hf
    unfold f_X6_keepBest_B45 at hf
    refine lv_iconst (v := 0) hx hb dX6_keepBest_45 (by decide) ?_
    exact KJ46 0 σb45 H locs ls hG hS (lv_sub hl [0, 1, 2] rfl) hf
  have hK0 : ∀ (H : Heap) (locs : List Loc) (ls : Array Slot), zG D aC A nl ad σ s H → va_S A s.heap H locs → lv_has ls 6 [(0, .ref (ad 6 o 0)), (1, .int x1), (2, .ref (ad 6 x2 0))] → f_X6_keepBest σ o x1 x2 = some (r, σ') → zWk p l e ({ frames := 5, cells := 0, slots := 0, locals := 119 } : Room) s m args below meth c A (some (.int r)) (fun t => zG D aC A nl ad σ' t t.heap ∧ True) H locs (F0 m 0 ls []) := by
    intro H locs ls hG hS hl hf
    unfold f_X6_keepBest at hf
    refine lv_aload_n hx hb dX6_keepBest_0 rfl (lv_at hl 0 rfl) ?_
    refine lv_aload_n hx hb dX6_keepBest_1 rfl (lv_at hl 0 rfl) ?_
    refine z_get (c0 := 6) (i0 := o) (k0 := 7) (T := TX6) (v := .int (zI σ 6 o 7)) S hG h_o rfl inlX6 (by decide) rfl zw_218 rfl dX6_keepBest_2 ?_
    obtain ⟨σ1, eσ1, hf⟩ := zbi hf
    refine z_callV (n := 1) (rest := []) (st1 := []) (c0 := 6) (i0 := o) h_o (by rfl) S hG hS hZ (fun _ _ h => h) (c_X6_rankAll l D aC zs A nl ad σ o (zI σ 6 o 7) σ1 h_o eσ1) zw_1312 zw_1313 zw_1314 zw_45 zw_1315 (by decide +kernel) ⟨rfl, rfl⟩ ⟨(Nat.le_of_ble_eq_true rfl), (Nat.le_of_ble_eq_true rfl)⟩ hl.1 rfl (by rfl) (by rfl) (Nat.le_of_ble_eq_true rfl) dX6_keepBest_5 ⟨Nat.zero_le _, Nat.zero_le _⟩ (fun H locs hz2 hG hS => ?_)
    refine lv_iload_n hx hb dX6_keepBest_8 rfl (lv_at hl 1 rfl) ?_
    refine lv_aload_n hx hb dX6_keepBest_9 rfl (lv_at hl 0 rfl) ?_
    refine z_get (c0 := 6) (i0 := o) (k0 := 6) (T := TX6) (v := .int (zI σ1 6 o 6)) S hG h_o rfl inlX6 (by decide) rfl zw_217 rfl dX6_keepBest_10 ?_
    refine z_mmin (v := (zmin x1 (zI σ1 6 o 6))) S hl zw_1311 zw_679 zw_91 zw_680 (Nat.le_of_ble_eq_true rfl) (Nat.le_of_ble_eq_true rfl) (Nat.le_of_ble_eq_true rfl) (Nat.zero_le _) (Nat.zero_le _) rfl dX6_keepBest_13 ?_
    refine lv_iconst (v := 1) hx hb dX6_keepBest_16 (by decide) ?_
    refine lv_isub hx hb dX6_keepBest_17 ?_
    refine lv_istore_n (lv' := [(3, .int ((zmin x1 (zI σ1 6 o 6)) - 1)), (0, .ref (ad 6 o 0)), (1, .int x1), (2, .ref (ad 6 x2 0))]) hx hb dX6_keepBest_18 rfl hl (by decide) rfl (fun ls hl => ?_)
    refine lv_iload_n hx hb dX6_keepBest_19 rfl (lv_at hl 0 rfl) ?_
    refine lv_if_lt (tgt := 45) hx hb dX6_keepBest_20 (by decide) (fun c3 => ?_) (fun c3 => ?_)
    · have hf := zif_p c3 hf
      exact KJ45 σ1 H locs ls hG hS (lv_sub hl [1, 2, 3] rfl) hf
    · have hf := zif_n c3 hf
      refine lv_iload_n hx hb dX6_keepBest_23 rfl (lv_at hl 0 rfl) ?_
      refine lv_aload_n hx hb dX6_keepBest_24 rfl (lv_at hl 1 rfl) ?_
      refine z_get (c0 := 6) (i0 := o) (k0 := 5) (T := TX6) (v := .ref (ad 6 o 6)) S hG h_o rfl inlX6 (by decide) rfl zw_216 rfl dX6_keepBest_25 ?_
      refine z_alen (c0 := 6) (i0 := o) (k0 := 5) (n := 4) (v := 10) S hG h_o (by decide) rfl (by decide) (by rfl) dX6_keepBest_28 ?_
      refine lv_icmp_ge (tgt := 45) hx hb dX6_keepBest_29 (by decide) (fun c22 => ?_) (fun c22 => ?_)
      · have hf := zif_p c22 hf
        exact KJ45 σ1 H locs ls hG hS (lv_sub hl [1, 2, 3] rfl) hf
      · have hf := zif_n c22 hf
        refine lv_aload_n hx hb dX6_keepBest_32 rfl (lv_at hl 1 rfl) ?_
        refine lv_aload_n hx hb dX6_keepBest_33 rfl (lv_at hl 1 rfl) ?_
        refine z_get (c0 := 6) (i0 := o) (k0 := 5) (T := TX6) (v := .ref (ad 6 o 6)) S hG h_o rfl inlX6 (by decide) rfl zw_216 rfl dX6_keepBest_34 ?_
        refine lv_iload_n hx hb dX6_keepBest_37 rfl (lv_at hl 0 rfl) ?_
        obtain ⟨i23, hi23, hf⟩ := zbi hf
        refine z_iald (c0 := 6) (i0 := o) (k0 := 5) S hG h_o (by decide) rfl hi23 dX6_keepBest_38 ?_
        obtain ⟨r24, er24, hf⟩ := zbi hf
        refine z_callV (n := 1) (rest := []) (st1 := [.int r24]) (c0 := 6) (i0 := o) h_o (by rfl) S hG hS hZ (fun _ _ h => h) (c_X6_scoreOf l D aC zs A nl ad σ1 o (zA σ1 6 o 5 i23) r24 h_o er24) zw_1343 zw_1344 zw_1345 zw_45 zw_1346 (by decide +kernel) ⟨rfl, rfl⟩ ⟨(Nat.le_of_ble_eq_true rfl), (Nat.le_of_ble_eq_true rfl)⟩ hl.1 rfl (by rfl) (by rfl) (Nat.le_of_ble_eq_true rfl) dX6_keepBest_39 ⟨Nat.zero_le _, Nat.zero_le _⟩ (fun H locs hz25 hG hS => ?_)
        refine lv_goto (tgt := 46) hx hb dX6_keepBest_42 (by decide) ?_
        exact KJ46 r24 σ1 H locs ls hG hS (lv_sub hl [1, 2, 3] rfl) hf
  exact hK0 _ _ ls hG hS hl hf
set_option maxRecDepth 100000 in
set_option maxHeartbeats 4000000 in
theorem c_X7_isHandedIn (l : Launch) (D : va_G) (aC : Nat → ClassId) (zs : Nat × Nat) (A : Nat → Prop) (nl : zNL) (ad : Nat → Nat → Nat → Nat) (σ : zM) (o : Nat) (r : Int32) (h_o : zin nl 7 o) (hf : f_X7_isHandedIn σ o = r) : Met l yX7_isHandedIn (Cond.code yX7_isHandedIn cX7_isHandedIn 1 (some .boolean) :: wsL_law) ({ frames := 0, cells := 0, slots := 0, locals := 0 } : Room) (zP D aC zs zfX A nl ad σ [.ref (ad 7 o 0)]) (zQ (some (.int r)) (fun t => zG D aC A nl ad σ t t.heap ∧ (r = 0 ∨ r = 1)) A) 0 0 A := by
  refine Met.ofW (cc := cX7_isHandedIn) (maxL := 1) (ret := (some .boolean)) (by decide) rfl ?_
  intro p e s m args below meth c s₁ B hml hv
  obtain ⟨rfl, hG, hZ⟩ := hv
  have hx := B.exec
  have hb := B.bytes
  have hr := B.returns
  have hts : ∀ w ∈ wsL_law, w.before ([.ref (ad 7 o 0)] : List Value).toArray s = true := fun w h => (atoms_spec B.pre) w (List.mem_cons_of_mem _ h)
  have hown : s.vm.findClass RX7 = some m.cls := findClass_of_methodNamed B.named
  have hlocks := B.notSynchronized
  have S : zS p m c cX7_isHandedIn 1 s ([.ref (ad 7 o 0)] : List Value).toArray RX7 := ⟨hx, hb, hml, hown, hts⟩
  have hS : va_S A s.heap s.heap [] := va_S.rf
  have hl := lv_entry ([.ref (ad 7 o 0)]) (n := 1) (Nat.le_of_ble_eq_true rfl)
  rw [lg_entry_eq]
  generalize (lg_sl ([.ref (ad 7 o 0)]) ++ List.replicate (1 - (lg_sl ([.ref (ad 7 o 0)])).length) Slot.unset).toArray = ls at hl ⊢
  have hl : lv_has ls 1 [(0, .ref (ad 7 o 0))] := hl
  generalize hargs : ([.ref (ad 7 o 0)] : List Value).toArray = args at S hts ⊢
  clear hargs
  have hK0 : ∀ (H : Heap) (locs : List Loc) (ls : Array Slot), zG D aC A nl ad σ s H → va_S A s.heap H locs → lv_has ls 1 [(0, .ref (ad 7 o 0))] → f_X7_isHandedIn σ o = r → zWk p l e ({ frames := 0, cells := 0, slots := 0, locals := 0 } : Room) s m args below meth c A (some (.int r)) (fun t => zG D aC A nl ad σ t t.heap ∧ (r = 0 ∨ r = 1)) H locs (F0 m 0 ls []) := by
    intro H locs ls hG hS hl hf
    unfold f_X7_isHandedIn at hf
    refine lv_aload_n hx hb dX7_isHandedIn_0 rfl (lv_at hl 0 rfl) ?_
    refine z_get (c0 := 7) (i0 := o) (k0 := 1) (T := TX7) (v := .int (zI σ 7 o 1)) S hG h_o rfl inlX7 (by decide) rfl zw_791 rfl dX7_isHandedIn_1 ?_
    refine lv_iconst (v := (-1)) hx hb dX7_isHandedIn_4 (by decide) ?_
    refine lv_icmp_eq (tgt := 12) hx hb dX7_isHandedIn_5 (by decide) (fun c1 => ?_) (fun c1 => ?_)
    · have hf := zif_p c1 hf
      refine lv_iconst (v := 0) hx hb dX7_isHandedIn_12 (by decide) ?_
      have hq := hf
      subst hq
      exact z_zret S hG hS hlocks (Or.inl rfl) hr dX7_isHandedIn_13
    · have hf := zif_n c1 hf
      refine lv_iconst (v := 1) hx hb dX7_isHandedIn_8 (by decide) ?_
      refine lv_goto (tgt := 13) hx hb dX7_isHandedIn_9 (by decide) ?_
      have hq := hf
      subst hq
      exact z_zret S hG hS hlocks (Or.inr rfl) hr dX7_isHandedIn_13
  exact hK0 _ _ ls hG hS hl hf
set_option maxRecDepth 100000 in
set_option maxHeartbeats 4000000 in
theorem c_X7_isThing (l : Launch) (D : va_G) (aC : Nat → ClassId) (zs : Nat × Nat) (A : Nat → Prop) (nl : zNL) (ad : Nat → Nat → Nat → Nat) (σ : zM) (x0 : Int32) (r : Int32)  (hf : f_X7_isThing x0 = r) : Met l yX7_isThing (Cond.code yX7_isThing cX7_isThing 1 (some .boolean) :: wsL_law) ({ frames := 0, cells := 0, slots := 0, locals := 0 } : Room) (zP D aC zs zfX A nl ad σ [.int x0]) (zQ (some (.int r)) (fun t => zG D aC A nl ad σ t t.heap ∧ (r = 0 ∨ r = 1)) A) 0 0 A := by
  refine Met.ofW (cc := cX7_isThing) (maxL := 1) (ret := (some .boolean)) (by decide) rfl ?_
  intro p e s m args below meth c s₁ B hml hv
  obtain ⟨rfl, hG, hZ⟩ := hv
  have hx := B.exec
  have hb := B.bytes
  have hr := B.returns
  have hts : ∀ w ∈ wsL_law, w.before ([.int x0] : List Value).toArray s = true := fun w h => (atoms_spec B.pre) w (List.mem_cons_of_mem _ h)
  have hown : s.vm.findClass RX7 = some m.cls := findClass_of_methodNamed B.named
  have hlocks := B.notSynchronized
  have S : zS p m c cX7_isThing 1 s ([.int x0] : List Value).toArray RX7 := ⟨hx, hb, hml, hown, hts⟩
  have hS : va_S A s.heap s.heap [] := va_S.rf
  have hl := lv_entry ([.int x0]) (n := 1) (Nat.le_of_ble_eq_true rfl)
  rw [lg_entry_eq]
  generalize (lg_sl ([.int x0]) ++ List.replicate (1 - (lg_sl ([.int x0])).length) Slot.unset).toArray = ls at hl ⊢
  have hl : lv_has ls 1 [(0, .int x0)] := hl
  generalize hargs : ([.int x0] : List Value).toArray = args at S hts ⊢
  clear hargs
  have hK0 : ∀ (H : Heap) (locs : List Loc) (ls : Array Slot), zG D aC A nl ad σ s H → va_S A s.heap H locs → lv_has ls 1 [(0, .int x0)] → f_X7_isThing x0 = r → zWk p l e ({ frames := 0, cells := 0, slots := 0, locals := 0 } : Room) s m args below meth c A (some (.int r)) (fun t => zG D aC A nl ad σ t t.heap ∧ (r = 0 ∨ r = 1)) H locs (F0 m 0 ls []) := by
    intro H locs ls hG hS hl hf
    unfold f_X7_isThing at hf
    refine lv_iload_n hx hb dX7_isThing_0 rfl (lv_at hl 0 rfl) ?_
    refine lv_if_lt (tgt := 14) hx hb dX7_isThing_1 (by decide) (fun c1 => ?_) (fun c1 => ?_)
    · have hf := zif_p c1 hf
      refine lv_iconst (v := 0) hx hb dX7_isThing_14 (by decide) ?_
      have hq := hf
      subst hq
      exact z_zret S hG hS hlocks (Or.inl rfl) hr dX7_isThing_15
    · have hf := zif_n c1 hf
      refine lv_iload_n hx hb dX7_isThing_4 rfl (lv_at hl 0 rfl) ?_
      refine lv_bipush (v := 15) hx hb dX7_isThing_5 (by decide) ?_
      refine lv_icmp_ge (tgt := 14) hx hb dX7_isThing_7 (by decide) (fun c2 => ?_) (fun c2 => ?_)
      · have hf := zif_p c2 hf
        refine lv_iconst (v := 0) hx hb dX7_isThing_14 (by decide) ?_
        have hq := hf
        subst hq
        exact z_zret S hG hS hlocks (Or.inl rfl) hr dX7_isThing_15
      · have hf := zif_n c2 hf
        refine lv_iconst (v := 1) hx hb dX7_isThing_10 (by decide) ?_
        refine lv_goto (tgt := 15) hx hb dX7_isThing_11 (by decide) ?_
        have hq := hf
        subst hq
        exact z_zret S hG hS hlocks (Or.inr rfl) hr dX7_isThing_15
  exact hK0 _ _ ls hG hS hl hf
set_option maxRecDepth 100000 in
set_option maxHeartbeats 4000000 in
theorem c_X7_isCell (l : Launch) (D : va_G) (aC : Nat → ClassId) (zs : Nat × Nat) (A : Nat → Prop) (nl : zNL) (ad : Nat → Nat → Nat → Nat) (σ : zM) (x0 : Int32) (x1 : Int32) (x2 : Int32) (r : Int32)  (hf : f_X7_isCell x0 x1 x2 = r) : Met l yX7_isCell (Cond.code yX7_isCell cX7_isCell 3 (some .boolean) :: wsL_law) ({ frames := 0, cells := 0, slots := 0, locals := 0 } : Room) (zP D aC zs zfX A nl ad σ [.int x0, .int x1, .int x2]) (zQ (some (.int r)) (fun t => zG D aC A nl ad σ t t.heap ∧ (r = 0 ∨ r = 1)) A) 0 0 A := by
  refine Met.ofW (cc := cX7_isCell) (maxL := 3) (ret := (some .boolean)) (by decide) rfl ?_
  intro p e s m args below meth c s₁ B hml hv
  obtain ⟨rfl, hG, hZ⟩ := hv
  have hx := B.exec
  have hb := B.bytes
  have hr := B.returns
  have hts : ∀ w ∈ wsL_law, w.before ([.int x0, .int x1, .int x2] : List Value).toArray s = true := fun w h => (atoms_spec B.pre) w (List.mem_cons_of_mem _ h)
  have hown : s.vm.findClass RX7 = some m.cls := findClass_of_methodNamed B.named
  have hlocks := B.notSynchronized
  have S : zS p m c cX7_isCell 3 s ([.int x0, .int x1, .int x2] : List Value).toArray RX7 := ⟨hx, hb, hml, hown, hts⟩
  have hS : va_S A s.heap s.heap [] := va_S.rf
  have hl := lv_entry ([.int x0, .int x1, .int x2]) (n := 3) (Nat.le_of_ble_eq_true rfl)
  rw [lg_entry_eq]
  generalize (lg_sl ([.int x0, .int x1, .int x2]) ++ List.replicate (3 - (lg_sl ([.int x0, .int x1, .int x2])).length) Slot.unset).toArray = ls at hl ⊢
  have hl : lv_has ls 3 [(0, .int x0), (1, .int x1), (2, .int x2)] := hl
  generalize hargs : ([.int x0, .int x1, .int x2] : List Value).toArray = args at S hts ⊢
  clear hargs
  have hK0 : ∀ (H : Heap) (locs : List Loc) (ls : Array Slot), zG D aC A nl ad σ s H → va_S A s.heap H locs → lv_has ls 3 [(0, .int x0), (1, .int x1), (2, .int x2)] → f_X7_isCell x0 x1 x2 = r → zWk p l e ({ frames := 0, cells := 0, slots := 0, locals := 0 } : Room) s m args below meth c A (some (.int r)) (fun t => zG D aC A nl ad σ t t.heap ∧ (r = 0 ∨ r = 1)) H locs (F0 m 0 ls []) := by
    intro H locs ls hG hS hl hf
    unfold f_X7_isCell at hf
    refine lv_iload_n hx hb dX7_isCell_0 rfl (lv_at hl 0 rfl) ?_
    refine lv_if_lt (tgt := 33) hx hb dX7_isCell_1 (by decide) (fun c1 => ?_) (fun c1 => ?_)
    · have hf := zif_p c1 hf
      refine lv_iconst (v := 0) hx hb dX7_isCell_33 (by decide) ?_
      have hq := hf
      subst hq
      exact z_zret S hG hS hlocks (Or.inl rfl) hr dX7_isCell_34
    · have hf := zif_n c1 hf
      refine lv_iload_n hx hb dX7_isCell_4 rfl (lv_at hl 0 rfl) ?_
      refine lv_iconst (v := 2) hx hb dX7_isCell_5 (by decide) ?_
      refine lv_icmp_ge (tgt := 33) hx hb dX7_isCell_6 (by decide) (fun c2 => ?_) (fun c2 => ?_)
      · have hf := zif_p c2 hf
        refine lv_iconst (v := 0) hx hb dX7_isCell_33 (by decide) ?_
        have hq := hf
        subst hq
        exact z_zret S hG hS hlocks (Or.inl rfl) hr dX7_isCell_34
      · have hf := zif_n c2 hf
        refine lv_iload_n hx hb dX7_isCell_9 rfl (lv_at hl 1 rfl) ?_
        refine lv_if_lt (tgt := 33) hx hb dX7_isCell_10 (by decide) (fun c3 => ?_) (fun c3 => ?_)
        · have hf := zif_p c3 hf
          refine lv_iconst (v := 0) hx hb dX7_isCell_33 (by decide) ?_
          have hq := hf
          subst hq
          exact z_zret S hG hS hlocks (Or.inl rfl) hr dX7_isCell_34
        · have hf := zif_n c3 hf
          refine lv_iload_n hx hb dX7_isCell_13 rfl (lv_at hl 1 rfl) ?_
          refine lv_bipush (v := 10) hx hb dX7_isCell_14 (by decide) ?_
          refine lv_icmp_ge (tgt := 33) hx hb dX7_isCell_16 (by decide) (fun c4 => ?_) (fun c4 => ?_)
          · have hf := zif_p c4 hf
            refine lv_iconst (v := 0) hx hb dX7_isCell_33 (by decide) ?_
            have hq := hf
            subst hq
            exact z_zret S hG hS hlocks (Or.inl rfl) hr dX7_isCell_34
          · have hf := zif_n c4 hf
            refine lv_iload_n hx hb dX7_isCell_19 rfl (lv_at hl 2 rfl) ?_
            refine lv_if_lt (tgt := 33) hx hb dX7_isCell_20 (by decide) (fun c5 => ?_) (fun c5 => ?_)
            · have hf := zif_p c5 hf
              refine lv_iconst (v := 0) hx hb dX7_isCell_33 (by decide) ?_
              have hq := hf
              subst hq
              exact z_zret S hG hS hlocks (Or.inl rfl) hr dX7_isCell_34
            · have hf := zif_n c5 hf
              refine lv_iload_n hx hb dX7_isCell_23 rfl (lv_at hl 2 rfl) ?_
              refine lv_bipush (v := 8) hx hb dX7_isCell_24 (by decide) ?_
              refine lv_icmp_ge (tgt := 33) hx hb dX7_isCell_26 (by decide) (fun c6 => ?_) (fun c6 => ?_)
              · have hf := zif_p c6 hf
                refine lv_iconst (v := 0) hx hb dX7_isCell_33 (by decide) ?_
                have hq := hf
                subst hq
                exact z_zret S hG hS hlocks (Or.inl rfl) hr dX7_isCell_34
              · have hf := zif_n c6 hf
                refine lv_iconst (v := 1) hx hb dX7_isCell_29 (by decide) ?_
                refine lv_goto (tgt := 34) hx hb dX7_isCell_30 (by decide) ?_
                have hq := hf
                subst hq
                exact z_zret S hG hS hlocks (Or.inr rfl) hr dX7_isCell_34
  exact hK0 _ _ ls hG hS hl hf
set_option maxRecDepth 100000 in
set_option maxHeartbeats 4000000 in
theorem c_X7_isInside (l : Launch) (D : va_G) (aC : Nat → ClassId) (zs : Nat × Nat) (A : Nat → Prop) (nl : zNL) (ad : Nat → Nat → Nat → Nat) (σ : zM) (x0 : Int32) (r : Int32)  (hf : f_X7_isInside x0 = r) : Met l yX7_isInside (Cond.code yX7_isInside cX7_isInside 3 (some .boolean) :: wsL_law) ({ frames := 0, cells := 0, slots := 0, locals := 0 } : Room) (zP D aC zs zfX A nl ad σ [.int x0]) (zQ (some (.int r)) (fun t => zG D aC A nl ad σ t t.heap ∧ (r = 0 ∨ r = 1)) A) 0 0 A := by
  refine Met.ofW (cc := cX7_isInside) (maxL := 3) (ret := (some .boolean)) (by decide) rfl ?_
  intro p e s m args below meth c s₁ B hml hv
  obtain ⟨rfl, hG, hZ⟩ := hv
  have hx := B.exec
  have hb := B.bytes
  have hr := B.returns
  have hts : ∀ w ∈ wsL_law, w.before ([.int x0] : List Value).toArray s = true := fun w h => (atoms_spec B.pre) w (List.mem_cons_of_mem _ h)
  have hown : s.vm.findClass RX7 = some m.cls := findClass_of_methodNamed B.named
  have hlocks := B.notSynchronized
  have S : zS p m c cX7_isInside 3 s ([.int x0] : List Value).toArray RX7 := ⟨hx, hb, hml, hown, hts⟩
  have hS : va_S A s.heap s.heap [] := va_S.rf
  have hl := lv_entry ([.int x0]) (n := 3) (Nat.le_of_ble_eq_true rfl)
  rw [lg_entry_eq]
  generalize (lg_sl ([.int x0]) ++ List.replicate (3 - (lg_sl ([.int x0])).length) Slot.unset).toArray = ls at hl ⊢
  have hl : lv_has ls 3 [(0, .int x0)] := hl
  generalize hargs : ([.int x0] : List Value).toArray = args at S hts ⊢
  clear hargs
  have hK0 : ∀ (H : Heap) (locs : List Loc) (ls : Array Slot), zG D aC A nl ad σ s H → va_S A s.heap H locs → lv_has ls 3 [(0, .int x0)] → f_X7_isInside x0 = r → zWk p l e ({ frames := 0, cells := 0, slots := 0, locals := 0 } : Room) s m args below meth c A (some (.int r)) (fun t => zG D aC A nl ad σ t t.heap ∧ (r = 0 ∨ r = 1)) H locs (F0 m 0 ls []) := by
    intro H locs ls hG hS hl hf
    unfold f_X7_isInside at hf
    refine lv_iload_n hx hb dX7_isInside_0 rfl (lv_at hl 0 rfl) ?_
    refine lv_bipush (v := 120) hx hb dX7_isInside_1 (by decide) ?_
    refine z_irem (v := (zrem x0 120)) hx hb dX7_isInside_3 (by decide) rfl ?_
    refine lv_bipush (v := 12) hx hb dX7_isInside_4 (by decide) ?_
    refine lv_idiv hx hb dX7_isInside_6 (by decide) ?_
    refine lv_iconst (v := 1) hx hb dX7_isInside_7 (by decide) ?_
    refine lv_isub hx hb dX7_isInside_8 ?_
    refine lv_istore_n (lv' := [(1, .int (((zrem x0 120) / 12) - 1)), (0, .int x0)]) hx hb dX7_isInside_9 rfl hl (by decide) rfl (fun ls hl => ?_)
    refine lv_iload_n hx hb dX7_isInside_10 rfl (lv_at hl 1 rfl) ?_
    refine lv_bipush (v := 12) hx hb dX7_isInside_11 (by decide) ?_
    refine z_irem (v := (zrem x0 12)) hx hb dX7_isInside_13 (by decide) rfl ?_
    refine lv_iconst (v := 1) hx hb dX7_isInside_14 (by decide) ?_
    refine lv_isub hx hb dX7_isInside_15 ?_
    refine lv_istore_n (lv' := [(2, .int ((zrem x0 12) - 1)), (1, .int (((zrem x0 120) / 12) - 1)), (0, .int x0)]) hx hb dX7_isInside_16 rfl hl (by decide) rfl (fun ls hl => ?_)
    refine lv_iload_n hx hb dX7_isInside_17 rfl (lv_at hl 2 rfl) ?_
    refine lv_if_lt (tgt := 52) hx hb dX7_isInside_18 (by decide) (fun c1 => ?_) (fun c1 => ?_)
    · have hf := zif_p c1 hf
      refine lv_iconst (v := 0) hx hb dX7_isInside_52 (by decide) ?_
      have hq := hf
      subst hq
      exact z_zret S hG hS hlocks (Or.inl rfl) hr dX7_isInside_53
    · have hf := zif_n c1 hf
      refine lv_iload_n hx hb dX7_isInside_21 rfl (lv_at hl 2 rfl) ?_
      refine lv_sipush (v := 240) hx hb dX7_isInside_22 (by decide) ?_
      refine lv_icmp_ge (tgt := 52) hx hb dX7_isInside_25 (by decide) (fun c2 => ?_) (fun c2 => ?_)
      · have hf := zif_p c2 hf
        refine lv_iconst (v := 0) hx hb dX7_isInside_52 (by decide) ?_
        have hq := hf
        subst hq
        exact z_zret S hG hS hlocks (Or.inl rfl) hr dX7_isInside_53
      · have hf := zif_n c2 hf
        refine lv_iload_n hx hb dX7_isInside_28 rfl (lv_at hl 1 rfl) ?_
        refine lv_if_lt (tgt := 52) hx hb dX7_isInside_29 (by decide) (fun c3 => ?_) (fun c3 => ?_)
        · have hf := zif_p c3 hf
          refine lv_iconst (v := 0) hx hb dX7_isInside_52 (by decide) ?_
          have hq := hf
          subst hq
          exact z_zret S hG hS hlocks (Or.inl rfl) hr dX7_isInside_53
        · have hf := zif_n c3 hf
          refine lv_iload_n hx hb dX7_isInside_32 rfl (lv_at hl 1 rfl) ?_
          refine lv_bipush (v := 8) hx hb dX7_isInside_33 (by decide) ?_
          refine lv_icmp_ge (tgt := 52) hx hb dX7_isInside_35 (by decide) (fun c4 => ?_) (fun c4 => ?_)
          · have hf := zif_p c4 hf
            refine lv_iconst (v := 0) hx hb dX7_isInside_52 (by decide) ?_
            have hq := hf
            subst hq
            exact z_zret S hG hS hlocks (Or.inl rfl) hr dX7_isInside_53
          · have hf := zif_n c4 hf
            refine lv_iload_n hx hb dX7_isInside_38 rfl (lv_at hl 0 rfl) ?_
            refine lv_if_lt (tgt := 52) hx hb dX7_isInside_39 (by decide) (fun c5 => ?_) (fun c5 => ?_)
            · have hf := zif_p c5 hf
              refine lv_iconst (v := 0) hx hb dX7_isInside_52 (by decide) ?_
              have hq := hf
              subst hq
              exact z_zret S hG hS hlocks (Or.inl rfl) hr dX7_isInside_53
            · have hf := zif_n c5 hf
              refine lv_iload_n hx hb dX7_isInside_42 rfl (lv_at hl 0 rfl) ?_
              refine lv_bipush (v := 10) hx hb dX7_isInside_43 (by decide) ?_
              refine lv_icmp_ge (tgt := 52) hx hb dX7_isInside_45 (by decide) (fun c6 => ?_) (fun c6 => ?_)
              · have hf := zif_p c6 hf
                refine lv_iconst (v := 0) hx hb dX7_isInside_52 (by decide) ?_
                have hq := hf
                subst hq
                exact z_zret S hG hS hlocks (Or.inl rfl) hr dX7_isInside_53
              · have hf := zif_n c6 hf
                refine lv_iconst (v := 1) hx hb dX7_isInside_48 (by decide) ?_
                refine lv_goto (tgt := 53) hx hb dX7_isInside_49 (by decide) ?_
                have hq := hf
                subst hq
                exact z_zret S hG hS hlocks (Or.inr rfl) hr dX7_isInside_53
  exact hK0 _ _ ls hG hS hl hf
