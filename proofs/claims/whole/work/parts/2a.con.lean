set_option maxRecDepth 100000 in
set_option maxHeartbeats 4000000 in
theorem c_X0_wipe (l : Launch) (D : va_G) (aC : Nat → ClassId) (zs : Nat × Nat) (fx : List (Nat × Nat)) (A : Nat → Prop) (nl : zNL) (ad : Nat → Nat → Nat → Nat) (σ : zM) (o : Nat)  (σ' : zM) (h_o : zin nl 0 o) (hf : f_X0_wipe σ o = some σ') : Met l yX0_wipe (Cond.code yX0_wipe cX0_wipe 2 none :: wsL_law) ({ frames := 0, cells := 0, slots := 0, locals := 0 } : Room) (zP D aC zs fx A nl ad σ [.ref (ad 0 o 0)]) (zQ none (fun t => zG D aC A nl ad σ' t t.heap ∧ True) A) 0 0 A := by
  refine Met.ofW (cc := cX0_wipe) (maxL := 2) (ret := none) (by decide) rfl ?_
  intro p e s m args below meth c s₁ B hml hv
  obtain ⟨rfl, hG, hZ⟩ := hv
  have hx := B.exec
  have hb := B.bytes
  have hr := B.returns
  have hts : ∀ w ∈ wsL_law, w.before ([.ref (ad 0 o 0)] : List Value).toArray s = true := fun w h => (atoms_spec B.pre) w (List.mem_cons_of_mem _ h)
  have hown : s.vm.findClass RX0 = some m.cls := findClass_of_methodNamed B.named
  have hlocks := B.notSynchronized
  have S : zS p m c cX0_wipe 2 s ([.ref (ad 0 o 0)] : List Value).toArray RX0 := ⟨hx, hb, hml, hown, hts⟩
  have hS : va_S A s.heap s.heap [] := va_S.rf
  have hl := lv_entry ([.ref (ad 0 o 0)]) (n := 2) (Nat.le_of_ble_eq_true rfl)
  rw [lg_entry_eq]
  generalize (lg_sl ([.ref (ad 0 o 0)]) ++ List.replicate (2 - (lg_sl ([.ref (ad 0 o 0)])).length) Slot.unset).toArray = ls at hl ⊢
  have hl : lv_has ls 2 [(0, .ref (ad 0 o 0))] := hl
  generalize hargs : ([.ref (ad 0 o 0)] : List Value).toArray = args at S hts ⊢
  clear hargs
  have KJ46 : ∀ (σb46 : zM) (H : Heap) (locs : List Loc) (ls : Array Slot), zG D aC A nl ad σb46 s H → va_S A s.heap H locs → lv_has ls 2 [(0, .ref (ad 0 o 0))] → (f_X0_wipe_B46 σb46 o) = some σ' → zWk p l e ({ frames := 0, cells := 0, slots := 0, locals := 0 } : Room) s m args below meth c A none (fun t => zG D aC A nl ad σ' t t.heap ∧ True) H locs (F0 m 46 ls []) := by
    intro   σb46 H locs ls hG hS hl hf
    unfold f_X0_wipe_B46 at hf
    refine lv_iconst (v := 0) hx hb dX0_wipe_46 (by decide) ?_
    refine lv_istore_n (lv' := [(1, .int 0), (0, .ref (ad 0 o 0))]) hx hb dX0_wipe_47 rfl hl (by decide) rfl (fun ls hl => ?_)
    obtain ⟨t48, hw48, hfo48⟩ := zbi hf
    have KL48 : ∀ (n : Nat) (y1l48 : Int32) (σl48 : zM) (H : Heap) (locs : List Loc) (ls : Array Slot), zG D aC A nl ad σl48 s H → va_S A s.heap H locs → lv_has ls 2 [(0, .ref (ad 0 o 0)), (1, .int y1l48)] → zwh (fun (q : (Int32 × zM)) => f_X0_wipe_L48 o q.1 q.2) n (y1l48, σl48) = some t48 → zWk p l e ({ frames := 0, cells := 0, slots := 0, locals := 0 } : Room) s m args below meth c A none (fun t => zG D aC A nl ad σ' t t.heap ∧ True) H locs (F0 m 48 ls []) := by
      intro n
      induction n with
      | zero =>
        intro y1l48 σl48 H locs ls hG hS hl hw
        exact (zwh_0 hw).elim
      | succ n ih48 =>
        intro y1l48 σl48 H locs ls hG hS hl hw
        obtain ⟨rr48, hf, hk48⟩ := zwh_u hw
        have hf : f_X0_wipe_L48 o y1l48 σl48 = some rr48 := hf
        unfold f_X0_wipe_L48 at hf
        refine lv_iload_n hx hb dX0_wipe_48 rfl (lv_at hl 1 rfl) ?_
        refine lv_aload_n hx hb dX0_wipe_49 rfl (lv_at hl 0 rfl) ?_
        refine z_get (c0 := 0) (i0 := o) (k0 := 6) (T := TX0) (v := .ref (ad 0 o 7)) S hG h_o rfl inlX0 (by decide) rfl zw_85 rfl dX0_wipe_50 ?_
        refine z_alen (c0 := 0) (i0 := o) (k0 := 6) (n := 4) (v := 13) S hG h_o (by decide) rfl (by decide) (by rfl) dX0_wipe_53 ?_
        refine lv_icmp_ge (tgt := 71) hx hb dX0_wipe_54 (by decide) (fun c7 => ?_) (fun c7 => ?_)
        · have hf := zif_p c7 hf
          cases hf
          have hk48 : (σl48 : zM) = t48 := hk48
          have hf := hfo48
          rw [← hk48] at hf
          have hf : (some σl48) = some σ' := hf
          have hq := (Option.some.inj hf)
          subst hq
          exact z_vret S hG hS hlocks trivial hr dX0_wipe_71
        · have hf := zif_n c7 hf
          refine lv_aload_n hx hb dX0_wipe_57 rfl (lv_at hl 0 rfl) ?_
          refine z_get (c0 := 0) (i0 := o) (k0 := 6) (T := TX0) (v := .ref (ad 0 o 7)) S hG h_o rfl inlX0 (by decide) rfl zw_85 rfl dX0_wipe_58 ?_
          refine lv_iload_n hx hb dX0_wipe_61 rfl (lv_at hl 1 rfl) ?_
          refine lv_bipush (v := 100) hx hb dX0_wipe_62 (by decide) ?_
          obtain ⟨i8, hi8, hf⟩ := zbi hf
          refine z_iast (c0 := 0) (i0 := o) (k0 := 6) S hG hS h_o (by decide) rfl hi8 dX0_wipe_64 (fun H locs hG hS => ?_)
          obtain ⟨σ9, eσ9, hf⟩ := zlt_s hf
          rw [← eσ9] at hG
          refine lv_iinc (v := (y1l48 + 1)) (lv' := [(1, .int (y1l48 + 1)), (0, .ref (ad 0 o 0))]) hx hb dX0_wipe_65 hl (k := 1) rfl rfl (by decide) rfl (fun ls hl => ?_)
          refine lv_goto (tgt := 48) hx hb dX0_wipe_68 (by decide) ?_
          cases hf
          exact ih48 (y1l48 + 1) σ9 H locs ls hG hS (lv_sub hl [1, 0] rfl) hk48
    exact KL48 zFu 0 σb46 H locs ls hG hS (lv_sub hl [1, 0] rfl) hw48
  have hK0 : ∀ (H : Heap) (locs : List Loc) (ls : Array Slot), zG D aC A nl ad σ s H → va_S A s.heap H locs → lv_has ls 2 [(0, .ref (ad 0 o 0))] → f_X0_wipe σ o = some σ' → zWk p l e ({ frames := 0, cells := 0, slots := 0, locals := 0 } : Room) s m args below meth c A none (fun t => zG D aC A nl ad σ' t t.heap ∧ True) H locs (F0 m 0 ls []) := by
    intro H locs ls hG hS hl hf
    unfold f_X0_wipe at hf
    refine lv_aload_n hx hb dX0_wipe_0 rfl (lv_at hl 0 rfl) ?_
    refine lv_iconst (v := 0) hx hb dX0_wipe_1 (by decide) ?_
    refine z_putI (c0 := 0) (i0 := o) (k0 := 7) (T := TX0) S hG hS tyX0 tyX0_ok nmX0 h_o rfl inlX0 (by decide) rfl rfl zw_86 (by decide +kernel) rfl dX0_wipe_2 (fun H locs hG hS => ?_)
    obtain ⟨σ1, eσ1, hf⟩ := zlt_s hf
    rw [← eσ1] at hG
    refine lv_aload_n hx hb dX0_wipe_5 rfl (lv_at hl 0 rfl) ?_
    refine lv_iconst (v := 0) hx hb dX0_wipe_6 (by decide) ?_
    refine z_putI (c0 := 0) (i0 := o) (k0 := 8) (T := TX0) S hG hS tyX0 tyX0_ok nmX0 h_o rfl inlX0 (by decide) rfl rfl zw_87 (by decide +kernel) rfl dX0_wipe_7 (fun H locs hG hS => ?_)
    obtain ⟨σ2, eσ2, hf⟩ := zlt_s hf
    rw [← eσ2] at hG
    refine lv_iconst (v := 0) hx hb dX0_wipe_10 (by decide) ?_
    refine lv_istore_n (lv' := [(1, .int 0), (0, .ref (ad 0 o 0))]) hx hb dX0_wipe_11 rfl hl (by decide) rfl (fun ls hl => ?_)
    obtain ⟨t12, hw12, hfo12⟩ := zbi hf
    have KL12 : ∀ (n : Nat) (y1l12 : Int32) (σl12 : zM) (H : Heap) (locs : List Loc) (ls : Array Slot), zG D aC A nl ad σl12 s H → va_S A s.heap H locs → lv_has ls 2 [(0, .ref (ad 0 o 0)), (1, .int y1l12)] → zwh (fun (q : (Int32 × zM)) => f_X0_wipe_L12 o q.1 q.2) n (y1l12, σl12) = some t12 → zWk p l e ({ frames := 0, cells := 0, slots := 0, locals := 0 } : Room) s m args below meth c A none (fun t => zG D aC A nl ad σ' t t.heap ∧ True) H locs (F0 m 12 ls []) := by
      intro n
      induction n with
      | zero =>
        intro y1l12 σl12 H locs ls hG hS hl hw
        exact (zwh_0 hw).elim
      | succ n ih12 =>
        intro y1l12 σl12 H locs ls hG hS hl hw
        obtain ⟨rr12, hf, hk12⟩ := zwh_u hw
        have hf : f_X0_wipe_L12 o y1l12 σl12 = some rr12 := hf
        unfold f_X0_wipe_L12 at hf
        refine lv_iload_n hx hb dX0_wipe_12 rfl (lv_at hl 1 rfl) ?_
        refine lv_aload_n hx hb dX0_wipe_13 rfl (lv_at hl 0 rfl) ?_
        refine z_get (c0 := 0) (i0 := o) (k0 := 5) (T := TX0) (v := .ref (ad 0 o 6)) S hG h_o rfl inlX0 (by decide) rfl zw_84 rfl dX0_wipe_14 ?_
        refine z_alen (c0 := 0) (i0 := o) (k0 := 5) (n := 4) (v := 11) S hG h_o (by decide) rfl (by decide) (by rfl) dX0_wipe_17 ?_
        refine lv_icmp_ge (tgt := 46) hx hb dX0_wipe_18 (by decide) (fun c14 => ?_) (fun c14 => ?_)
        · have hf := zif_p c14 hf
          cases hf
          have hk12 : (σl12 : zM) = t12 := hk12
          have hf := hfo12
          rw [← hk12] at hf
          have hf : (f_X0_wipe_B46 σl12 o) = some σ' := hf
          exact KJ46 σl12 H locs ls hG hS (lv_sub hl [0] rfl) hf
        · have hf := zif_n c14 hf
          refine lv_iload_n hx hb dX0_wipe_21 rfl (lv_at hl 1 rfl) ?_
          refine z_gets (v := .ref zs.1) S hZ.2.2.1 hS zw_102 dX0_wipe_22 ?_
          refine z_tlen (v := 11) S hZ.2.2.2.1 hS rfl dX0_wipe_25 ?_
          refine lv_icmp_ge (tgt := 46) hx hb dX0_wipe_26 (by decide) (fun c15 => ?_) (fun c15 => ?_)
          · have hf := zif_p c15 hf
            cases hf
            have hk12 : (σl12 : zM) = t12 := hk12
            have hf := hfo12
            rw [← hk12] at hf
            have hf : (f_X0_wipe_B46 σl12 o) = some σ' := hf
            exact KJ46 σl12 H locs ls hG hS (lv_sub hl [0] rfl) hf
          · have hf := zif_n c15 hf
            refine lv_aload_n hx hb dX0_wipe_29 rfl (lv_at hl 0 rfl) ?_
            refine z_get (c0 := 0) (i0 := o) (k0 := 5) (T := TX0) (v := .ref (ad 0 o 6)) S hG h_o rfl inlX0 (by decide) rfl zw_84 rfl dX0_wipe_30 ?_
            refine lv_iload_n hx hb dX0_wipe_33 rfl (lv_at hl 1 rfl) ?_
            refine z_gets (v := .ref zs.1) S hZ.2.2.1 hS zw_102 dX0_wipe_34 ?_
            refine lv_iload_n hx hb dX0_wipe_37 rfl (lv_at hl 1 rfl) ?_
            obtain ⟨i16, hi16, hf⟩ := zbi hf
            refine z_ti S hZ.2.2.2.1 hS hi16 dX0_wipe_38 ?_
            obtain ⟨i17, hi17, hf⟩ := zbi hf
            refine z_iast (c0 := 0) (i0 := o) (k0 := 5) S hG hS h_o (by decide) rfl hi17 dX0_wipe_39 (fun H locs hG hS => ?_)
            obtain ⟨σ18, eσ18, hf⟩ := zlt_s hf
            rw [← eσ18] at hG
            refine lv_iinc (v := (y1l12 + 1)) (lv' := [(1, .int (y1l12 + 1)), (0, .ref (ad 0 o 0))]) hx hb dX0_wipe_40 hl (k := 1) rfl rfl (by decide) rfl (fun ls hl => ?_)
            refine lv_goto (tgt := 12) hx hb dX0_wipe_43 (by decide) ?_
            cases hf
            exact ih12 (y1l12 + 1) σ18 H locs ls hG hS (lv_sub hl [1, 0] rfl) hk12
    exact KL12 zFu 0 σ2 H locs ls hG hS (lv_sub hl [1, 0] rfl) hw12
  exact hK0 _ _ ls hG hS hl hf
set_option maxRecDepth 100000 in
set_option maxHeartbeats 4000000 in
theorem c_X0_term (l : Launch) (D : va_G) (aC : Nat → ClassId) (zs : Nat × Nat) (A : Nat → Prop) (nl : zNL) (ad : Nat → Nat → Nat → Nat) (σ : zM) (o : Nat) (x1 : Int32) (r : Int32) (h_o : zin nl 0 o) (hf : f_X0_term σ o x1 = some r) : Met l yX0_term (Cond.code yX0_term cX0_term 2 (some .int) :: wsL_law) ({ frames := 0, cells := 0, slots := 0, locals := 0 } : Room) (zP D aC zs zfX A nl ad σ [.ref (ad 0 o 0), .int x1]) (zQ (some (.int r)) (fun t => zG D aC A nl ad σ t t.heap ∧ True) A) 0 0 A := by
  refine Met.ofW (cc := cX0_term) (maxL := 2) (ret := (some .int)) (by decide) rfl ?_
  intro p e s m args below meth c s₁ B hml hv
  obtain ⟨rfl, hG, hZ⟩ := hv
  have hx := B.exec
  have hb := B.bytes
  have hr := B.returns
  have hts : ∀ w ∈ wsL_law, w.before ([.ref (ad 0 o 0), .int x1] : List Value).toArray s = true := fun w h => (atoms_spec B.pre) w (List.mem_cons_of_mem _ h)
  have hown : s.vm.findClass RX0 = some m.cls := findClass_of_methodNamed B.named
  have hlocks := B.notSynchronized
  have S : zS p m c cX0_term 2 s ([.ref (ad 0 o 0), .int x1] : List Value).toArray RX0 := ⟨hx, hb, hml, hown, hts⟩
  have hS : va_S A s.heap s.heap [] := va_S.rf
  have hl := lv_entry ([.ref (ad 0 o 0), .int x1]) (n := 2) (Nat.le_of_ble_eq_true rfl)
  rw [lg_entry_eq]
  generalize (lg_sl ([.ref (ad 0 o 0), .int x1]) ++ List.replicate (2 - (lg_sl ([.ref (ad 0 o 0), .int x1])).length) Slot.unset).toArray = ls at hl ⊢
  have hl : lv_has ls 2 [(0, .ref (ad 0 o 0)), (1, .int x1)] := hl
  generalize hargs : ([.ref (ad 0 o 0), .int x1] : List Value).toArray = args at S hts ⊢
  clear hargs
  have hK0 : ∀ (H : Heap) (locs : List Loc) (ls : Array Slot), zG D aC A nl ad σ s H → va_S A s.heap H locs → lv_has ls 2 [(0, .ref (ad 0 o 0)), (1, .int x1)] → f_X0_term σ o x1 = some r → zWk p l e ({ frames := 0, cells := 0, slots := 0, locals := 0 } : Room) s m args below meth c A (some (.int r)) (fun t => zG D aC A nl ad σ t t.heap ∧ True) H locs (F0 m 0 ls []) := by
    intro H locs ls hG hS hl hf
    unfold f_X0_term at hf
    refine lv_iload_n hx hb dX0_term_0 rfl (lv_at hl 1 rfl) ?_
    refine lv_if_lt (tgt := 22) hx hb dX0_term_1 (by decide) (fun c1 => ?_) (fun c1 => ?_)
    · have hf := zif_p c1 hf
      refine lv_iconst (v := (-1)) hx hb dX0_term_22 (by decide) ?_
      have hq := (Option.some.inj hf)
      subst hq
      exact z_iret S hG hS hlocks trivial hr dX0_term_23
    · have hf := zif_n c1 hf
      refine lv_iload_n hx hb dX0_term_4 rfl (lv_at hl 1 rfl) ?_
      refine lv_aload_n hx hb dX0_term_5 rfl (lv_at hl 0 rfl) ?_
      refine z_get (c0 := 0) (i0 := o) (k0 := 5) (T := TX0) (v := .ref (ad 0 o 6)) S hG h_o rfl inlX0 (by decide) rfl zw_84 rfl dX0_term_6 ?_
      refine z_alen (c0 := 0) (i0 := o) (k0 := 5) (n := 4) (v := 11) S hG h_o (by decide) rfl (by decide) (by rfl) dX0_term_9 ?_
      refine lv_icmp_ge (tgt := 22) hx hb dX0_term_10 (by decide) (fun c2 => ?_) (fun c2 => ?_)
      · have hf := zif_p c2 hf
        refine lv_iconst (v := (-1)) hx hb dX0_term_22 (by decide) ?_
        have hq := (Option.some.inj hf)
        subst hq
        exact z_iret S hG hS hlocks trivial hr dX0_term_23
      · have hf := zif_n c2 hf
        refine lv_aload_n hx hb dX0_term_13 rfl (lv_at hl 0 rfl) ?_
        refine z_get (c0 := 0) (i0 := o) (k0 := 5) (T := TX0) (v := .ref (ad 0 o 6)) S hG h_o rfl inlX0 (by decide) rfl zw_84 rfl dX0_term_14 ?_
        refine lv_iload_n hx hb dX0_term_17 rfl (lv_at hl 1 rfl) ?_
        obtain ⟨i3, hi3, hf⟩ := zbi hf
        refine z_iald (c0 := 0) (i0 := o) (k0 := 5) S hG h_o (by decide) rfl hi3 dX0_term_18 ?_
        refine lv_goto (tgt := 23) hx hb dX0_term_19 (by decide) ?_
        have hq := (Option.some.inj hf)
        subst hq
        exact z_iret S hG hS hlocks trivial hr dX0_term_23
  exact hK0 _ _ ls hG hS hl hf
set_option maxRecDepth 100000 in
set_option maxHeartbeats 4000000 in
theorem c_X0_setTerm (l : Launch) (D : va_G) (aC : Nat → ClassId) (zs : Nat × Nat) (A : Nat → Prop) (nl : zNL) (ad : Nat → Nat → Nat → Nat) (σ : zM) (o : Nat) (x1 : Int32) (x2 : Int32)  (σ' : zM) (h_o : zin nl 0 o) (hf : f_X0_setTerm σ o x1 x2 = some σ') : Met l yX0_setTerm (Cond.code yX0_setTerm cX0_setTerm 3 none :: wsL_law) ({ frames := 0, cells := 0, slots := 0, locals := 0 } : Room) (zP D aC zs zfX A nl ad σ [.ref (ad 0 o 0), .int x1, .int x2]) (zQ none (fun t => zG D aC A nl ad σ' t t.heap ∧ True) A) 0 0 A := by
  refine Met.ofW (cc := cX0_setTerm) (maxL := 3) (ret := none) (by decide) rfl ?_
  intro p e s m args below meth c s₁ B hml hv
  obtain ⟨rfl, hG, hZ⟩ := hv
  have hx := B.exec
  have hb := B.bytes
  have hr := B.returns
  have hts : ∀ w ∈ wsL_law, w.before ([.ref (ad 0 o 0), .int x1, .int x2] : List Value).toArray s = true := fun w h => (atoms_spec B.pre) w (List.mem_cons_of_mem _ h)
  have hown : s.vm.findClass RX0 = some m.cls := findClass_of_methodNamed B.named
  have hlocks := B.notSynchronized
  have S : zS p m c cX0_setTerm 3 s ([.ref (ad 0 o 0), .int x1, .int x2] : List Value).toArray RX0 := ⟨hx, hb, hml, hown, hts⟩
  have hS : va_S A s.heap s.heap [] := va_S.rf
  have hl := lv_entry ([.ref (ad 0 o 0), .int x1, .int x2]) (n := 3) (Nat.le_of_ble_eq_true rfl)
  rw [lg_entry_eq]
  generalize (lg_sl ([.ref (ad 0 o 0), .int x1, .int x2]) ++ List.replicate (3 - (lg_sl ([.ref (ad 0 o 0), .int x1, .int x2])).length) Slot.unset).toArray = ls at hl ⊢
  have hl : lv_has ls 3 [(0, .ref (ad 0 o 0)), (1, .int x1), (2, .int x2)] := hl
  generalize hargs : ([.ref (ad 0 o 0), .int x1, .int x2] : List Value).toArray = args at S hts ⊢
  clear hargs
  have hK0 : ∀ (H : Heap) (locs : List Loc) (ls : Array Slot), zG D aC A nl ad σ s H → va_S A s.heap H locs → lv_has ls 3 [(0, .ref (ad 0 o 0)), (1, .int x1), (2, .int x2)] → f_X0_setTerm σ o x1 x2 = some σ' → zWk p l e ({ frames := 0, cells := 0, slots := 0, locals := 0 } : Room) s m args below meth c A none (fun t => zG D aC A nl ad σ' t t.heap ∧ True) H locs (F0 m 0 ls []) := by
    intro H locs ls hG hS hl hf
    unfold f_X0_setTerm at hf
    refine lv_iload_n hx hb dX0_setTerm_0 rfl (lv_at hl 1 rfl) ?_
    refine lv_if_lt (tgt := 20) hx hb dX0_setTerm_1 (by decide) (fun c1 => ?_) (fun c1 => ?_)
    · have hf := zif_p c1 hf
      have hq := (Option.some.inj hf)
      subst hq
      exact z_vret S hG hS hlocks trivial hr dX0_setTerm_20
    · have hf := zif_n c1 hf
      refine lv_iload_n hx hb dX0_setTerm_4 rfl (lv_at hl 1 rfl) ?_
      refine lv_aload_n hx hb dX0_setTerm_5 rfl (lv_at hl 0 rfl) ?_
      refine z_get (c0 := 0) (i0 := o) (k0 := 5) (T := TX0) (v := .ref (ad 0 o 6)) S hG h_o rfl inlX0 (by decide) rfl zw_84 rfl dX0_setTerm_6 ?_
      refine z_alen (c0 := 0) (i0 := o) (k0 := 5) (n := 4) (v := 11) S hG h_o (by decide) rfl (by decide) (by rfl) dX0_setTerm_9 ?_
      refine lv_icmp_ge (tgt := 20) hx hb dX0_setTerm_10 (by decide) (fun c2 => ?_) (fun c2 => ?_)
      · have hf := zif_p c2 hf
        have hq := (Option.some.inj hf)
        subst hq
        exact z_vret S hG hS hlocks trivial hr dX0_setTerm_20
      · have hf := zif_n c2 hf
        refine lv_aload_n hx hb dX0_setTerm_13 rfl (lv_at hl 0 rfl) ?_
        refine z_get (c0 := 0) (i0 := o) (k0 := 5) (T := TX0) (v := .ref (ad 0 o 6)) S hG h_o rfl inlX0 (by decide) rfl zw_84 rfl dX0_setTerm_14 ?_
        refine lv_iload_n hx hb dX0_setTerm_17 rfl (lv_at hl 1 rfl) ?_
        refine lv_iload_n hx hb dX0_setTerm_18 rfl (lv_at hl 2 rfl) ?_
        obtain ⟨i3, hi3, hf⟩ := zbi hf
        refine z_iast (c0 := 0) (i0 := o) (k0 := 5) S hG hS h_o (by decide) rfl hi3 dX0_setTerm_19 (fun H locs hG hS => ?_)
        obtain ⟨σ4, eσ4, hf⟩ := zlt_s hf
        rw [← eσ4] at hG
        have hq := (Option.some.inj hf)
        subst hq
        exact z_vret S hG hS hlocks trivial hr dX0_setTerm_20
  exact hK0 _ _ ls hG hS hl hf
set_option maxRecDepth 100000 in
set_option maxHeartbeats 4000000 in
theorem c_X0_rate (l : Launch) (D : va_G) (aC : Nat → ClassId) (zs : Nat × Nat) (A : Nat → Prop) (nl : zNL) (ad : Nat → Nat → Nat → Nat) (σ : zM) (o : Nat) (x1 : Int32) (r : Int32) (h_o : zin nl 0 o) (hf : f_X0_rate σ o x1 = some r) : Met l yX0_rate (Cond.code yX0_rate cX0_rate 2 (some .int) :: wsL_law) ({ frames := 0, cells := 0, slots := 0, locals := 0 } : Room) (zP D aC zs zfX A nl ad σ [.ref (ad 0 o 0), .int x1]) (zQ (some (.int r)) (fun t => zG D aC A nl ad σ t t.heap ∧ True) A) 0 0 A := by
  refine Met.ofW (cc := cX0_rate) (maxL := 2) (ret := (some .int)) (by decide) rfl ?_
  intro p e s m args below meth c s₁ B hml hv
  obtain ⟨rfl, hG, hZ⟩ := hv
  have hx := B.exec
  have hb := B.bytes
  have hr := B.returns
  have hts : ∀ w ∈ wsL_law, w.before ([.ref (ad 0 o 0), .int x1] : List Value).toArray s = true := fun w h => (atoms_spec B.pre) w (List.mem_cons_of_mem _ h)
  have hown : s.vm.findClass RX0 = some m.cls := findClass_of_methodNamed B.named
  have hlocks := B.notSynchronized
  have S : zS p m c cX0_rate 2 s ([.ref (ad 0 o 0), .int x1] : List Value).toArray RX0 := ⟨hx, hb, hml, hown, hts⟩
  have hS : va_S A s.heap s.heap [] := va_S.rf
  have hl := lv_entry ([.ref (ad 0 o 0), .int x1]) (n := 2) (Nat.le_of_ble_eq_true rfl)
  rw [lg_entry_eq]
  generalize (lg_sl ([.ref (ad 0 o 0), .int x1]) ++ List.replicate (2 - (lg_sl ([.ref (ad 0 o 0), .int x1])).length) Slot.unset).toArray = ls at hl ⊢
  have hl : lv_has ls 2 [(0, .ref (ad 0 o 0)), (1, .int x1)] := hl
  generalize hargs : ([.ref (ad 0 o 0), .int x1] : List Value).toArray = args at S hts ⊢
  clear hargs
  have hK0 : ∀ (H : Heap) (locs : List Loc) (ls : Array Slot), zG D aC A nl ad σ s H → va_S A s.heap H locs → lv_has ls 2 [(0, .ref (ad 0 o 0)), (1, .int x1)] → f_X0_rate σ o x1 = some r → zWk p l e ({ frames := 0, cells := 0, slots := 0, locals := 0 } : Room) s m args below meth c A (some (.int r)) (fun t => zG D aC A nl ad σ t t.heap ∧ True) H locs (F0 m 0 ls []) := by
    intro H locs ls hG hS hl hf
    unfold f_X0_rate at hf
    refine lv_iload_n hx hb dX0_rate_0 rfl (lv_at hl 1 rfl) ?_
    refine lv_iconst (v := 1) hx hb dX0_rate_1 (by decide) ?_
    refine lv_icmp_lt (tgt := 23) hx hb dX0_rate_2 (by decide) (fun c1 => ?_) (fun c1 => ?_)
    · have hf := zif_p c1 hf
      refine lv_iconst (v := (-1)) hx hb dX0_rate_23 (by decide) ?_
      have hq := (Option.some.inj hf)
      subst hq
      exact z_iret S hG hS hlocks trivial hr dX0_rate_24
    · have hf := zif_n c1 hf
      refine lv_iload_n hx hb dX0_rate_5 rfl (lv_at hl 1 rfl) ?_
      refine lv_aload_n hx hb dX0_rate_6 rfl (lv_at hl 0 rfl) ?_
      refine z_get (c0 := 0) (i0 := o) (k0 := 6) (T := TX0) (v := .ref (ad 0 o 7)) S hG h_o rfl inlX0 (by decide) rfl zw_85 rfl dX0_rate_7 ?_
      refine z_alen (c0 := 0) (i0 := o) (k0 := 6) (n := 4) (v := 13) S hG h_o (by decide) rfl (by decide) (by rfl) dX0_rate_10 ?_
      refine lv_icmp_ge (tgt := 23) hx hb dX0_rate_11 (by decide) (fun c2 => ?_) (fun c2 => ?_)
      · have hf := zif_p c2 hf
        refine lv_iconst (v := (-1)) hx hb dX0_rate_23 (by decide) ?_
        have hq := (Option.some.inj hf)
        subst hq
        exact z_iret S hG hS hlocks trivial hr dX0_rate_24
      · have hf := zif_n c2 hf
        refine lv_aload_n hx hb dX0_rate_14 rfl (lv_at hl 0 rfl) ?_
        refine z_get (c0 := 0) (i0 := o) (k0 := 6) (T := TX0) (v := .ref (ad 0 o 7)) S hG h_o rfl inlX0 (by decide) rfl zw_85 rfl dX0_rate_15 ?_
        refine lv_iload_n hx hb dX0_rate_18 rfl (lv_at hl 1 rfl) ?_
        obtain ⟨i3, hi3, hf⟩ := zbi hf
        refine z_iald (c0 := 0) (i0 := o) (k0 := 6) S hG h_o (by decide) rfl hi3 dX0_rate_19 ?_
        refine lv_goto (tgt := 24) hx hb dX0_rate_20 (by decide) ?_
        have hq := (Option.some.inj hf)
        subst hq
        exact z_iret S hG hS hlocks trivial hr dX0_rate_24
  exact hK0 _ _ ls hG hS hl hf
set_option maxRecDepth 100000 in
set_option maxHeartbeats 4000000 in
theorem c_X0_setRate (l : Launch) (D : va_G) (aC : Nat → ClassId) (zs : Nat × Nat) (A : Nat → Prop) (nl : zNL) (ad : Nat → Nat → Nat → Nat) (σ : zM) (o : Nat) (x1 : Int32) (x2 : Int32)  (σ' : zM) (h_o : zin nl 0 o) (hf : f_X0_setRate σ o x1 x2 = some σ') : Met l yX0_setRate (Cond.code yX0_setRate cX0_setRate 3 none :: wsL_law) ({ frames := 0, cells := 0, slots := 0, locals := 0 } : Room) (zP D aC zs zfX A nl ad σ [.ref (ad 0 o 0), .int x1, .int x2]) (zQ none (fun t => zG D aC A nl ad σ' t t.heap ∧ True) A) 0 0 A := by
  refine Met.ofW (cc := cX0_setRate) (maxL := 3) (ret := none) (by decide) rfl ?_
  intro p e s m args below meth c s₁ B hml hv
  obtain ⟨rfl, hG, hZ⟩ := hv
  have hx := B.exec
  have hb := B.bytes
  have hr := B.returns
  have hts : ∀ w ∈ wsL_law, w.before ([.ref (ad 0 o 0), .int x1, .int x2] : List Value).toArray s = true := fun w h => (atoms_spec B.pre) w (List.mem_cons_of_mem _ h)
  have hown : s.vm.findClass RX0 = some m.cls := findClass_of_methodNamed B.named
  have hlocks := B.notSynchronized
  have S : zS p m c cX0_setRate 3 s ([.ref (ad 0 o 0), .int x1, .int x2] : List Value).toArray RX0 := ⟨hx, hb, hml, hown, hts⟩
  have hS : va_S A s.heap s.heap [] := va_S.rf
  have hl := lv_entry ([.ref (ad 0 o 0), .int x1, .int x2]) (n := 3) (Nat.le_of_ble_eq_true rfl)
  rw [lg_entry_eq]
  generalize (lg_sl ([.ref (ad 0 o 0), .int x1, .int x2]) ++ List.replicate (3 - (lg_sl ([.ref (ad 0 o 0), .int x1, .int x2])).length) Slot.unset).toArray = ls at hl ⊢
  have hl : lv_has ls 3 [(0, .ref (ad 0 o 0)), (1, .int x1), (2, .int x2)] := hl
  generalize hargs : ([.ref (ad 0 o 0), .int x1, .int x2] : List Value).toArray = args at S hts ⊢
  clear hargs
  have hK0 : ∀ (H : Heap) (locs : List Loc) (ls : Array Slot), zG D aC A nl ad σ s H → va_S A s.heap H locs → lv_has ls 3 [(0, .ref (ad 0 o 0)), (1, .int x1), (2, .int x2)] → f_X0_setRate σ o x1 x2 = some σ' → zWk p l e ({ frames := 0, cells := 0, slots := 0, locals := 0 } : Room) s m args below meth c A none (fun t => zG D aC A nl ad σ' t t.heap ∧ True) H locs (F0 m 0 ls []) := by
    intro H locs ls hG hS hl hf
    unfold f_X0_setRate at hf
    refine lv_iload_n hx hb dX0_setRate_0 rfl (lv_at hl 1 rfl) ?_
    refine lv_iconst (v := 1) hx hb dX0_setRate_1 (by decide) ?_
    refine lv_icmp_lt (tgt := 21) hx hb dX0_setRate_2 (by decide) (fun c1 => ?_) (fun c1 => ?_)
    · have hf := zif_p c1 hf
      have hq := (Option.some.inj hf)
      subst hq
      exact z_vret S hG hS hlocks trivial hr dX0_setRate_21
    · have hf := zif_n c1 hf
      refine lv_iload_n hx hb dX0_setRate_5 rfl (lv_at hl 1 rfl) ?_
      refine lv_aload_n hx hb dX0_setRate_6 rfl (lv_at hl 0 rfl) ?_
      refine z_get (c0 := 0) (i0 := o) (k0 := 6) (T := TX0) (v := .ref (ad 0 o 7)) S hG h_o rfl inlX0 (by decide) rfl zw_85 rfl dX0_setRate_7 ?_
      refine z_alen (c0 := 0) (i0 := o) (k0 := 6) (n := 4) (v := 13) S hG h_o (by decide) rfl (by decide) (by rfl) dX0_setRate_10 ?_
      refine lv_icmp_ge (tgt := 21) hx hb dX0_setRate_11 (by decide) (fun c2 => ?_) (fun c2 => ?_)
      · have hf := zif_p c2 hf
        have hq := (Option.some.inj hf)
        subst hq
        exact z_vret S hG hS hlocks trivial hr dX0_setRate_21
      · have hf := zif_n c2 hf
        refine lv_aload_n hx hb dX0_setRate_14 rfl (lv_at hl 0 rfl) ?_
        refine z_get (c0 := 0) (i0 := o) (k0 := 6) (T := TX0) (v := .ref (ad 0 o 7)) S hG h_o rfl inlX0 (by decide) rfl zw_85 rfl dX0_setRate_15 ?_
        refine lv_iload_n hx hb dX0_setRate_18 rfl (lv_at hl 1 rfl) ?_
        refine lv_iload_n hx hb dX0_setRate_19 rfl (lv_at hl 2 rfl) ?_
        obtain ⟨i3, hi3, hf⟩ := zbi hf
        refine z_iast (c0 := 0) (i0 := o) (k0 := 6) S hG hS h_o (by decide) rfl hi3 dX0_setRate_20 (fun H locs hG hS => ?_)
        obtain ⟨σ4, eσ4, hf⟩ := zlt_s hf
        rw [← eσ4] at hG
        have hq := (Option.some.inj hf)
        subst hq
        exact z_vret S hG hS hlocks trivial hr dX0_setRate_21
  exact hK0 _ _ ls hG hS hl hf
set_option maxRecDepth 100000 in
set_option maxHeartbeats 4000000 in
theorem c_X0_isFull (l : Launch) (D : va_G) (aC : Nat → ClassId) (zs : Nat × Nat) (A : Nat → Prop) (nl : zNL) (ad : Nat → Nat → Nat → Nat) (σ : zM) (o : Nat) (r : Int32) (h_o : zin nl 0 o) (hf : f_X0_isFull σ o = r) : Met l yX0_isFull (Cond.code yX0_isFull cX0_isFull 1 (some .boolean) :: wsL_law) ({ frames := 0, cells := 0, slots := 0, locals := 0 } : Room) (zP D aC zs zfX A nl ad σ [.ref (ad 0 o 0)]) (zQ (some (.int r)) (fun t => zG D aC A nl ad σ t t.heap ∧ (r = 0 ∨ r = 1)) A) 0 0 A := by
  refine Met.ofW (cc := cX0_isFull) (maxL := 1) (ret := (some .boolean)) (by decide) rfl ?_
  intro p e s m args below meth c s₁ B hml hv
  obtain ⟨rfl, hG, hZ⟩ := hv
  have hx := B.exec
  have hb := B.bytes
  have hr := B.returns
  have hts : ∀ w ∈ wsL_law, w.before ([.ref (ad 0 o 0)] : List Value).toArray s = true := fun w h => (atoms_spec B.pre) w (List.mem_cons_of_mem _ h)
  have hown : s.vm.findClass RX0 = some m.cls := findClass_of_methodNamed B.named
  have hlocks := B.notSynchronized
  have S : zS p m c cX0_isFull 1 s ([.ref (ad 0 o 0)] : List Value).toArray RX0 := ⟨hx, hb, hml, hown, hts⟩
  have hS : va_S A s.heap s.heap [] := va_S.rf
  have hl := lv_entry ([.ref (ad 0 o 0)]) (n := 1) (Nat.le_of_ble_eq_true rfl)
  rw [lg_entry_eq]
  generalize (lg_sl ([.ref (ad 0 o 0)]) ++ List.replicate (1 - (lg_sl ([.ref (ad 0 o 0)])).length) Slot.unset).toArray = ls at hl ⊢
  have hl : lv_has ls 1 [(0, .ref (ad 0 o 0))] := hl
  generalize hargs : ([.ref (ad 0 o 0)] : List Value).toArray = args at S hts ⊢
  clear hargs
  have hK0 : ∀ (H : Heap) (locs : List Loc) (ls : Array Slot), zG D aC A nl ad σ s H → va_S A s.heap H locs → lv_has ls 1 [(0, .ref (ad 0 o 0))] → f_X0_isFull σ o = r → zWk p l e ({ frames := 0, cells := 0, slots := 0, locals := 0 } : Room) s m args below meth c A (some (.int r)) (fun t => zG D aC A nl ad σ t t.heap ∧ (r = 0 ∨ r = 1)) H locs (F0 m 0 ls []) := by
    intro H locs ls hG hS hl hf
    unfold f_X0_isFull at hf
    refine lv_aload_n hx hb dX0_isFull_0 rfl (lv_at hl 0 rfl) ?_
    refine z_get (c0 := 0) (i0 := o) (k0 := 7) (T := TX0) (v := .int (zI σ 0 o 7)) S hG h_o rfl inlX0 (by decide) rfl zw_86 rfl dX0_isFull_1 ?_
    refine lv_bipush (v := 40) hx hb dX0_isFull_4 (by decide) ?_
    refine lv_icmp_lt (tgt := 13) hx hb dX0_isFull_6 (by decide) (fun c1 => ?_) (fun c1 => ?_)
    · have hf := zif_p c1 hf
      refine lv_iconst (v := 0) hx hb dX0_isFull_13 (by decide) ?_
      have hq := hf
      subst hq
      exact z_zret S hG hS hlocks (Or.inl rfl) hr dX0_isFull_14
    · have hf := zif_n c1 hf
      refine lv_iconst (v := 1) hx hb dX0_isFull_9 (by decide) ?_
      refine lv_goto (tgt := 14) hx hb dX0_isFull_10 (by decide) ?_
      have hq := hf
      subst hq
      exact z_zret S hG hS hlocks (Or.inr rfl) hr dX0_isFull_14
  exact hK0 _ _ ls hG hS hl hf
set_option maxRecDepth 100000 in
set_option maxHeartbeats 4000000 in
theorem c_X0_add (l : Launch) (D : va_G) (aC : Nat → ClassId) (zs : Nat × Nat) (A : Nat → Prop) (nl : zNL) (ad : Nat → Nat → Nat → Nat) (σ : zM) (o : Nat) (x1 : Int32) (x2 : Int32) (x3 : Int32) (x4 : Int32)  (σ' : zM) (h_o : zin nl 0 o) (hf : f_X0_add σ o x1 x2 x3 x4 = some σ') : Met l yX0_add (Cond.code yX0_add cX0_add 5 none :: wsL_law) ({ frames := 0, cells := 0, slots := 0, locals := 0 } : Room) (zP D aC zs zfX A nl ad σ [.ref (ad 0 o 0), .int x1, .int x2, .int x3, .int x4]) (zQ none (fun t => zG D aC A nl ad σ' t t.heap ∧ True) A) 0 0 A := by
  refine Met.ofW (cc := cX0_add) (maxL := 5) (ret := none) (by decide) rfl ?_
  intro p e s m args below meth c s₁ B hml hv
  obtain ⟨rfl, hG, hZ⟩ := hv
  have hx := B.exec
  have hb := B.bytes
  have hr := B.returns
  have hts : ∀ w ∈ wsL_law, w.before ([.ref (ad 0 o 0), .int x1, .int x2, .int x3, .int x4] : List Value).toArray s = true := fun w h => (atoms_spec B.pre) w (List.mem_cons_of_mem _ h)
  have hown : s.vm.findClass RX0 = some m.cls := findClass_of_methodNamed B.named
  have hlocks := B.notSynchronized
  have S : zS p m c cX0_add 5 s ([.ref (ad 0 o 0), .int x1, .int x2, .int x3, .int x4] : List Value).toArray RX0 := ⟨hx, hb, hml, hown, hts⟩
  have hS : va_S A s.heap s.heap [] := va_S.rf
  have hl := lv_entry ([.ref (ad 0 o 0), .int x1, .int x2, .int x3, .int x4]) (n := 5) (Nat.le_of_ble_eq_true rfl)
  rw [lg_entry_eq]
  generalize (lg_sl ([.ref (ad 0 o 0), .int x1, .int x2, .int x3, .int x4]) ++ List.replicate (5 - (lg_sl ([.ref (ad 0 o 0), .int x1, .int x2, .int x3, .int x4])).length) Slot.unset).toArray = ls at hl ⊢
  have hl : lv_has ls 5 [(0, .ref (ad 0 o 0)), (1, .int x1), (2, .int x2), (3, .int x3), (4, .int x4)] := hl
  generalize hargs : ([.ref (ad 0 o 0), .int x1, .int x2, .int x3, .int x4] : List Value).toArray = args at S hts ⊢
  clear hargs
  have hK0 : ∀ (H : Heap) (locs : List Loc) (ls : Array Slot), zG D aC A nl ad σ s H → va_S A s.heap H locs → lv_has ls 5 [(0, .ref (ad 0 o 0)), (1, .int x1), (2, .int x2), (3, .int x3), (4, .int x4)] → f_X0_add σ o x1 x2 x3 x4 = some σ' → zWk p l e ({ frames := 0, cells := 0, slots := 0, locals := 0 } : Room) s m args below meth c A none (fun t => zG D aC A nl ad σ' t t.heap ∧ True) H locs (F0 m 0 ls []) := by
    intro H locs ls hG hS hl hf
    unfold f_X0_add at hf
    refine lv_aload_n hx hb dX0_add_0 rfl (lv_at hl 0 rfl) ?_
    refine z_get (c0 := 0) (i0 := o) (k0 := 7) (T := TX0) (v := .int (zI σ 0 o 7)) S hG h_o rfl inlX0 (by decide) rfl zw_86 rfl dX0_add_1 ?_
    refine lv_if_lt (tgt := 106) hx hb dX0_add_4 (by decide) (fun c1 => ?_) (fun c1 => ?_)
    · have hf := zif_p c1 hf
      have hq := (Option.some.inj hf)
      subst hq
      exact z_vret S hG hS hlocks trivial hr dX0_add_106
    · have hf := zif_n c1 hf
      refine lv_aload_n hx hb dX0_add_7 rfl (lv_at hl 0 rfl) ?_
      refine z_get (c0 := 0) (i0 := o) (k0 := 7) (T := TX0) (v := .int (zI σ 0 o 7)) S hG h_o rfl inlX0 (by decide) rfl zw_86 rfl dX0_add_8 ?_
      refine lv_aload_n hx hb dX0_add_11 rfl (lv_at hl 0 rfl) ?_
      refine z_get (c0 := 0) (i0 := o) (k0 := 0) (T := TX0) (v := .ref (ad 0 o 1)) S hG h_o rfl inlX0 (by decide) rfl zw_93 rfl dX0_add_12 ?_
      refine z_alen (c0 := 0) (i0 := o) (k0 := 0) (n := 4) (v := (nI (zln 0 o 0))) S hG h_o (by decide) rfl (by decide) rfl dX0_add_15 ?_
      refine lv_icmp_ge (tgt := 106) hx hb dX0_add_16 (by decide) (fun c2 => ?_) (fun c2 => ?_)
      · have hf := zif_p c2 hf
        have hq := (Option.some.inj hf)
        subst hq
        exact z_vret S hG hS hlocks trivial hr dX0_add_106
      · have hf := zif_n c2 hf
        refine lv_aload_n hx hb dX0_add_19 rfl (lv_at hl 0 rfl) ?_
        refine z_get (c0 := 0) (i0 := o) (k0 := 7) (T := TX0) (v := .int (zI σ 0 o 7)) S hG h_o rfl inlX0 (by decide) rfl zw_86 rfl dX0_add_20 ?_
        refine lv_aload_n hx hb dX0_add_23 rfl (lv_at hl 0 rfl) ?_
        refine z_get (c0 := 0) (i0 := o) (k0 := 1) (T := TX0) (v := .ref (ad 0 o 2)) S hG h_o rfl inlX0 (by decide) rfl zw_94 rfl dX0_add_24 ?_
        refine z_alen (c0 := 0) (i0 := o) (k0 := 1) (n := 4) (v := (nI (zln 0 o 1))) S hG h_o (by decide) rfl (by decide) rfl dX0_add_27 ?_
        refine lv_icmp_ge (tgt := 106) hx hb dX0_add_28 (by decide) (fun c3 => ?_) (fun c3 => ?_)
        · have hf := zif_p c3 hf
          have hq := (Option.some.inj hf)
          subst hq
          exact z_vret S hG hS hlocks trivial hr dX0_add_106
        · have hf := zif_n c3 hf
          refine lv_aload_n hx hb dX0_add_31 rfl (lv_at hl 0 rfl) ?_
          refine z_get (c0 := 0) (i0 := o) (k0 := 7) (T := TX0) (v := .int (zI σ 0 o 7)) S hG h_o rfl inlX0 (by decide) rfl zw_86 rfl dX0_add_32 ?_
          refine lv_aload_n hx hb dX0_add_35 rfl (lv_at hl 0 rfl) ?_
          refine z_get (c0 := 0) (i0 := o) (k0 := 2) (T := TX0) (v := .ref (ad 0 o 3)) S hG h_o rfl inlX0 (by decide) rfl zw_95 rfl dX0_add_36 ?_
          refine z_alen (c0 := 0) (i0 := o) (k0 := 2) (n := 4) (v := (nI (zln 0 o 2))) S hG h_o (by decide) rfl (by decide) rfl dX0_add_39 ?_
          refine lv_icmp_ge (tgt := 106) hx hb dX0_add_40 (by decide) (fun c4 => ?_) (fun c4 => ?_)
          · have hf := zif_p c4 hf
            have hq := (Option.some.inj hf)
            subst hq
            exact z_vret S hG hS hlocks trivial hr dX0_add_106
          · have hf := zif_n c4 hf
            refine lv_aload_n hx hb dX0_add_43 rfl (lv_at hl 0 rfl) ?_
            refine z_get (c0 := 0) (i0 := o) (k0 := 7) (T := TX0) (v := .int (zI σ 0 o 7)) S hG h_o rfl inlX0 (by decide) rfl zw_86 rfl dX0_add_44 ?_
            refine lv_aload_n hx hb dX0_add_47 rfl (lv_at hl 0 rfl) ?_
            refine z_get (c0 := 0) (i0 := o) (k0 := 3) (T := TX0) (v := .ref (ad 0 o 4)) S hG h_o rfl inlX0 (by decide) rfl zw_96 rfl dX0_add_48 ?_
            refine z_alen (c0 := 0) (i0 := o) (k0 := 3) (n := 4) (v := (nI (zln 0 o 3))) S hG h_o (by decide) rfl (by decide) rfl dX0_add_51 ?_
            refine lv_icmp_ge (tgt := 106) hx hb dX0_add_52 (by decide) (fun c5 => ?_) (fun c5 => ?_)
            · have hf := zif_p c5 hf
              have hq := (Option.some.inj hf)
              subst hq
              exact z_vret S hG hS hlocks trivial hr dX0_add_106
            · have hf := zif_n c5 hf
              refine lv_aload_n hx hb dX0_add_55 rfl (lv_at hl 0 rfl) ?_
              refine z_get (c0 := 0) (i0 := o) (k0 := 0) (T := TX0) (v := .ref (ad 0 o 1)) S hG h_o rfl inlX0 (by decide) rfl zw_93 rfl dX0_add_56 ?_
              refine lv_aload_n hx hb dX0_add_59 rfl (lv_at hl 0 rfl) ?_
              refine z_get (c0 := 0) (i0 := o) (k0 := 7) (T := TX0) (v := .int (zI σ 0 o 7)) S hG h_o rfl inlX0 (by decide) rfl zw_86 rfl dX0_add_60 ?_
              refine lv_iload_n hx hb dX0_add_63 rfl (lv_at hl 1 rfl) ?_
              obtain ⟨i6, hi6, hf⟩ := zbi hf
              refine z_iast (c0 := 0) (i0 := o) (k0 := 0) S hG hS h_o (by decide) rfl hi6 dX0_add_64 (fun H locs hG hS => ?_)
              obtain ⟨σ7, eσ7, hf⟩ := zlt_s hf
              rw [← eσ7] at hG
              refine lv_aload_n hx hb dX0_add_65 rfl (lv_at hl 0 rfl) ?_
              refine z_get (c0 := 0) (i0 := o) (k0 := 1) (T := TX0) (v := .ref (ad 0 o 2)) S hG h_o rfl inlX0 (by decide) rfl zw_94 rfl dX0_add_66 ?_
              refine lv_aload_n hx hb dX0_add_69 rfl (lv_at hl 0 rfl) ?_
              refine z_get (c0 := 0) (i0 := o) (k0 := 7) (T := TX0) (v := .int (zI σ7 0 o 7)) S hG h_o rfl inlX0 (by decide) rfl zw_86 rfl dX0_add_70 ?_
              refine lv_iload_n hx hb dX0_add_73 rfl (lv_at hl 2 rfl) ?_
              obtain ⟨i8, hi8, hf⟩ := zbi hf
              refine z_iast (c0 := 0) (i0 := o) (k0 := 1) S hG hS h_o (by decide) rfl hi8 dX0_add_74 (fun H locs hG hS => ?_)
              obtain ⟨σ9, eσ9, hf⟩ := zlt_s hf
              rw [← eσ9] at hG
              refine lv_aload_n hx hb dX0_add_75 rfl (lv_at hl 0 rfl) ?_
              refine z_get (c0 := 0) (i0 := o) (k0 := 2) (T := TX0) (v := .ref (ad 0 o 3)) S hG h_o rfl inlX0 (by decide) rfl zw_95 rfl dX0_add_76 ?_
              refine lv_aload_n hx hb dX0_add_79 rfl (lv_at hl 0 rfl) ?_
              refine z_get (c0 := 0) (i0 := o) (k0 := 7) (T := TX0) (v := .int (zI σ9 0 o 7)) S hG h_o rfl inlX0 (by decide) rfl zw_86 rfl dX0_add_80 ?_
              refine lv_iload_n hx hb dX0_add_83 rfl (lv_at hl 3 rfl) ?_
              obtain ⟨i10, hi10, hf⟩ := zbi hf
              refine z_iast (c0 := 0) (i0 := o) (k0 := 2) S hG hS h_o (by decide) rfl hi10 dX0_add_84 (fun H locs hG hS => ?_)
              obtain ⟨σ11, eσ11, hf⟩ := zlt_s hf
              rw [← eσ11] at hG
              refine lv_aload_n hx hb dX0_add_85 rfl (lv_at hl 0 rfl) ?_
              refine z_get (c0 := 0) (i0 := o) (k0 := 3) (T := TX0) (v := .ref (ad 0 o 4)) S hG h_o rfl inlX0 (by decide) rfl zw_96 rfl dX0_add_86 ?_
              refine lv_aload_n hx hb dX0_add_89 rfl (lv_at hl 0 rfl) ?_
              refine z_get (c0 := 0) (i0 := o) (k0 := 7) (T := TX0) (v := .int (zI σ11 0 o 7)) S hG h_o rfl inlX0 (by decide) rfl zw_86 rfl dX0_add_90 ?_
              refine lv_iload hx hb dX0_add_93 (lv_at hl 4 rfl) ?_
              obtain ⟨i12, hi12, hf⟩ := zbi hf
              refine z_iast (c0 := 0) (i0 := o) (k0 := 3) S hG hS h_o (by decide) rfl hi12 dX0_add_95 (fun H locs hG hS => ?_)
              obtain ⟨σ13, eσ13, hf⟩ := zlt_s hf
              rw [← eσ13] at hG
              refine lv_aload_n hx hb dX0_add_96 rfl (lv_at hl 0 rfl) ?_
              refine lv_dup hx hb dX0_add_97 rfl ?_
              refine z_get (c0 := 0) (i0 := o) (k0 := 7) (T := TX0) (v := .int (zI σ13 0 o 7)) S hG h_o rfl inlX0 (by decide) rfl zw_86 rfl dX0_add_98 ?_
              refine lv_iconst (v := 1) hx hb dX0_add_101 (by decide) ?_
              refine lv_iadd hx hb dX0_add_102 ?_
              refine z_putI (c0 := 0) (i0 := o) (k0 := 7) (T := TX0) S hG hS tyX0 tyX0_ok nmX0 h_o rfl inlX0 (by decide) rfl rfl zw_86 (by decide +kernel) rfl dX0_add_103 (fun H locs hG hS => ?_)
              obtain ⟨σ14, eσ14, hf⟩ := zlt_s hf
              rw [← eσ14] at hG
              have hq := (Option.some.inj hf)
              subst hq
              exact z_vret S hG hS hlocks trivial hr dX0_add_106
  exact hK0 _ _ ls hG hS hl hf
set_option maxRecDepth 100000 in
set_option maxHeartbeats 4000000 in
theorem c_X0_emit (l : Launch) (D : va_G) (aC : Nat → ClassId) (zs : Nat × Nat) (A : Nat → Prop) (nl : zNL) (ad : Nat → Nat → Nat → Nat) (σ : zM) (o : Nat) (x1 : Int32) (r : Int32) (σ' : zM) (h_o : zin nl 0 o) (hf : f_X0_emit σ o x1 = some (r, σ')) : Met l yX0_emit (Cond.code yX0_emit cX0_emit 2 (some .boolean) :: wsL_law) ({ frames := 0, cells := 0, slots := 0, locals := 0 } : Room) (zP D aC zs zfX A nl ad σ [.ref (ad 0 o 0), .int x1]) (zQ (some (.int r)) (fun t => zG D aC A nl ad σ' t t.heap ∧ (r = 0 ∨ r = 1)) A) 0 0 A := by
  refine Met.ofW (cc := cX0_emit) (maxL := 2) (ret := (some .boolean)) (by decide) rfl ?_
  intro p e s m args below meth c s₁ B hml hv
  obtain ⟨rfl, hG, hZ⟩ := hv
  have hx := B.exec
  have hb := B.bytes
  have hr := B.returns
  have hts : ∀ w ∈ wsL_law, w.before ([.ref (ad 0 o 0), .int x1] : List Value).toArray s = true := fun w h => (atoms_spec B.pre) w (List.mem_cons_of_mem _ h)
  have hown : s.vm.findClass RX0 = some m.cls := findClass_of_methodNamed B.named
  have hlocks := B.notSynchronized
  have S : zS p m c cX0_emit 2 s ([.ref (ad 0 o 0), .int x1] : List Value).toArray RX0 := ⟨hx, hb, hml, hown, hts⟩
  have hS : va_S A s.heap s.heap [] := va_S.rf
  have hl := lv_entry ([.ref (ad 0 o 0), .int x1]) (n := 2) (Nat.le_of_ble_eq_true rfl)
  rw [lg_entry_eq]
  generalize (lg_sl ([.ref (ad 0 o 0), .int x1]) ++ List.replicate (2 - (lg_sl ([.ref (ad 0 o 0), .int x1])).length) Slot.unset).toArray = ls at hl ⊢
  have hl : lv_has ls 2 [(0, .ref (ad 0 o 0)), (1, .int x1)] := hl
  generalize hargs : ([.ref (ad 0 o 0), .int x1] : List Value).toArray = args at S hts ⊢
  clear hargs
  have hK0 : ∀ (H : Heap) (locs : List Loc) (ls : Array Slot), zG D aC A nl ad σ s H → va_S A s.heap H locs → lv_has ls 2 [(0, .ref (ad 0 o 0)), (1, .int x1)] → f_X0_emit σ o x1 = some (r, σ') → zWk p l e ({ frames := 0, cells := 0, slots := 0, locals := 0 } : Room) s m args below meth c A (some (.int r)) (fun t => zG D aC A nl ad σ' t t.heap ∧ (r = 0 ∨ r = 1)) H locs (F0 m 0 ls []) := by
    intro H locs ls hG hS hl hf
    unfold f_X0_emit at hf
    refine lv_aload_n hx hb dX0_emit_0 rfl (lv_at hl 0 rfl) ?_
    refine z_get (c0 := 0) (i0 := o) (k0 := 8) (T := TX0) (v := .int (zI σ 0 o 8)) S hG h_o rfl inlX0 (by decide) rfl zw_87 rfl dX0_emit_1 ?_
    refine lv_if_lt (tgt := 19) hx hb dX0_emit_4 (by decide) (fun c1 => ?_) (fun c1 => ?_)
    · have hf := zif_p c1 hf
      refine lv_iconst (v := 0) hx hb dX0_emit_19 (by decide) ?_
      obtain ⟨hq1, hq2⟩ := Prod.mk.inj (Option.some.inj hf)
      subst hq1
      subst hq2
      exact z_zret S hG hS hlocks (Or.inl rfl) hr dX0_emit_20
    · have hf := zif_n c1 hf
      refine lv_aload_n hx hb dX0_emit_7 rfl (lv_at hl 0 rfl) ?_
      refine z_get (c0 := 0) (i0 := o) (k0 := 8) (T := TX0) (v := .int (zI σ 0 o 8)) S hG h_o rfl inlX0 (by decide) rfl zw_87 rfl dX0_emit_8 ?_
      refine lv_aload_n hx hb dX0_emit_11 rfl (lv_at hl 0 rfl) ?_
      refine z_get (c0 := 0) (i0 := o) (k0 := 4) (T := TX0) (v := .ref (ad 0 o 5)) S hG h_o rfl inlX0 (by decide) rfl zw_97 rfl dX0_emit_12 ?_
      refine z_alen (c0 := 0) (i0 := o) (k0 := 4) (n := 4) (v := (nI (zln 0 o 4))) S hG h_o (by decide) rfl (by decide) rfl dX0_emit_15 ?_
      refine lv_icmp_lt (tgt := 21) hx hb dX0_emit_16 (by decide) (fun c2 => ?_) (fun c2 => ?_)
      · have hf := zif_p c2 hf
        refine lv_aload_n hx hb dX0_emit_21 rfl (lv_at hl 0 rfl) ?_
        refine z_get (c0 := 0) (i0 := o) (k0 := 4) (T := TX0) (v := .ref (ad 0 o 5)) S hG h_o rfl inlX0 (by decide) rfl zw_97 rfl dX0_emit_22 ?_
        refine lv_aload_n hx hb dX0_emit_25 rfl (lv_at hl 0 rfl) ?_
        refine z_get (c0 := 0) (i0 := o) (k0 := 8) (T := TX0) (v := .int (zI σ 0 o 8)) S hG h_o rfl inlX0 (by decide) rfl zw_87 rfl dX0_emit_26 ?_
        refine lv_iload_n hx hb dX0_emit_29 rfl (lv_at hl 1 rfl) ?_
        obtain ⟨i3, hi3, hf⟩ := zbi hf
        refine z_iast (c0 := 0) (i0 := o) (k0 := 4) S hG hS h_o (by decide) rfl hi3 dX0_emit_30 (fun H locs hG hS => ?_)
        obtain ⟨σ4, eσ4, hf⟩ := zlt_s hf
        rw [← eσ4] at hG
        refine lv_aload_n hx hb dX0_emit_31 rfl (lv_at hl 0 rfl) ?_
        refine lv_dup hx hb dX0_emit_32 rfl ?_
        refine z_get (c0 := 0) (i0 := o) (k0 := 8) (T := TX0) (v := .int (zI σ4 0 o 8)) S hG h_o rfl inlX0 (by decide) rfl zw_87 rfl dX0_emit_33 ?_
        refine lv_iconst (v := 1) hx hb dX0_emit_36 (by decide) ?_
        refine lv_iadd hx hb dX0_emit_37 ?_
        refine z_putI (c0 := 0) (i0 := o) (k0 := 8) (T := TX0) S hG hS tyX0 tyX0_ok nmX0 h_o rfl inlX0 (by decide) rfl rfl zw_87 (by decide +kernel) rfl dX0_emit_38 (fun H locs hG hS => ?_)
        obtain ⟨σ5, eσ5, hf⟩ := zlt_s hf
        rw [← eσ5] at hG
        refine lv_iconst (v := 1) hx hb dX0_emit_41 (by decide) ?_
        obtain ⟨hq1, hq2⟩ := Prod.mk.inj (Option.some.inj hf)
        subst hq1
        subst hq2
        exact z_zret S hG hS hlocks (Or.inr rfl) hr dX0_emit_42
      · have hf := zif_n c2 hf
        refine lv_iconst (v := 0) hx hb dX0_emit_19 (by decide) ?_
        obtain ⟨hq1, hq2⟩ := Prod.mk.inj (Option.some.inj hf)
        subst hq1
        subst hq2
        exact z_zret S hG hS hlocks (Or.inl rfl) hr dX0_emit_20
  exact hK0 _ _ ls hG hS hl hf
set_option maxRecDepth 100000 in
set_option maxHeartbeats 4000000 in
theorem c_X0_comparison (l : Launch) (D : va_G) (aC : Nat → ClassId) (zs : Nat × Nat) (A : Nat → Prop) (nl : zNL) (ad : Nat → Nat → Nat → Nat) (σ : zM) (x0 : Int32) (x1 : Int32) (x2 : Int32) (r : Int32)  (hf : f_X0_comparison x0 x1 x2 = r) : Met l yX0_comparison (Cond.code yX0_comparison cX0_comparison 3 (some .int) :: wsL_law) ({ frames := 0, cells := 0, slots := 0, locals := 0 } : Room) (zP D aC zs zfX A nl ad σ [.int x0, .int x1, .int x2]) (zQ (some (.int r)) (fun t => zG D aC A nl ad σ t t.heap ∧ True) A) 0 0 A := by
  refine Met.ofW (cc := cX0_comparison) (maxL := 3) (ret := (some .int)) (by decide) rfl ?_
  intro p e s m args below meth c s₁ B hml hv
  obtain ⟨rfl, hG, hZ⟩ := hv
  have hx := B.exec
  have hb := B.bytes
  have hr := B.returns
  have hts : ∀ w ∈ wsL_law, w.before ([.int x0, .int x1, .int x2] : List Value).toArray s = true := fun w h => (atoms_spec B.pre) w (List.mem_cons_of_mem _ h)
  have hown : s.vm.findClass RX0 = some m.cls := findClass_of_methodNamed B.named
  have hlocks := B.notSynchronized
  have S : zS p m c cX0_comparison 3 s ([.int x0, .int x1, .int x2] : List Value).toArray RX0 := ⟨hx, hb, hml, hown, hts⟩
  have hS : va_S A s.heap s.heap [] := va_S.rf
  have hl := lv_entry ([.int x0, .int x1, .int x2]) (n := 3) (Nat.le_of_ble_eq_true rfl)
  rw [lg_entry_eq]
  generalize (lg_sl ([.int x0, .int x1, .int x2]) ++ List.replicate (3 - (lg_sl ([.int x0, .int x1, .int x2])).length) Slot.unset).toArray = ls at hl ⊢
  have hl : lv_has ls 3 [(0, .int x0), (1, .int x1), (2, .int x2)] := hl
  generalize hargs : ([.int x0, .int x1, .int x2] : List Value).toArray = args at S hts ⊢
  clear hargs
  have hK0 : ∀ (H : Heap) (locs : List Loc) (ls : Array Slot), zG D aC A nl ad σ s H → va_S A s.heap H locs → lv_has ls 3 [(0, .int x0), (1, .int x1), (2, .int x2)] → f_X0_comparison x0 x1 x2 = r → zWk p l e ({ frames := 0, cells := 0, slots := 0, locals := 0 } : Room) s m args below meth c A (some (.int r)) (fun t => zG D aC A nl ad σ t t.heap ∧ True) H locs (F0 m 0 ls []) := by
    intro H locs ls hG hS hl hf
    unfold f_X0_comparison at hf
    refine lv_iload_n hx hb dX0_comparison_0 rfl (lv_at hl 2 rfl) ?_
    refine lv_bipush (v := 8) hx hb dX0_comparison_1 (by decide) ?_
    refine lv_ishl hx hb dX0_comparison_3 ?_
    refine lv_iload_n hx hb dX0_comparison_4 rfl (lv_at hl 0 rfl) ?_
    refine lv_iconst (v := 2) hx hb dX0_comparison_5 (by decide) ?_
    refine lv_ishl hx hb dX0_comparison_6 ?_
    refine lv_ior hx hb dX0_comparison_7 ?_
    refine lv_iload_n hx hb dX0_comparison_8 rfl (lv_at hl 1 rfl) ?_
    refine lv_bipush (v := 60) hx hb dX0_comparison_9 (by decide) ?_
    refine lv_isub hx hb dX0_comparison_11 ?_
    refine lv_iconst (v := 3) hx hb dX0_comparison_12 (by decide) ?_
    refine lv_iand hx hb dX0_comparison_13 ?_
    refine lv_ior hx hb dX0_comparison_14 ?_
    have hq := hf
    subst hq
    exact z_iret S hG hS hlocks trivial hr dX0_comparison_15
  exact hK0 _ _ ls hG hS hl hf
set_option maxRecDepth 100000 in
set_option maxHeartbeats 4000000 in
theorem c_X0_subjectOf (l : Launch) (D : va_G) (aC : Nat → ClassId) (zs : Nat × Nat) (A : Nat → Prop) (nl : zNL) (ad : Nat → Nat → Nat → Nat) (σ : zM) (x0 : Int32) (r : Int32)  (hf : f_X0_subjectOf x0 = r) : Met l yX0_subjectOf (Cond.code yX0_subjectOf cX0_subjectOf 1 (some .int) :: wsL_law) ({ frames := 0, cells := 0, slots := 0, locals := 0 } : Room) (zP D aC zs zfX A nl ad σ [.int x0]) (zQ (some (.int r)) (fun t => zG D aC A nl ad σ t t.heap ∧ True) A) 0 0 A := by
  refine Met.ofW (cc := cX0_subjectOf) (maxL := 1) (ret := (some .int)) (by decide) rfl ?_
  intro p e s m args below meth c s₁ B hml hv
  obtain ⟨rfl, hG, hZ⟩ := hv
  have hx := B.exec
  have hb := B.bytes
  have hr := B.returns
  have hts : ∀ w ∈ wsL_law, w.before ([.int x0] : List Value).toArray s = true := fun w h => (atoms_spec B.pre) w (List.mem_cons_of_mem _ h)
  have hown : s.vm.findClass RX0 = some m.cls := findClass_of_methodNamed B.named
  have hlocks := B.notSynchronized
  have S : zS p m c cX0_subjectOf 1 s ([.int x0] : List Value).toArray RX0 := ⟨hx, hb, hml, hown, hts⟩
  have hS : va_S A s.heap s.heap [] := va_S.rf
  have hl := lv_entry ([.int x0]) (n := 1) (Nat.le_of_ble_eq_true rfl)
  rw [lg_entry_eq]
  generalize (lg_sl ([.int x0]) ++ List.replicate (1 - (lg_sl ([.int x0])).length) Slot.unset).toArray = ls at hl ⊢
  have hl : lv_has ls 1 [(0, .int x0)] := hl
  generalize hargs : ([.int x0] : List Value).toArray = args at S hts ⊢
  clear hargs
  have hK0 : ∀ (H : Heap) (locs : List Loc) (ls : Array Slot), zG D aC A nl ad σ s H → va_S A s.heap H locs → lv_has ls 1 [(0, .int x0)] → f_X0_subjectOf x0 = r → zWk p l e ({ frames := 0, cells := 0, slots := 0, locals := 0 } : Room) s m args below meth c A (some (.int r)) (fun t => zG D aC A nl ad σ t t.heap ∧ True) H locs (F0 m 0 ls []) := by
    intro H locs ls hG hS hl hf
    unfold f_X0_subjectOf at hf
    refine lv_iload_n hx hb dX0_subjectOf_0 rfl (lv_at hl 0 rfl) ?_
    refine lv_iconst (v := 2) hx hb dX0_subjectOf_1 (by decide) ?_
    refine lv_iushr (v := (zushr x0 2)) hx hb dX0_subjectOf_2 rfl ?_
    refine lv_bipush (v := 63) hx hb dX0_subjectOf_3 (by decide) ?_
    refine lv_iand hx hb dX0_subjectOf_5 ?_
    have hq := hf
    subst hq
    exact z_iret S hG hS hlocks trivial hr dX0_subjectOf_6
  exact hK0 _ _ ls hG hS hl hf
set_option maxRecDepth 100000 in
set_option maxHeartbeats 4000000 in
theorem c_X0_holds (l : Launch) (D : va_G) (aC : Nat → ClassId) (zs : Nat × Nat) (A : Nat → Prop) (nl : zNL) (ad : Nat → Nat → Nat → Nat) (σ : zM) (x0 : Int32) (x1 : Int32) (r : Int32)  (hf : f_X0_holds x0 x1 = r) : Met l yX0_holds (Cond.code yX0_holds cX0_holds 3 (some .boolean) :: wsL_law) ({ frames := 0, cells := 0, slots := 0, locals := 0 } : Room) (zP D aC zs zfX A nl ad σ [.int x0, .int x1]) (zQ (some (.int r)) (fun t => zG D aC A nl ad σ t t.heap ∧ (r = 0 ∨ r = 1)) A) 0 0 A := by
  refine Met.ofW (cc := cX0_holds) (maxL := 3) (ret := (some .boolean)) (by decide) rfl ?_
  intro p e s m args below meth c s₁ B hml hv
  obtain ⟨rfl, hG, hZ⟩ := hv
  have hx := B.exec
  have hb := B.bytes
  have hr := B.returns
  have hts : ∀ w ∈ wsL_law, w.before ([.int x0, .int x1] : List Value).toArray s = true := fun w h => (atoms_spec B.pre) w (List.mem_cons_of_mem _ h)
  have hown : s.vm.findClass RX0 = some m.cls := findClass_of_methodNamed B.named
  have hlocks := B.notSynchronized
  have S : zS p m c cX0_holds 3 s ([.int x0, .int x1] : List Value).toArray RX0 := ⟨hx, hb, hml, hown, hts⟩
  have hS : va_S A s.heap s.heap [] := va_S.rf
  have hl := lv_entry ([.int x0, .int x1]) (n := 3) (Nat.le_of_ble_eq_true rfl)
  rw [lg_entry_eq]
  generalize (lg_sl ([.int x0, .int x1]) ++ List.replicate (3 - (lg_sl ([.int x0, .int x1])).length) Slot.unset).toArray = ls at hl ⊢
  have hl : lv_has ls 3 [(0, .int x0), (1, .int x1)] := hl
  generalize hargs : ([.int x0, .int x1] : List Value).toArray = args at S hts ⊢
  clear hargs
  have hK0 : ∀ (H : Heap) (locs : List Loc) (ls : Array Slot), zG D aC A nl ad σ s H → va_S A s.heap H locs → lv_has ls 3 [(0, .int x0), (1, .int x1)] → f_X0_holds x0 x1 = r → zWk p l e ({ frames := 0, cells := 0, slots := 0, locals := 0 } : Room) s m args below meth c A (some (.int r)) (fun t => zG D aC A nl ad σ t t.heap ∧ (r = 0 ∨ r = 1)) H locs (F0 m 0 ls []) := by
    intro H locs ls hG hS hl hf
    unfold f_X0_holds at hf
    refine lv_iload_n hx hb dX0_holds_0 rfl (lv_at hl 0 rfl) ?_
    refine lv_bipush (v := 8) hx hb dX0_holds_1 (by decide) ?_
    refine lv_iushr (v := (zushr x0 8)) hx hb dX0_holds_3 rfl ?_
    refine lv_istore_n (lv' := [(2, .int (zushr x0 8)), (0, .int x0), (1, .int x1)]) hx hb dX0_holds_4 rfl hl (by decide) rfl (fun ls hl => ?_)
    refine lv_iload_n hx hb dX0_holds_5 rfl (lv_at hl 1 rfl) ?_
    refine lv_iconst (v := 3) hx hb dX0_holds_6 (by decide) ?_
    refine lv_iand hx hb dX0_holds_7 ?_
    by_cases c2 : (x0 &&& 3) = 0
    · have hf := zif_p c2 hf
      refine lv_lookup (x := (x0 &&& 3)) (off := 28) (tgt := 36) hx hb dX0_holds_8 (by decide) (by rw [c2]; decide) (by decide) ?_
      refine lv_iload_n hx hb dX0_holds_36 rfl (lv_at hl 2 rfl) ?_
      refine lv_iload_n hx hb dX0_holds_37 rfl (lv_at hl 0 rfl) ?_
      refine lv_icmp_ge (tgt := 45) hx hb dX0_holds_38 (by decide) (fun c3 => ?_) (fun c3 => ?_)
      · have hf := zif_p c3 hf
        refine lv_iconst (v := 0) hx hb dX0_holds_45 (by decide) ?_
        have hq := hf
        subst hq
        exact z_zret S hG hS hlocks (Or.inl rfl) hr dX0_holds_46
      · have hf := zif_n c3 hf
        refine lv_iconst (v := 1) hx hb dX0_holds_41 (by decide) ?_
        refine lv_goto (tgt := 46) hx hb dX0_holds_42 (by decide) ?_
        have hq := hf
        subst hq
        exact z_zret S hG hS hlocks (Or.inr rfl) hr dX0_holds_46
    · have hf := zif_n c2 hf
      by_cases c4 : (x0 &&& 3) = 1
      · have hf := zif_p c4 hf
        refine lv_lookup (x := (x0 &&& 3)) (off := 39) (tgt := 47) hx hb dX0_holds_8 (by decide) (by rw [c4]; decide) (by decide) ?_
        refine lv_iload_n hx hb dX0_holds_47 rfl (lv_at hl 2 rfl) ?_
        refine lv_iload_n hx hb dX0_holds_48 rfl (lv_at hl 0 rfl) ?_
        refine lv_icmp_ne (tgt := 56) hx hb dX0_holds_49 (by decide) (fun c5 => ?_) (fun c5 => ?_)
        · have hf := zif_n c5 hf
          refine lv_iconst (v := 0) hx hb dX0_holds_56 (by decide) ?_
          have hq := hf
          subst hq
          exact z_zret S hG hS hlocks (Or.inl rfl) hr dX0_holds_57
        · have hf := zif_p c5 hf
          refine lv_iconst (v := 1) hx hb dX0_holds_52 (by decide) ?_
          refine lv_goto (tgt := 57) hx hb dX0_holds_53 (by decide) ?_
          have hq := hf
          subst hq
          exact z_zret S hG hS hlocks (Or.inr rfl) hr dX0_holds_57
      · have hf := zif_n c4 hf
        refine lv_lookup (x := (x0 &&& 3)) (off := 50) (tgt := 58) hx hb dX0_holds_8 (by decide) ((lv_osw c2 rfl).trans ((lv_osw c4 rfl).trans (rfl))) (by decide) ?_
        refine lv_iload_n hx hb dX0_holds_58 rfl (lv_at hl 2 rfl) ?_
        refine lv_iload_n hx hb dX0_holds_59 rfl (lv_at hl 0 rfl) ?_
        refine lv_icmp_le (tgt := 67) hx hb dX0_holds_60 (by decide) (fun c1 => ?_) (fun c1 => ?_)
        · have hf := zif_p c1 hf
          refine lv_iconst (v := 0) hx hb dX0_holds_67 (by decide) ?_
          have hq := hf
          subst hq
          exact z_zret S hG hS hlocks (Or.inl rfl) hr dX0_holds_68
        · have hf := zif_n c1 hf
          refine lv_iconst (v := 1) hx hb dX0_holds_63 (by decide) ?_
          refine lv_goto (tgt := 68) hx hb dX0_holds_64 (by decide) ?_
          have hq := hf
          subst hq
          exact z_zret S hG hS hlocks (Or.inr rfl) hr dX0_holds_68
  exact hK0 _ _ ls hG hS hl hf
set_option maxRecDepth 100000 in
set_option maxHeartbeats 4000000 in
theorem c_X0_leastOf (l : Launch) (D : va_G) (aC : Nat → ClassId) (zs : Nat × Nat) (A : Nat → Prop) (nl : zNL) (ad : Nat → Nat → Nat → Nat) (σ : zM) (o : Nat) (x1 : Int32) (r : Int32) (h_o : zin nl 0 o) (hf : f_X0_leastOf σ o x1 = some r) : Met l yX0_leastOf (Cond.code yX0_leastOf cX0_leastOf 4 (some .int) :: wsL_law) ({ frames := 1, cells := 0, slots := 0, locals := 21 } : Room) (zP D aC zs zfX A nl ad σ [.ref (ad 0 o 0), .int x1]) (zQ (some (.int r)) (fun t => zG D aC A nl ad σ t t.heap ∧ True) A) 0 0 A := by
  refine Met.ofW (cc := cX0_leastOf) (maxL := 4) (ret := (some .int)) (by decide) rfl ?_
  intro p e s m args below meth c s₁ B hml hv
  obtain ⟨rfl, hG, hZ⟩ := hv
  have hx := B.exec
  have hb := B.bytes
  have hr := B.returns
  have hts : ∀ w ∈ wsL_law, w.before ([.ref (ad 0 o 0), .int x1] : List Value).toArray s = true := fun w h => (atoms_spec B.pre) w (List.mem_cons_of_mem _ h)
  have hown : s.vm.findClass RX0 = some m.cls := findClass_of_methodNamed B.named
  have hlocks := B.notSynchronized
  have S : zS p m c cX0_leastOf 4 s ([.ref (ad 0 o 0), .int x1] : List Value).toArray RX0 := ⟨hx, hb, hml, hown, hts⟩
  have hS : va_S A s.heap s.heap [] := va_S.rf
  have hl := lv_entry ([.ref (ad 0 o 0), .int x1]) (n := 4) (Nat.le_of_ble_eq_true rfl)
  rw [lg_entry_eq]
  generalize (lg_sl ([.ref (ad 0 o 0), .int x1]) ++ List.replicate (4 - (lg_sl ([.ref (ad 0 o 0), .int x1])).length) Slot.unset).toArray = ls at hl ⊢
  have hl : lv_has ls 4 [(0, .ref (ad 0 o 0)), (1, .int x1)] := hl
  generalize hargs : ([.ref (ad 0 o 0), .int x1] : List Value).toArray = args at S hts ⊢
  clear hargs
  have hK0 : ∀ (H : Heap) (locs : List Loc) (ls : Array Slot), zG D aC A nl ad σ s H → va_S A s.heap H locs → lv_has ls 4 [(0, .ref (ad 0 o 0)), (1, .int x1)] → f_X0_leastOf σ o x1 = some r → zWk p l e ({ frames := 1, cells := 0, slots := 0, locals := 21 } : Room) s m args below meth c A (some (.int r)) (fun t => zG D aC A nl ad σ t t.heap ∧ True) H locs (F0 m 0 ls []) := by
    intro H locs ls hG hS hl hf
    unfold f_X0_leastOf at hf
    refine lv_iconst (v := 0) hx hb dX0_leastOf_0 (by decide) ?_
    refine lv_istore_n (lv' := [(2, .int 0), (0, .ref (ad 0 o 0)), (1, .int x1)]) hx hb dX0_leastOf_1 rfl hl (by decide) rfl (fun ls hl => ?_)
    refine lv_iconst (v := 0) hx hb dX0_leastOf_2 (by decide) ?_
    refine lv_istore_n (lv' := [(3, .int 0), (2, .int 0), (0, .ref (ad 0 o 0)), (1, .int x1)]) hx hb dX0_leastOf_3 rfl hl (by decide) rfl (fun ls hl => ?_)
    obtain ⟨t4, hw4, hfo4⟩ := zbi hf
    have KL4 : ∀ (n : Nat) (y2l4 : Int32) (y3l4 : Int32) (H : Heap) (locs : List Loc) (ls : Array Slot), zG D aC A nl ad σ s H → va_S A s.heap H locs → lv_has ls 4 [(0, .ref (ad 0 o 0)), (1, .int x1), (2, .int y2l4), (3, .int y3l4)] → zwh (fun (q : (Int32 × Int32)) => f_X0_leastOf_L4 σ o x1 q.1 q.2) n (y2l4, y3l4) = some t4 → zWk p l e ({ frames := 1, cells := 0, slots := 0, locals := 21 } : Room) s m args below meth c A (some (.int r)) (fun t => zG D aC A nl ad σ t t.heap ∧ True) H locs (F0 m 4 ls []) := by
      intro n
      induction n with
      | zero =>
        intro y2l4 y3l4 H locs ls hG hS hl hw
        exact (zwh_0 hw).elim
      | succ n ih4 =>
        intro y2l4 y3l4 H locs ls hG hS hl hw
        obtain ⟨rr4, hf, hk4⟩ := zwh_u hw
        have hf : f_X0_leastOf_L4 σ o x1 y2l4 y3l4 = some rr4 := hf
        unfold f_X0_leastOf_L4 at hf
        have KJ51_4 : ∀ (y2b51 : Int32) (y3b51 : Int32)   (H : Heap) (locs : List Loc) (ls : Array Slot), zG D aC A nl ad σ s H → va_S A s.heap H locs → lv_has ls 4 [(0, .ref (ad 0 o 0)), (1, .int x1), (2, .int y2b51), (3, .int y3b51)] → (f_X0_leastOf_B51_4 σ o x1 y2b51 y3b51) = some rr4 → zWk p l e ({ frames := 1, cells := 0, slots := 0, locals := 21 } : Room) s m args below meth c A (some (.int r)) (fun t => zG D aC A nl ad σ t t.heap ∧ True) H locs (F0 m 51 ls []) := by
          intro y2b51 y3b51   H locs ls hG hS hl hf
          unfold f_X0_leastOf_B51_4 at hf
          refine lv_iinc (v := (y3b51 + 1)) (lv' := [(3, .int (y3b51 + 1)), (0, .ref (ad 0 o 0)), (1, .int x1), (2, .int y2b51)]) hx hb dX0_leastOf_51 hl (k := 3) rfl rfl (by decide) rfl (fun ls hl => ?_)
          refine lv_goto (tgt := 4) hx hb dX0_leastOf_54 (by decide) ?_
          cases hf
          exact ih4 y2b51 (y3b51 + 1) H locs ls hG hS (lv_sub hl [1, 2, 3, 0] rfl) hk4
        refine lv_iload_n hx hb dX0_leastOf_4 rfl (lv_at hl 3 rfl) ?_
        refine lv_aload_n hx hb dX0_leastOf_5 rfl (lv_at hl 0 rfl) ?_
        refine z_get (c0 := 0) (i0 := o) (k0 := 7) (T := TX0) (v := .int (zI σ 0 o 7)) S hG h_o rfl inlX0 (by decide) rfl zw_86 rfl dX0_leastOf_6 ?_
        refine lv_icmp_ge (tgt := 57) hx hb dX0_leastOf_9 (by decide) (fun c8 => ?_) (fun c8 => ?_)
        · have hf := zif_p c8 hf
          cases hf
          have hk4 : (y2l4 : Int32) = t4 := hk4
          have hf := hfo4
          rw [← hk4] at hf
          have hf : (some y2l4) = some r := hf
          refine lv_iload_n hx hb dX0_leastOf_57 rfl (lv_at hl 2 rfl) ?_
          have hq := (Option.some.inj hf)
          subst hq
          exact z_iret S hG hS hlocks trivial hr dX0_leastOf_58
        · have hf := zif_n c8 hf
          refine lv_iload_n hx hb dX0_leastOf_12 rfl (lv_at hl 3 rfl) ?_
          refine lv_aload_n hx hb dX0_leastOf_13 rfl (lv_at hl 0 rfl) ?_
          refine z_get (c0 := 0) (i0 := o) (k0 := 0) (T := TX0) (v := .ref (ad 0 o 1)) S hG h_o rfl inlX0 (by decide) rfl zw_93 rfl dX0_leastOf_14 ?_
          refine z_alen (c0 := 0) (i0 := o) (k0 := 0) (n := 4) (v := (nI (zln 0 o 0))) S hG h_o (by decide) rfl (by decide) rfl dX0_leastOf_17 ?_
          refine lv_icmp_ge (tgt := 57) hx hb dX0_leastOf_18 (by decide) (fun c9 => ?_) (fun c9 => ?_)
          · have hf := zif_p c9 hf
            cases hf
            have hk4 : (y2l4 : Int32) = t4 := hk4
            have hf := hfo4
            rw [← hk4] at hf
            have hf : (some y2l4) = some r := hf
            refine lv_iload_n hx hb dX0_leastOf_57 rfl (lv_at hl 2 rfl) ?_
            have hq := (Option.some.inj hf)
            subst hq
            exact z_iret S hG hS hlocks trivial hr dX0_leastOf_58
          · have hf := zif_n c9 hf
            refine lv_aload_n hx hb dX0_leastOf_21 rfl (lv_at hl 0 rfl) ?_
            refine z_get (c0 := 0) (i0 := o) (k0 := 0) (T := TX0) (v := .ref (ad 0 o 1)) S hG h_o rfl inlX0 (by decide) rfl zw_93 rfl dX0_leastOf_22 ?_
            refine lv_iload_n hx hb dX0_leastOf_25 rfl (lv_at hl 3 rfl) ?_
            obtain ⟨i10, hi10, hf⟩ := zbi hf
            refine z_iald (c0 := 0) (i0 := o) (k0 := 0) S hG h_o (by decide) rfl hi10 dX0_leastOf_26 ?_
            refine lv_if_ne (tgt := 51) hx hb dX0_leastOf_27 (by decide) (fun c11 => ?_) (fun c11 => ?_)
            · have hf := zif_n c11 hf
              exact KJ51_4 y2l4 y3l4 H locs ls hG hS (lv_sub hl [0, 1, 2, 3] rfl) hf
            · have hf := zif_p c11 hf
              refine lv_aload_n hx hb dX0_leastOf_30 rfl (lv_at hl 0 rfl) ?_
              refine z_get (c0 := 0) (i0 := o) (k0 := 1) (T := TX0) (v := .ref (ad 0 o 2)) S hG h_o rfl inlX0 (by decide) rfl zw_94 rfl dX0_leastOf_31 ?_
              refine lv_iload_n hx hb dX0_leastOf_34 rfl (lv_at hl 3 rfl) ?_
              obtain ⟨i12, hi12, hf⟩ := zbi hf
              refine z_iald (c0 := 0) (i0 := o) (k0 := 1) S hG h_o (by decide) rfl hi12 dX0_leastOf_35 ?_
              refine lv_iload_n hx hb dX0_leastOf_36 rfl (lv_at hl 1 rfl) ?_
              refine lv_icmp_ne (tgt := 51) hx hb dX0_leastOf_37 (by decide) (fun c13 => ?_) (fun c13 => ?_)
              · have hf := zif_n c13 hf
                exact KJ51_4 y2l4 y3l4 H locs ls hG hS (lv_sub hl [0, 1, 2, 3] rfl) hf
              · have hf := zif_p c13 hf
                refine lv_iload_n hx hb dX0_leastOf_40 rfl (lv_at hl 2 rfl) ?_
                refine lv_aload_n hx hb dX0_leastOf_41 rfl (lv_at hl 0 rfl) ?_
                refine z_get (c0 := 0) (i0 := o) (k0 := 2) (T := TX0) (v := .ref (ad 0 o 3)) S hG h_o rfl inlX0 (by decide) rfl zw_95 rfl dX0_leastOf_42 ?_
                refine lv_iload_n hx hb dX0_leastOf_45 rfl (lv_at hl 3 rfl) ?_
                obtain ⟨i14, hi14, hf⟩ := zbi hf
                refine z_iald (c0 := 0) (i0 := o) (k0 := 2) S hG h_o (by decide) rfl hi14 dX0_leastOf_46 ?_
                refine z_mmax (v := (zmax y2l4 (zA σ 0 o 2 i14))) S hl zw_89 zw_90 zw_91 zw_92 (Nat.le_of_ble_eq_true rfl) (Nat.le_of_ble_eq_true rfl) (Nat.le_of_ble_eq_true rfl) (Nat.zero_le _) (Nat.zero_le _) rfl dX0_leastOf_47 ?_
                refine lv_istore_n (lv' := [(2, .int (zmax y2l4 (zA σ 0 o 2 i14))), (0, .ref (ad 0 o 0)), (1, .int x1), (3, .int y3l4)]) hx hb dX0_leastOf_50 rfl hl (by decide) rfl (fun ls hl => ?_)
                exact KJ51_4 (zmax y2l4 (zA σ 0 o 2 i14)) y3l4 H locs ls hG hS (lv_sub hl [1, 2, 0, 3] rfl) hf
    exact KL4 zFu 0 0 H locs ls hG hS (lv_sub hl [2, 3, 1, 0] rfl) hw4
  exact hK0 _ _ ls hG hS hl hf
set_option maxRecDepth 100000 in
set_option maxHeartbeats 4000000 in
theorem c_X0_canBeMet (l : Launch) (D : va_G) (aC : Nat → ClassId) (zs : Nat × Nat) (A : Nat → Prop) (nl : zNL) (ad : Nat → Nat → Nat → Nat) (σ : zM) (o : Nat) (r : Int32) (h_o : zin nl 0 o) (hf : f_X0_canBeMet σ o = some r) : Met l yX0_canBeMet (Cond.code yX0_canBeMet cX0_canBeMet 8 (some .int) :: wsL_law) ({ frames := 2, cells := 0, slots := 0, locals := 44 } : Room) (zP D aC zs zfX A nl ad σ [.ref (ad 0 o 0)]) (zQ (some (.int r)) (fun t => zG D aC A nl ad σ t t.heap ∧ True) A) 0 0 A := by
  refine Met.ofW (cc := cX0_canBeMet) (maxL := 8) (ret := (some .int)) (by decide) rfl ?_
  intro p e s m args below meth c s₁ B hml hv
  obtain ⟨rfl, hG, hZ⟩ := hv
  have hx := B.exec
  have hb := B.bytes
  have hr := B.returns
  have hts : ∀ w ∈ wsL_law, w.before ([.ref (ad 0 o 0)] : List Value).toArray s = true := fun w h => (atoms_spec B.pre) w (List.mem_cons_of_mem _ h)
  have hown : s.vm.findClass RX0 = some m.cls := findClass_of_methodNamed B.named
  have hlocks := B.notSynchronized
  have S : zS p m c cX0_canBeMet 8 s ([.ref (ad 0 o 0)] : List Value).toArray RX0 := ⟨hx, hb, hml, hown, hts⟩
  have hS : va_S A s.heap s.heap [] := va_S.rf
  have hl := lv_entry ([.ref (ad 0 o 0)]) (n := 8) (Nat.le_of_ble_eq_true rfl)
  rw [lg_entry_eq]
  generalize (lg_sl ([.ref (ad 0 o 0)]) ++ List.replicate (8 - (lg_sl ([.ref (ad 0 o 0)])).length) Slot.unset).toArray = ls at hl ⊢
  have hl : lv_has ls 8 [(0, .ref (ad 0 o 0))] := hl
  generalize hargs : ([.ref (ad 0 o 0)] : List Value).toArray = args at S hts ⊢
  clear hargs
  have KJ47 : ∀ (y1b47 : Int64) (y3b47 : Int64)   (H : Heap) (locs : List Loc) (ls : Array Slot), zG D aC A nl ad σ s H → va_S A s.heap H locs → lv_has ls 8 [(0, .ref (ad 0 o 0)), (1, .long y1b47), (3, .long y3b47)] → (f_X0_canBeMet_B47 σ o y1b47 y3b47) = some r → zWk p l e ({ frames := 2, cells := 0, slots := 0, locals := 44 } : Room) s m args below meth c A (some (.int r)) (fun t => zG D aC A nl ad σ t t.heap ∧ True) H locs (F0 m 47 ls []) := by
    intro y1b47 y3b47   H locs ls hG hS hl hf
    unfold f_X0_canBeMet_B47 at hf
    refine lv_lload_n hx hb dX0_canBeMet_47 rfl (lv_at hl 1 rfl) ?_
    refine lv_ldc2 (v := 160) hx hb hown (hts _ zw_710) dX0_canBeMet_48 ?_
    refine W.lcmp hx hb dX0_canBeMet_51 ?_
    refine lv_if_le (tgt := 57) hx hb dX0_canBeMet_52 (by decide) (fun c2 => ?_) (fun c2 => ?_)
    · have hf := zif_p ((lg_cmp_le y1b47 160).mp c2) hf
      refine lv_iconst (v := 0) hx hb dX0_canBeMet_57 (by decide) ?_
      refine lv_istore (lv' := [(5, .int 0), (0, .ref (ad 0 o 0)), (1, .long y1b47), (3, .long y3b47)]) hx hb dX0_canBeMet_58 hl (by decide) rfl (fun ls hl => ?_)
      obtain ⟨t60, hw60, hfo60⟩ := zbi hf
      have KL60 : ∀ (n : Nat) (y5l60 : Int32) (H : Heap) (locs : List Loc) (ls : Array Slot), zG D aC A nl ad σ s H → va_S A s.heap H locs → lv_has ls 8 [(0, .ref (ad 0 o 0)), (3, .long y3b47), (5, .int y5l60)] → zwh (fun (q : Int32) => f_X0_canBeMet_L60 σ o y3b47 q) n y5l60 = some t60 → zWk p l e ({ frames := 2, cells := 0, slots := 0, locals := 44 } : Room) s m args below meth c A (some (.int r)) (fun t => zG D aC A nl ad σ t t.heap ∧ True) H locs (F0 m 60 ls []) := by
        intro n
        induction n with
        | zero =>
          intro y5l60 H locs ls hG hS hl hw
          exact (zwh_0 hw).elim
        | succ n ih60 =>
          intro y5l60 H locs ls hG hS hl hw
          obtain ⟨rr60, hf, hk60⟩ := zwh_u hw
          have hf : f_X0_canBeMet_L60 σ o y3b47 y5l60 = some rr60 := hf
          unfold f_X0_canBeMet_L60 at hf
          have KJ106_60 : ∀ (y5b106 : Int32)   (H : Heap) (locs : List Loc) (ls : Array Slot), zG D aC A nl ad σ s H → va_S A s.heap H locs → lv_has ls 8 [(0, .ref (ad 0 o 0)), (3, .long y3b47), (5, .int y5b106)] → (f_X0_canBeMet_B106_60 σ o y3b47 y5b106) = some rr60 → zWk p l e ({ frames := 2, cells := 0, slots := 0, locals := 44 } : Room) s m args below meth c A (some (.int r)) (fun t => zG D aC A nl ad σ t t.heap ∧ True) H locs (F0 m 106 ls []) := by
            intro y5b106   H locs ls hG hS hl hf
            unfold f_X0_canBeMet_B106_60 at hf
            refine lv_iinc (v := (y5b106 + 1)) (lv' := [(5, .int (y5b106 + 1)), (0, .ref (ad 0 o 0)), (3, .long y3b47)]) hx hb dX0_canBeMet_106 hl (k := 2) rfl rfl (by decide) rfl (fun ls hl => ?_)
            refine lv_goto (tgt := 60) hx hb dX0_canBeMet_109 (by decide) ?_
            cases hf
            exact ih60 (y5b106 + 1) H locs ls hG hS (lv_sub hl [1, 2, 0] rfl) hk60
          refine lv_iload hx hb dX0_canBeMet_60 (lv_at hl 2 rfl) ?_
          refine lv_aload_n hx hb dX0_canBeMet_62 rfl (lv_at hl 0 rfl) ?_
          refine z_get (c0 := 0) (i0 := o) (k0 := 7) (T := TX0) (v := .int (zI σ 0 o 7)) S hG h_o rfl inlX0 (by decide) rfl zw_86 rfl dX0_canBeMet_63 ?_
          refine lv_icmp_ge (tgt := 112) hx hb dX0_canBeMet_66 (by decide) (fun c9 => ?_) (fun c9 => ?_)
          · have hf := zif_p c9 hf
            cases hf
            have hk60 : ((.inr ()) : (Unit ⊕ Unit)) = t60 := hk60
            have hf := hfo60
            rw [← hk60] at hf
            have hf : (some 0) = some r := hf
            refine lv_iconst (v := 0) hx hb dX0_canBeMet_112 (by decide) ?_
            have hq := (Option.some.inj hf)
            subst hq
            exact z_iret S hG hS hlocks trivial hr dX0_canBeMet_113
          · have hf := zif_n c9 hf
            refine lv_iload hx hb dX0_canBeMet_69 (lv_at hl 2 rfl) ?_
            refine lv_aload_n hx hb dX0_canBeMet_71 rfl (lv_at hl 0 rfl) ?_
            refine z_get (c0 := 0) (i0 := o) (k0 := 0) (T := TX0) (v := .ref (ad 0 o 1)) S hG h_o rfl inlX0 (by decide) rfl zw_93 rfl dX0_canBeMet_72 ?_
            refine z_alen (c0 := 0) (i0 := o) (k0 := 0) (n := 4) (v := (nI (zln 0 o 0))) S hG h_o (by decide) rfl (by decide) rfl dX0_canBeMet_75 ?_
            refine lv_icmp_ge (tgt := 112) hx hb dX0_canBeMet_76 (by decide) (fun c10 => ?_) (fun c10 => ?_)
            · have hf := zif_p c10 hf
              cases hf
              have hk60 : ((.inr ()) : (Unit ⊕ Unit)) = t60 := hk60
              have hf := hfo60
              rw [← hk60] at hf
              have hf : (some 0) = some r := hf
              refine lv_iconst (v := 0) hx hb dX0_canBeMet_112 (by decide) ?_
              have hq := (Option.some.inj hf)
              subst hq
              exact z_iret S hG hS hlocks trivial hr dX0_canBeMet_113
            · have hf := zif_n c10 hf
              refine lv_aload_n hx hb dX0_canBeMet_79 rfl (lv_at hl 0 rfl) ?_
              refine z_get (c0 := 0) (i0 := o) (k0 := 0) (T := TX0) (v := .ref (ad 0 o 1)) S hG h_o rfl inlX0 (by decide) rfl zw_93 rfl dX0_canBeMet_80 ?_
              refine lv_iload hx hb dX0_canBeMet_83 (lv_at hl 2 rfl) ?_
              obtain ⟨i11, hi11, hf⟩ := zbi hf
              refine z_iald (c0 := 0) (i0 := o) (k0 := 0) S hG h_o (by decide) rfl hi11 dX0_canBeMet_85 ?_
              refine lv_bipush (v := 7) hx hb dX0_canBeMet_86 (by decide) ?_
              refine lv_icmp_ne (tgt := 106) hx hb dX0_canBeMet_88 (by decide) (fun c12 => ?_) (fun c12 => ?_)
              · have hf := zif_n c12 hf
                exact KJ106_60 y5l60 H locs ls hG hS (lv_sub hl [0, 1, 2] rfl) hf
              · have hf := zif_p c12 hf
                refine lv_lload_n hx hb dX0_canBeMet_91 rfl (lv_at hl 1 rfl) ?_
                refine lv_aload_n hx hb dX0_canBeMet_92 rfl (lv_at hl 0 rfl) ?_
                refine z_get (c0 := 0) (i0 := o) (k0 := 1) (T := TX0) (v := .ref (ad 0 o 2)) S hG h_o rfl inlX0 (by decide) rfl zw_94 rfl dX0_canBeMet_93 ?_
                refine lv_iload hx hb dX0_canBeMet_96 (lv_at hl 2 rfl) ?_
                obtain ⟨i13, hi13, hf⟩ := zbi hf
                refine z_iald (c0 := 0) (i0 := o) (k0 := 1) S hG h_o (by decide) rfl hi13 dX0_canBeMet_98 ?_
                refine lv_i2l (v := (zA σ 0 o 1 i13).toInt64) hx hb dX0_canBeMet_99 rfl ?_
                refine W.lcmp hx hb dX0_canBeMet_100 ?_
                refine lv_if_le (tgt := 106) hx hb dX0_canBeMet_101 (by decide) (fun c14 => ?_) (fun c14 => ?_)
                · have hf := zif_p ((lg_cmp_le y3b47 ((zA σ 0 o 1 i13).toInt64)).mp c14) hf
                  exact KJ106_60 y5l60 H locs ls hG hS (lv_sub hl [0, 1, 2] rfl) hf
                · have hf := zif_n (fun h => c14 ((lg_cmp_le y3b47 ((zA σ 0 o 1 i13).toInt64)).mpr h)) hf
                  cases hf
                  have hk60 : ((.inl ()) : (Unit ⊕ Unit)) = t60 := hk60
                  have hf := hfo60
                  rw [← hk60] at hf
                  have hf : (some 2) = some r := hf
                  refine lv_iconst (v := 2) hx hb dX0_canBeMet_104 (by decide) ?_
                  have hq := (Option.some.inj hf)
                  subst hq
                  exact z_iret S hG hS hlocks trivial hr dX0_canBeMet_105
      exact KL60 zFu 0 H locs ls hG hS (lv_sub hl [1, 3, 0] rfl) hw60
    · have hf := zif_n (fun h => c2 ((lg_cmp_le y1b47 160).mpr h)) hf
      refine lv_iconst (v := 1) hx hb dX0_canBeMet_55 (by decide) ?_
      have hq := (Option.some.inj hf)
      subst hq
      exact z_iret S hG hS hlocks trivial hr dX0_canBeMet_56
  have hK0 : ∀ (H : Heap) (locs : List Loc) (ls : Array Slot), zG D aC A nl ad σ s H → va_S A s.heap H locs → lv_has ls 8 [(0, .ref (ad 0 o 0))] → f_X0_canBeMet σ o = some r → zWk p l e ({ frames := 2, cells := 0, slots := 0, locals := 44 } : Room) s m args below meth c A (some (.int r)) (fun t => zG D aC A nl ad σ t t.heap ∧ True) H locs (F0 m 0 ls []) := by
    intro H locs ls hG hS hl hf
    unfold f_X0_canBeMet at hf
    refine lv_lconst (v := 0) hx hb dX0_canBeMet_0 (by decide) ?_
    refine lv_lstore_n (lv' := [(1, .long 0), (0, .ref (ad 0 o 0))]) hx hb dX0_canBeMet_1 rfl hl (by decide) rfl (fun ls hl => ?_)
    refine lv_lconst (v := 0) hx hb dX0_canBeMet_2 (by decide) ?_
    refine lv_lstore_n (lv' := [(3, .long 0), (1, .long 0), (0, .ref (ad 0 o 0))]) hx hb dX0_canBeMet_3 rfl hl (by decide) rfl (fun ls hl => ?_)
    refine lv_iconst (v := 1) hx hb dX0_canBeMet_4 (by decide) ?_
    refine lv_istore (lv' := [(5, .int 1), (3, .long 0), (1, .long 0), (0, .ref (ad 0 o 0))]) hx hb dX0_canBeMet_5 hl (by decide) rfl (fun ls hl => ?_)
    obtain ⟨t7, hw7, hfo7⟩ := zbi hf
    have KL7 : ∀ (n : Nat) (y1l7 : Int64) (y3l7 : Int64) (y5l7 : Int32) (H : Heap) (locs : List Loc) (ls : Array Slot), zG D aC A nl ad σ s H → va_S A s.heap H locs → lv_has ls 8 [(0, .ref (ad 0 o 0)), (1, .long y1l7), (3, .long y3l7), (5, .int y5l7)] → zwh (fun (q : (Int64 × Int64 × Int32)) => f_X0_canBeMet_L7 σ o q.1 q.2.1 q.2.2) n (y1l7, y3l7, y5l7) = some t7 → zWk p l e ({ frames := 2, cells := 0, slots := 0, locals := 44 } : Room) s m args below meth c A (some (.int r)) (fun t => zG D aC A nl ad σ t t.heap ∧ True) H locs (F0 m 7 ls []) := by
      intro n
      induction n with
      | zero =>
        intro y1l7 y3l7 y5l7 H locs ls hG hS hl hw
        exact (zwh_0 hw).elim
      | succ n ih7 =>
        intro y1l7 y3l7 y5l7 H locs ls hG hS hl hw
        obtain ⟨rr7, hf, hk7⟩ := zwh_u hw
        have hf : f_X0_canBeMet_L7 σ o y1l7 y3l7 y5l7 = some rr7 := hf
        unfold f_X0_canBeMet_L7 at hf
        refine lv_iload hx hb dX0_canBeMet_7 (lv_at hl 3 rfl) ?_
        refine lv_bipush (v := 12) hx hb dX0_canBeMet_9 (by decide) ?_
        refine lv_icmp_gt (tgt := 47) hx hb dX0_canBeMet_11 (by decide) (fun c19 => ?_) (fun c19 => ?_)
        · have hf := zif_p c19 hf
          cases hf
          have hk7 : ((y1l7, y3l7) : (Int64 × Int64)) = t7 := hk7
          have hf := hfo7
          rw [← hk7] at hf
          have hf : (f_X0_canBeMet_B47 σ o y1l7 y3l7) = some r := hf
          exact KJ47 y1l7 y3l7 H locs ls hG hS (lv_sub hl [0, 1, 2] rfl) hf
        · have hf := zif_n c19 hf
          refine lv_aload_n hx hb dX0_canBeMet_14 rfl (lv_at hl 0 rfl) ?_
          refine lv_iload hx hb dX0_canBeMet_15 (lv_at hl 3 rfl) ?_
          obtain ⟨r20, er20, hf⟩ := zbi hf
          refine z_callV (n := 1) (rest := []) (st1 := [.int r20]) (c0 := 0) (i0 := o) h_o (by rfl) S hG hS hZ (fun _ _ h => h) (c_X0_leastOf l D aC zs A nl ad σ o y5l7 r20 h_o er20) zw_711 zw_712 zw_713 zw_76 zw_714 (by decide +kernel) ⟨rfl, rfl⟩ ⟨(Nat.le_of_ble_eq_true rfl), (Nat.le_of_ble_eq_true rfl)⟩ hl.1 rfl (by rfl) (by rfl) (Nat.le_of_ble_eq_true rfl) dX0_canBeMet_17 ⟨Nat.zero_le _, Nat.zero_le _⟩ (fun H locs hz21 hG hS => ?_)
          refine lv_i2l (v := r20.toInt64) hx hb dX0_canBeMet_20 rfl ?_
          refine lv_lstore (lv' := [(6, .long r20.toInt64), (0, .ref (ad 0 o 0)), (1, .long y1l7), (3, .long y3l7), (5, .int y5l7)]) hx hb dX0_canBeMet_21 hl (by decide) rfl (fun ls hl => ?_)
          refine lv_lload_n hx hb dX0_canBeMet_23 rfl (lv_at hl 2 rfl) ?_
          refine lv_lload hx hb dX0_canBeMet_24 (lv_at hl 0 rfl) ?_
          refine lv_ladd hx hb dX0_canBeMet_26 ?_
          refine lv_lstore_n (lv' := [(1, .long (y1l7 + r20.toInt64)), (6, .long r20.toInt64), (0, .ref (ad 0 o 0)), (3, .long y3l7), (5, .int y5l7)]) hx hb dX0_canBeMet_27 rfl hl (by decide) rfl (fun ls hl => ?_)
          refine lv_lload_n hx hb dX0_canBeMet_28 rfl (lv_at hl 3 rfl) ?_
          refine lv_lload hx hb dX0_canBeMet_29 (lv_at hl 1 rfl) ?_
          refine lv_aload_n hx hb dX0_canBeMet_31 rfl (lv_at hl 2 rfl) ?_
          refine lv_iload hx hb dX0_canBeMet_32 (lv_at hl 4 rfl) ?_
          obtain ⟨r22, er22, hf⟩ := zbi hf
          refine z_callV (n := 1) (rest := [.long r20.toInt64, .long y3l7]) (st1 := [.int r22, .long r20.toInt64, .long y3l7]) (c0 := 0) (i0 := o) h_o (by rfl) S hG hS hZ (fun _ _ h => h) (c_X0_rate l D aC zs A nl ad σ o y5l7 r22 h_o er22) zw_715 zw_716 zw_717 zw_76 zw_718 (by decide +kernel) ⟨rfl, rfl⟩ ⟨(Nat.le_of_ble_eq_true rfl), (Nat.le_of_ble_eq_true rfl)⟩ hl.1 rfl (by rfl) (by rfl) (Nat.le_of_ble_eq_true rfl) dX0_canBeMet_34 ⟨Nat.zero_le _, Nat.zero_le _⟩ (fun H locs hz23 hG hS => ?_)
          refine lv_i2l (v := r22.toInt64) hx hb dX0_canBeMet_37 rfl ?_
          refine lv_lmul hx hb dX0_canBeMet_38 ?_
          refine lv_ladd hx hb dX0_canBeMet_39 ?_
          refine lv_lstore_n (lv' := [(3, .long (y3l7 + (r20.toInt64 * r22.toInt64))), (1, .long (y1l7 + r20.toInt64)), (6, .long r20.toInt64), (0, .ref (ad 0 o 0)), (5, .int y5l7)]) hx hb dX0_canBeMet_40 rfl hl (by decide) rfl (fun ls hl => ?_)
          refine lv_iinc (v := (y5l7 + 1)) (lv' := [(5, .int (y5l7 + 1)), (3, .long (y3l7 + (r20.toInt64 * r22.toInt64))), (1, .long (y1l7 + r20.toInt64)), (6, .long r20.toInt64), (0, .ref (ad 0 o 0))]) hx hb dX0_canBeMet_41 hl (k := 4) rfl rfl (by decide) rfl (fun ls hl => ?_)
          refine lv_goto (tgt := 7) hx hb dX0_canBeMet_44 (by decide) ?_
          cases hf
          exact ih7 (y1l7 + r20.toInt64) (y3l7 + (r20.toInt64 * r22.toInt64)) (y5l7 + 1) H locs ls hG hS (lv_sub hl [4, 2, 1, 0] rfl) hk7
    exact KL7 zFu 0 0 1 H locs ls hG hS (lv_sub hl [3, 2, 1, 0] rfl) hw7
  exact hK0 _ _ ls hG hS hl hf
set_option maxRecDepth 100000 in
set_option maxHeartbeats 4000000 in
theorem c_X1_isFull (l : Launch) (D : va_G) (aC : Nat → ClassId) (zs : Nat × Nat) (A : Nat → Prop) (nl : zNL) (ad : Nat → Nat → Nat → Nat) (σ : zM)  (r : Int32)  (hf : f_X1_isFull σ = r) : Met l yX1_isFull (Cond.code yX1_isFull cX1_isFull 1 (some .boolean) :: wsL_law) ({ frames := 0, cells := 0, slots := 0, locals := 0 } : Room) (zP D aC zs zfX A nl ad σ [.ref (ad 1 0 0)]) (zQ (some (.int r)) (fun t => zG D aC A nl ad σ t t.heap ∧ (r = 0 ∨ r = 1)) A) 0 0 A := by
  refine Met.ofW (cc := cX1_isFull) (maxL := 1) (ret := (some .boolean)) (by decide) rfl ?_
  intro p e s m args below meth c s₁ B hml hv
  obtain ⟨rfl, hG, hZ⟩ := hv
  have hx := B.exec
  have hb := B.bytes
  have hr := B.returns
  have hts : ∀ w ∈ wsL_law, w.before ([.ref (ad 1 0 0)] : List Value).toArray s = true := fun w h => (atoms_spec B.pre) w (List.mem_cons_of_mem _ h)
  have hown : s.vm.findClass RX1 = some m.cls := findClass_of_methodNamed B.named
  have hlocks := B.notSynchronized
  have S : zS p m c cX1_isFull 1 s ([.ref (ad 1 0 0)] : List Value).toArray RX1 := ⟨hx, hb, hml, hown, hts⟩
  have hS : va_S A s.heap s.heap [] := va_S.rf
  have hl := lv_entry ([.ref (ad 1 0 0)]) (n := 1) (Nat.le_of_ble_eq_true rfl)
  rw [lg_entry_eq]
  generalize (lg_sl ([.ref (ad 1 0 0)]) ++ List.replicate (1 - (lg_sl ([.ref (ad 1 0 0)])).length) Slot.unset).toArray = ls at hl ⊢
  have hl : lv_has ls 1 [(0, .ref (ad 1 0 0))] := hl
  generalize hargs : ([.ref (ad 1 0 0)] : List Value).toArray = args at S hts ⊢
  clear hargs
  have hK0 : ∀ (H : Heap) (locs : List Loc) (ls : Array Slot), zG D aC A nl ad σ s H → va_S A s.heap H locs → lv_has ls 1 [(0, .ref (ad 1 0 0))] → f_X1_isFull σ = r → zWk p l e ({ frames := 0, cells := 0, slots := 0, locals := 0 } : Room) s m args below meth c A (some (.int r)) (fun t => zG D aC A nl ad σ t t.heap ∧ (r = 0 ∨ r = 1)) H locs (F0 m 0 ls []) := by
    intro H locs ls hG hS hl hf
    unfold f_X1_isFull at hf
    refine lv_aload_n hx hb dX1_isFull_0 rfl (lv_at hl 0 rfl) ?_
    refine z_get (c0 := 1) (i0 := 0) (k0 := 2) (T := TX1) (v := .int (zI σ 1 0 2)) S hG (hZ.2.1 (1, 0) (by decide)) rfl inlX1 (by decide) rfl zw_78 rfl dX1_isFull_1 ?_
    refine lv_bipush (v := 6) hx hb dX1_isFull_4 (by decide) ?_
    refine lv_icmp_lt (tgt := 13) hx hb dX1_isFull_6 (by decide) (fun c1 => ?_) (fun c1 => ?_)
    · have hf := zif_p c1 hf
      refine lv_iconst (v := 0) hx hb dX1_isFull_13 (by decide) ?_
      have hq := hf
      subst hq
      exact z_zret S hG hS hlocks (Or.inl rfl) hr dX1_isFull_14
    · have hf := zif_n c1 hf
      refine lv_iconst (v := 1) hx hb dX1_isFull_9 (by decide) ?_
      refine lv_goto (tgt := 14) hx hb dX1_isFull_10 (by decide) ?_
      have hq := hf
      subst hq
      exact z_zret S hG hS hlocks (Or.inr rfl) hr dX1_isFull_14
  exact hK0 _ _ ls hG hS hl hf
set_option maxRecDepth 100000 in
set_option maxHeartbeats 4000000 in
theorem c_X1_take (l : Launch) (D : va_G) (aC : Nat → ClassId) (zs : Nat × Nat) (A : Nat → Prop) (nl : zNL) (ad : Nat → Nat → Nat → Nat) (σ : zM) (x1 : Nat) (x2 : Int32) (r : Int32) (σ' : zM) (h_x1 : zin nl 0 x1) (hf : f_X1_take σ x1 x2 = some (r, σ')) : Met l yX1_take (Cond.code yX1_take cX1_take 3 (some .int) :: wsL_law) ({ frames := 0, cells := 0, slots := 0, locals := 0 } : Room) (zP D aC zs zfX A nl ad σ [.ref (ad 1 0 0), .ref (ad 0 x1 0), .int x2]) (zQ (some (.int r)) (fun t => zG D aC A nl ad σ' t t.heap ∧ True) A) 0 0 A := by
  refine Met.ofW (cc := cX1_take) (maxL := 3) (ret := (some .int)) (by decide) rfl ?_
  intro p e s m args below meth c s₁ B hml hv
  obtain ⟨rfl, hG, hZ⟩ := hv
  have hx := B.exec
  have hb := B.bytes
  have hr := B.returns
  have hts : ∀ w ∈ wsL_law, w.before ([.ref (ad 1 0 0), .ref (ad 0 x1 0), .int x2] : List Value).toArray s = true := fun w h => (atoms_spec B.pre) w (List.mem_cons_of_mem _ h)
  have hown : s.vm.findClass RX1 = some m.cls := findClass_of_methodNamed B.named
  have hlocks := B.notSynchronized
  have S : zS p m c cX1_take 3 s ([.ref (ad 1 0 0), .ref (ad 0 x1 0), .int x2] : List Value).toArray RX1 := ⟨hx, hb, hml, hown, hts⟩
  have hS : va_S A s.heap s.heap [] := va_S.rf
  have hl := lv_entry ([.ref (ad 1 0 0), .ref (ad 0 x1 0), .int x2]) (n := 3) (Nat.le_of_ble_eq_true rfl)
  rw [lg_entry_eq]
  generalize (lg_sl ([.ref (ad 1 0 0), .ref (ad 0 x1 0), .int x2]) ++ List.replicate (3 - (lg_sl ([.ref (ad 1 0 0), .ref (ad 0 x1 0), .int x2])).length) Slot.unset).toArray = ls at hl ⊢
  have hl : lv_has ls 3 [(0, .ref (ad 1 0 0)), (1, .ref (ad 0 x1 0)), (2, .int x2)] := hl
  generalize hargs : ([.ref (ad 1 0 0), .ref (ad 0 x1 0), .int x2] : List Value).toArray = args at S hts ⊢
  clear hargs
  have hK0 : ∀ (H : Heap) (locs : List Loc) (ls : Array Slot), zG D aC A nl ad σ s H → va_S A s.heap H locs → lv_has ls 3 [(0, .ref (ad 1 0 0)), (1, .ref (ad 0 x1 0)), (2, .int x2)] → f_X1_take σ x1 x2 = some (r, σ') → zWk p l e ({ frames := 0, cells := 0, slots := 0, locals := 0 } : Room) s m args below meth c A (some (.int r)) (fun t => zG D aC A nl ad σ' t t.heap ∧ True) H locs (F0 m 0 ls []) := by
    intro H locs ls hG hS hl hf
    unfold f_X1_take at hf
    refine lv_aload_n hx hb dX1_take_0 rfl (lv_at hl 0 rfl) ?_
    refine z_get (c0 := 1) (i0 := 0) (k0 := 2) (T := TX1) (v := .int (zI σ 1 0 2)) S hG (hZ.2.1 (1, 0) (by decide)) rfl inlX1 (by decide) rfl zw_78 rfl dX1_take_1 ?_
    refine lv_if_lt (tgt := 19) hx hb dX1_take_4 (by decide) (fun c1 => ?_) (fun c1 => ?_)
    · have hf := zif_p c1 hf
      refine lv_bipush (v := (-3)) hx hb dX1_take_19 (by decide) ?_
      obtain ⟨hq1, hq2⟩ := Prod.mk.inj (Option.some.inj hf)
      subst hq1
      subst hq2
      exact z_iret S hG hS hlocks trivial hr dX1_take_21
    · have hf := zif_n c1 hf
      refine lv_aload_n hx hb dX1_take_7 rfl (lv_at hl 0 rfl) ?_
      refine z_get (c0 := 1) (i0 := 0) (k0 := 2) (T := TX1) (v := .int (zI σ 1 0 2)) S hG (hZ.2.1 (1, 0) (by decide)) rfl inlX1 (by decide) rfl zw_78 rfl dX1_take_8 ?_
      refine lv_aload_n hx hb dX1_take_11 rfl (lv_at hl 0 rfl) ?_
      refine z_get (c0 := 1) (i0 := 0) (k0 := 0) (T := TX1) (v := .ref (ad 1 0 1)) S hG (hZ.2.1 (1, 0) (by decide)) rfl inlX1 (by decide) rfl zw_74 rfl dX1_take_12 ?_
      refine z_alen (c0 := 1) (i0 := 0) (k0 := 0) (n := 9) (v := 6) S hG (hZ.2.1 (1, 0) (by decide)) (by decide) rfl (by decide) (by rfl) dX1_take_15 ?_
      refine lv_icmp_lt (tgt := 22) hx hb dX1_take_16 (by decide) (fun c2 => ?_) (fun c2 => ?_)
      · have hf := zif_p c2 hf
        refine lv_aload_n hx hb dX1_take_22 rfl (lv_at hl 1 rfl) ?_
        refine lv_iload_n hx hb dX1_take_23 rfl (lv_at hl 2 rfl) ?_
        refine z_putI (c0 := 0) (i0 := x1) (k0 := 9) (T := TX0) S hG hS tyX0 tyX0_ok nmX0 h_x1 rfl inlX0 (by decide) rfl rfl zw_503 (by decide +kernel) rfl dX1_take_24 (fun H locs hG hS => ?_)
        obtain ⟨σ3, eσ3, hf⟩ := zlt_s hf
        rw [← eσ3] at hG
        refine lv_aload_n hx hb dX1_take_27 rfl (lv_at hl 0 rfl) ?_
        refine z_get (c0 := 1) (i0 := 0) (k0 := 0) (T := TX1) (v := .ref (ad 1 0 1)) S hG (hZ.2.1 (1, 0) (by decide)) rfl inlX1 (by decide) rfl zw_74 rfl dX1_take_28 ?_
        refine lv_aload_n hx hb dX1_take_31 rfl (lv_at hl 0 rfl) ?_
        refine z_get (c0 := 1) (i0 := 0) (k0 := 2) (T := TX1) (v := .int (zI σ3 1 0 2)) S hG (hZ.2.1 (1, 0) (by decide)) rfl inlX1 (by decide) rfl zw_78 rfl dX1_take_32 ?_
        refine lv_aload_n hx hb dX1_take_35 rfl (lv_at hl 1 rfl) ?_
        obtain ⟨i4, hi4, hf⟩ := zbi hf
        refine z_aast9 (c0 := 1) (i0 := 0) (k0 := 0) S hG hS (hZ.2.1 (1, 0) (by decide)) (by decide) rfl h_x1 hi4 dX1_take_36 (fun H locs hG hS => ?_)
        obtain ⟨σ5, eσ5, hf⟩ := zlt_s hf
        rw [← eσ5] at hG
        refine lv_aload_n hx hb dX1_take_37 rfl (lv_at hl 0 rfl) ?_
        refine lv_null hx hb dX1_take_38 ?_
        refine z_putR (x := none) (cn := RX0) (c0 := 1) (i0 := 0) (k0 := 3) (T := TX1) S hG hS tyX1 tyX1_ok nmX1 (hZ.2.1 (1, 0) (by decide)) rfl inlX1 (by decide) rfl rfl zw_79 (by rfl) (by decide +kernel) rfl (fun _ h => by cases h) dX1_take_39 (fun H locs hG hS => ?_)
        obtain ⟨σ6, eσ6, hf⟩ := zlt_s hf
        rw [← eσ6] at hG
        refine lv_aload_n hx hb dX1_take_42 rfl (lv_at hl 0 rfl) ?_
        refine lv_dup hx hb dX1_take_43 rfl ?_
        refine z_get (c0 := 1) (i0 := 0) (k0 := 2) (T := TX1) (v := .int (zI σ6 1 0 2)) S hG (hZ.2.1 (1, 0) (by decide)) rfl inlX1 (by decide) rfl zw_78 rfl dX1_take_44 ?_
        refine lv_iconst (v := 1) hx hb dX1_take_47 (by decide) ?_
        refine lv_iadd hx hb dX1_take_48 ?_
        refine z_putI (c0 := 1) (i0 := 0) (k0 := 2) (T := TX1) S hG hS tyX1 tyX1_ok nmX1 (hZ.2.1 (1, 0) (by decide)) rfl inlX1 (by decide) rfl rfl zw_78 (by decide +kernel) rfl dX1_take_49 (fun H locs hG hS => ?_)
        obtain ⟨σ7, eσ7, hf⟩ := zlt_s hf
        rw [← eσ7] at hG
        refine lv_aload_n hx hb dX1_take_52 rfl (lv_at hl 0 rfl) ?_
        refine z_get (c0 := 1) (i0 := 0) (k0 := 2) (T := TX1) (v := .int (zI σ7 1 0 2)) S hG (hZ.2.1 (1, 0) (by decide)) rfl inlX1 (by decide) rfl zw_78 rfl dX1_take_53 ?_
        refine lv_iconst (v := 1) hx hb dX1_take_56 (by decide) ?_
        refine lv_isub hx hb dX1_take_57 ?_
        obtain ⟨hq1, hq2⟩ := Prod.mk.inj (Option.some.inj hf)
        subst hq1
        subst hq2
        exact z_iret S hG hS hlocks trivial hr dX1_take_58
      · have hf := zif_n c2 hf
        refine lv_bipush (v := (-3)) hx hb dX1_take_19 (by decide) ?_
        obtain ⟨hq1, hq2⟩ := Prod.mk.inj (Option.some.inj hf)
        subst hq1
        subst hq2
        exact z_iret S hG hS hlocks trivial hr dX1_take_21
  exact hK0 _ _ ls hG hS hl hf
set_option maxRecDepth 100000 in
set_option maxHeartbeats 4000000 in
theorem c_X1_numberOn (l : Launch) (D : va_G) (aC : Nat → ClassId) (zs : Nat × Nat) (A : Nat → Prop) (nl : zNL) (ad : Nat → Nat → Nat → Nat) (σ : zM) (x1 : Int32) (r : Int32)  (hf : f_X1_numberOn σ x1 = some r) : Met l yX1_numberOn (Cond.code yX1_numberOn cX1_numberOn 4 (some .int) :: wsL_law) ({ frames := 1, cells := 0, slots := 0, locals := 21 } : Room) (zP D aC zs zfX A nl ad σ [.ref (ad 1 0 0), .int x1]) (zQ (some (.int r)) (fun t => zG D aC A nl ad σ t t.heap ∧ True) A) 0 0 A := by
  refine Met.ofW (cc := cX1_numberOn) (maxL := 4) (ret := (some .int)) (by decide) rfl ?_
  intro p e s m args below meth c s₁ B hml hv
  obtain ⟨rfl, hG, hZ⟩ := hv
  have hx := B.exec
  have hb := B.bytes
  have hr := B.returns
  have hts : ∀ w ∈ wsL_law, w.before ([.ref (ad 1 0 0), .int x1] : List Value).toArray s = true := fun w h => (atoms_spec B.pre) w (List.mem_cons_of_mem _ h)
  have hown : s.vm.findClass RX1 = some m.cls := findClass_of_methodNamed B.named
  have hlocks := B.notSynchronized
  have S : zS p m c cX1_numberOn 4 s ([.ref (ad 1 0 0), .int x1] : List Value).toArray RX1 := ⟨hx, hb, hml, hown, hts⟩
  have hS : va_S A s.heap s.heap [] := va_S.rf
  have hl := lv_entry ([.ref (ad 1 0 0), .int x1]) (n := 4) (Nat.le_of_ble_eq_true rfl)
  rw [lg_entry_eq]
  generalize (lg_sl ([.ref (ad 1 0 0), .int x1]) ++ List.replicate (4 - (lg_sl ([.ref (ad 1 0 0), .int x1])).length) Slot.unset).toArray = ls at hl ⊢
  have hl : lv_has ls 4 [(0, .ref (ad 1 0 0)), (1, .int x1)] := hl
  generalize hargs : ([.ref (ad 1 0 0), .int x1] : List Value).toArray = args at S hts ⊢
  clear hargs
  have hK0 : ∀ (H : Heap) (locs : List Loc) (ls : Array Slot), zG D aC A nl ad σ s H → va_S A s.heap H locs → lv_has ls 4 [(0, .ref (ad 1 0 0)), (1, .int x1)] → f_X1_numberOn σ x1 = some r → zWk p l e ({ frames := 1, cells := 0, slots := 0, locals := 21 } : Room) s m args below meth c A (some (.int r)) (fun t => zG D aC A nl ad σ t t.heap ∧ True) H locs (F0 m 0 ls []) := by
    intro H locs ls hG hS hl hf
    unfold f_X1_numberOn at hf
    refine lv_aload_n hx hb dX1_numberOn_0 rfl (lv_at hl 0 rfl) ?_
    refine z_get (c0 := 1) (i0 := 0) (k0 := 2) (T := TX1) (v := .int (zI σ 1 0 2)) S hG (hZ.2.1 (1, 0) (by decide)) rfl inlX1 (by decide) rfl zw_78 rfl dX1_numberOn_1 ?_
    refine lv_aload_n hx hb dX1_numberOn_4 rfl (lv_at hl 0 rfl) ?_
    refine z_get (c0 := 1) (i0 := 0) (k0 := 0) (T := TX1) (v := .ref (ad 1 0 1)) S hG (hZ.2.1 (1, 0) (by decide)) rfl inlX1 (by decide) rfl zw_74 rfl dX1_numberOn_5 ?_
    refine z_alen (c0 := 1) (i0 := 0) (k0 := 0) (n := 9) (v := 6) S hG (hZ.2.1 (1, 0) (by decide)) (by decide) rfl (by decide) (by rfl) dX1_numberOn_8 ?_
    refine z_mmin (v := (zmin (zI σ 1 0 2) 6)) S hl zw_678 zw_679 zw_91 zw_680 (Nat.le_of_ble_eq_true rfl) (Nat.le_of_ble_eq_true rfl) (Nat.le_of_ble_eq_true rfl) (Nat.zero_le _) (Nat.zero_le _) rfl dX1_numberOn_9 ?_
    refine lv_iconst (v := 1) hx hb dX1_numberOn_12 (by decide) ?_
    refine lv_isub hx hb dX1_numberOn_13 ?_
    refine lv_istore_n (lv' := [(2, .int ((zmin (zI σ 1 0 2) 6) - 1)), (0, .ref (ad 1 0 0)), (1, .int x1)]) hx hb dX1_numberOn_14 rfl hl (by decide) rfl (fun ls hl => ?_)
    obtain ⟨t15, hw15, hfo15⟩ := zbi hf
    have KL15 : ∀ (n : Nat) (y2l15 : Int32) (H : Heap) (locs : List Loc) (ls : Array Slot), zG D aC A nl ad σ s H → va_S A s.heap H locs → lv_has ls 4 [(0, .ref (ad 1 0 0)), (1, .int x1), (2, .int y2l15)] → zwh (fun (q : Int32) => f_X1_numberOn_L15 σ x1 q) n y2l15 = some t15 → zWk p l e ({ frames := 1, cells := 0, slots := 0, locals := 21 } : Room) s m args below meth c A (some (.int r)) (fun t => zG D aC A nl ad σ t t.heap ∧ True) H locs (F0 m 15 ls []) := by
      intro n
      induction n with
      | zero =>
        intro y2l15 H locs ls hG hS hl hw
        exact (zwh_0 hw).elim
      | succ n ih15 =>
        intro y2l15 H locs ls hG hS hl hw
        obtain ⟨rr15, hf, hk15⟩ := zwh_u hw
        have hf : f_X1_numberOn_L15 σ x1 y2l15 = some rr15 := hf
        unfold f_X1_numberOn_L15 at hf
        have KJ40_15 : ∀ (y2b40 : Int32)   (H : Heap) (locs : List Loc) (ls : Array Slot), zG D aC A nl ad σ s H → va_S A s.heap H locs → lv_has ls 4 [(0, .ref (ad 1 0 0)), (1, .int x1), (2, .int y2b40)] → (f_X1_numberOn_B40_15 σ x1 y2b40) = some rr15 → zWk p l e ({ frames := 1, cells := 0, slots := 0, locals := 21 } : Room) s m args below meth c A (some (.int r)) (fun t => zG D aC A nl ad σ t t.heap ∧ True) H locs (F0 m 40 ls []) := by
          intro y2b40   H locs ls hG hS hl hf
          unfold f_X1_numberOn_B40_15 at hf
          refine lv_iinc (v := (y2b40 + (-1))) (lv' := [(2, .int (y2b40 + (-1))), (0, .ref (ad 1 0 0)), (1, .int x1)]) hx hb dX1_numberOn_40 hl (k := 2) rfl rfl (by decide) rfl (fun ls hl => ?_)
          refine lv_goto (tgt := 15) hx hb dX1_numberOn_43 (by decide) ?_
          cases hf
          exact ih15 (y2b40 + (-1)) H locs ls hG hS (lv_sub hl [1, 2, 0] rfl) hk15
        refine lv_iload_n hx hb dX1_numberOn_15 rfl (lv_at hl 2 rfl) ?_
        refine lv_if_lt (tgt := 46) hx hb dX1_numberOn_16 (by decide) (fun c7 => ?_) (fun c7 => ?_)
        · have hf := zif_p c7 hf
          cases hf
          have hk15 : ((.inr ()) : (Int32 ⊕ Unit)) = t15 := hk15
          have hf := hfo15
          rw [← hk15] at hf
          have hf : (some (-1)) = some r := hf
          refine lv_iconst (v := (-1)) hx hb dX1_numberOn_46 (by decide) ?_
          have hq := (Option.some.inj hf)
          subst hq
          exact z_iret S hG hS hlocks trivial hr dX1_numberOn_47
        · have hf := zif_n c7 hf
          refine lv_aload_n hx hb dX1_numberOn_19 rfl (lv_at hl 0 rfl) ?_
          refine z_get (c0 := 1) (i0 := 0) (k0 := 0) (T := TX1) (v := .ref (ad 1 0 1)) S hG (hZ.2.1 (1, 0) (by decide)) rfl inlX1 (by decide) rfl zw_74 rfl dX1_numberOn_20 ?_
          refine lv_iload_n hx hb dX1_numberOn_23 rfl (lv_at hl 2 rfl) ?_
          obtain ⟨i8, hi8, hf⟩ := zbi hf
          refine z_aald9 (c0 := 1) (i0 := 0) (k0 := 0) S hG (hZ.2.1 (1, 0) (by decide)) (by decide) rfl hi8 dX1_numberOn_24 (fun hz9 => ?_)
          rcases hE11 : (zO σ 1 0 0 i8) with _ | j10
          · have hf := znu_n0 hE11 hf
            refine W.eq (g2 := F0 m 25 ls [.null]) (by first | rfl | (rw [hE11]; rfl)) ?_
            refine lv_astore_nN (lv' := [(3, .null), (0, .ref (ad 1 0 0)), (1, .int x1), (2, .int y2l15)]) hx hb dX1_numberOn_25 rfl hl (by decide) rfl (fun ls hl => ?_)
            refine lv_aload_nN hx hb dX1_numberOn_26 rfl (lv_at hl 0 rfl) ?_
            refine lv_ifnullN (tgt := 40) hx hb dX1_numberOn_27 (by decide) ?_
            exact KJ40_15 y2l15 H locs ls hG hS (lv_sub hl [1, 2, 3] rfl) hf
          · have hf := znu_s0 hE11 hf
            refine W.eq (g2 := F0 m 25 ls [.ref (ad 0 j10 0)]) (by first | rfl | (rw [hE11]; rfl)) ?_
            refine lv_astore_n (lv' := [(3, .ref (ad 0 j10 0)), (0, .ref (ad 1 0 0)), (1, .int x1), (2, .int y2l15)]) hx hb dX1_numberOn_25 rfl hl (by decide) rfl (fun ls hl => ?_)
            refine lv_aload_n hx hb dX1_numberOn_26 rfl (lv_at hl 0 rfl) ?_
            refine lv_ifnull hx hb dX1_numberOn_27 ?_
            refine lv_aload_n hx hb dX1_numberOn_30 rfl (lv_at hl 0 rfl) ?_
            refine z_get (c0 := 0) (i0 := j10) (k0 := 9) (T := TX0) (v := .int (zI σ 0 j10 9)) S hG (hz9 j10 hE11) rfl inlX0 (by decide) rfl zw_503 rfl dX1_numberOn_31 ?_
            refine lv_iload_n hx hb dX1_numberOn_34 rfl (lv_at hl 2 rfl) ?_
            refine lv_icmp_gt (tgt := 40) hx hb dX1_numberOn_35 (by decide) (fun c12 => ?_) (fun c12 => ?_)
            · have hf := zif_p c12 hf
              exact KJ40_15 y2l15 H locs ls hG hS (lv_sub hl [1, 2, 3] rfl) hf
            · have hf := zif_n c12 hf
              cases hf
              have hk15 : ((.inl y2l15) : (Int32 ⊕ Unit)) = t15 := hk15
              have hf := hfo15
              rw [← hk15] at hf
              have hf : (some y2l15) = some r := hf
              refine lv_iload_n hx hb dX1_numberOn_38 rfl (lv_at hl 3 rfl) ?_
              have hq := (Option.some.inj hf)
              subst hq
              exact z_iret S hG hS hlocks trivial hr dX1_numberOn_39
    exact KL15 zFu ((zmin (zI σ 1 0 2) 6) - 1) H locs ls hG hS (lv_sub hl [1, 2, 0] rfl) hw15
  exact hK0 _ _ ls hG hS hl hf
set_option maxRecDepth 100000 in
set_option maxHeartbeats 4000000 in
theorem c_X1_on (l : Launch) (D : va_G) (aC : Nat → ClassId) (zs : Nat × Nat) (A : Nat → Prop) (nl : zNL) (ad : Nat → Nat → Nat → Nat) (σ : zM) (x1 : Int32) (r : Nat)  (hf : f_X1_on σ x1 = some r) : Met l yX1_on (Cond.code yX1_on cX1_on 4 (some (.object "BuildingJury$Brief")) :: wsL_law) ({ frames := 2, cells := 0, slots := 0, locals := 44 } : Room) (zP D aC zs zfX A nl ad σ [.ref (ad 1 0 0), .int x1]) (zQ (some (.ref (ad 0 r 0))) (fun t => zG D aC A nl ad σ t t.heap ∧ zin nl 0 r) A) 0 0 A := by
  refine Met.ofW (cc := cX1_on) (maxL := 4) (ret := (some (.object "BuildingJury$Brief"))) (by decide) rfl ?_
  intro p e s m args below meth c s₁ B hml hv
  obtain ⟨rfl, hG, hZ⟩ := hv
  have hx := B.exec
  have hb := B.bytes
  have hr := B.returns
  have hts : ∀ w ∈ wsL_law, w.before ([.ref (ad 1 0 0), .int x1] : List Value).toArray s = true := fun w h => (atoms_spec B.pre) w (List.mem_cons_of_mem _ h)
  have hown : s.vm.findClass RX1 = some m.cls := findClass_of_methodNamed B.named
  have hlocks := B.notSynchronized
  have S : zS p m c cX1_on 4 s ([.ref (ad 1 0 0), .int x1] : List Value).toArray RX1 := ⟨hx, hb, hml, hown, hts⟩
  have hS : va_S A s.heap s.heap [] := va_S.rf
  have hl := lv_entry ([.ref (ad 1 0 0), .int x1]) (n := 4) (Nat.le_of_ble_eq_true rfl)
  rw [lg_entry_eq]
  generalize (lg_sl ([.ref (ad 1 0 0), .int x1]) ++ List.replicate (4 - (lg_sl ([.ref (ad 1 0 0), .int x1])).length) Slot.unset).toArray = ls at hl ⊢
  have hl : lv_has ls 4 [(0, .ref (ad 1 0 0)), (1, .int x1)] := hl
  generalize hargs : ([.ref (ad 1 0 0), .int x1] : List Value).toArray = args at S hts ⊢
  clear hargs
  have KJ29 : ∀ (t0b29 : Option Nat) (h_t0b29 : ∀ j, t0b29 = some j → zin nl 0 j)  (H : Heap) (locs : List Loc) (ls : Array Slot), zG D aC A nl ad σ s H → va_S A s.heap H locs → lv_has ls 4 [(0, .ref (ad 1 0 0)), (1, .int x1)] → (f_X1_on_B29 σ x1 t0b29) = some r → zWk p l e ({ frames := 2, cells := 0, slots := 0, locals := 44 } : Room) s m args below meth c A (some (.ref (ad 0 r 0))) (fun t => zG D aC A nl ad σ t t.heap ∧ zin nl 0 r) H locs (F0 m 29 ls [va_rf (Option.map (fun j => ad 0 j 0) t0b29)]) := by
    intro t0b29 h_t0b29  H locs ls hG hS hl hf
    unfold f_X1_on_B29 at hf
    rcases t0b29 with _ | j4
    · have hf := znu_n hf
      have hl : lv_has ls 4 [(0, .ref (ad 1 0 0)), (1, .int x1)] := hl
      refine W.eq (g2 := F0 m 29 ls [.null]) (by rfl) ?_
      refine lv_astore_nN (lv' := [(3, .null), (0, .ref (ad 1 0 0)), (1, .int x1)]) hx hb dX1_on_29 rfl hl (by decide) rfl (fun ls hl => ?_)
      refine lv_aload_nN hx hb dX1_on_30 rfl (lv_at hl 0 rfl) ?_
      refine lv_ifnonnullN hx hb dX1_on_31 ?_
      refine lv_aload_n hx hb dX1_on_34 rfl (lv_at hl 1 rfl) ?_
      refine z_get (c0 := 1) (i0 := 0) (k0 := 1) (T := TX1) (v := .ref (ad 0 7 0)) S hG (hZ.2.1 (1, 0) (by decide)) rfl inlX1 (by decide) rfl zw_77 rfl dX1_on_35 ?_
      refine lv_goto (tgt := 42) hx hb dX1_on_38 (by decide) ?_
      have hq := (Option.some.inj hf)
      subst hq
      exact z_aret S hG hS hlocks (by exact (hZ.2.1 (0, 7) (by decide))) hr (Or.inl ⟨_, rfl⟩) (Or.inr ⟨_, rfl⟩) dX1_on_42
    · have hf := znu_s hf
      have hl : lv_has ls 4 [(0, .ref (ad 1 0 0)), (1, .int x1)] := hl
      refine W.eq (g2 := F0 m 29 ls [.ref (ad 0 j4 0)]) (by rfl) ?_
      refine lv_astore_n (lv' := [(3, .ref (ad 0 j4 0)), (0, .ref (ad 1 0 0)), (1, .int x1)]) hx hb dX1_on_29 rfl hl (by decide) rfl (fun ls hl => ?_)
      refine lv_aload_n hx hb dX1_on_30 rfl (lv_at hl 0 rfl) ?_
      refine lv_ifnonnull (tgt := 41) hx hb dX1_on_31 (by decide) ?_
      refine lv_aload_n hx hb dX1_on_41 rfl (lv_at hl 0 rfl) ?_
      have hq := (Option.some.inj hf)
      subst hq
      exact z_aret S hG hS hlocks (by exact (h_t0b29 j4 rfl)) hr (Or.inl ⟨_, rfl⟩) (Or.inr ⟨_, rfl⟩) dX1_on_42
  have KJ28 : ∀ (H : Heap) (locs : List Loc) (ls : Array Slot), zG D aC A nl ad σ s H → va_S A s.heap H locs → lv_has ls 4 [(0, .ref (ad 1 0 0)), (1, .int x1)] → (f_X1_on_B28 σ x1) = some r → zWk p l e ({ frames := 2, cells := 0, slots := 0, locals := 44 } : Room) s m args below meth c A (some (.ref (ad 0 r 0))) (fun t => zG D aC A nl ad σ t t.heap ∧ zin nl 0 r) H locs (F0 m 28 ls []) := by
    intro    H locs ls hG hS hl hf
    unfold f_X1_on_B28 at hf
    refine lv_null hx hb dX1_on_28 ?_
    refine W.eq (g2 := F0 m 29 ls [va_rf (Option.map (fun j => ad 0 j 0) none)]) (by rfl) ?_
    exact KJ29 none (fun _ h => by cases h) H locs ls hG hS (lv_sub hl [0, 1] rfl) hf
  have hK0 : ∀ (H : Heap) (locs : List Loc) (ls : Array Slot), zG D aC A nl ad σ s H → va_S A s.heap H locs → lv_has ls 4 [(0, .ref (ad 1 0 0)), (1, .int x1)] → f_X1_on σ x1 = some r → zWk p l e ({ frames := 2, cells := 0, slots := 0, locals := 44 } : Room) s m args below meth c A (some (.ref (ad 0 r 0))) (fun t => zG D aC A nl ad σ t t.heap ∧ zin nl 0 r) H locs (F0 m 0 ls []) := by
    intro H locs ls hG hS hl hf
    unfold f_X1_on at hf
    refine lv_aload_n hx hb dX1_on_0 rfl (lv_at hl 0 rfl) ?_
    refine lv_iload_n hx hb dX1_on_1 rfl (lv_at hl 1 rfl) ?_
    obtain ⟨r1, er1, hf⟩ := zbi hf
    refine z_callV (n := 1) (rest := []) (st1 := [.int r1]) (c0 := 1) (i0 := 0) (hZ.2.1 (1, 0) (by decide)) (by rfl) S hG hS hZ (fun _ _ h => h) (c_X1_numberOn l D aC zs A nl ad σ x1 r1 er1) zw_701 zw_675 zw_676 zw_23 zw_677 (by decide +kernel) ⟨rfl, rfl⟩ ⟨(Nat.le_of_ble_eq_true rfl), (Nat.le_of_ble_eq_true rfl)⟩ hl.1 rfl (by rfl) (by rfl) (Nat.le_of_ble_eq_true rfl) dX1_on_2 ⟨Nat.zero_le _, Nat.zero_le _⟩ (fun H locs hz2 hG hS => ?_)
    refine lv_istore_n (lv' := [(2, .int r1), (0, .ref (ad 1 0 0)), (1, .int x1)]) hx hb dX1_on_5 rfl hl (by decide) rfl (fun ls hl => ?_)
    refine lv_iload_n hx hb dX1_on_6 rfl (lv_at hl 0 rfl) ?_
    refine lv_if_lt (tgt := 28) hx hb dX1_on_7 (by decide) (fun c3 => ?_) (fun c3 => ?_)
    · have hf := zif_p c3 hf
      exact KJ28 H locs ls hG hS (lv_sub hl [1, 2] rfl) hf
    · have hf := zif_n c3 hf
      refine lv_iload_n hx hb dX1_on_10 rfl (lv_at hl 0 rfl) ?_
      refine lv_aload_n hx hb dX1_on_11 rfl (lv_at hl 1 rfl) ?_
      refine z_get (c0 := 1) (i0 := 0) (k0 := 0) (T := TX1) (v := .ref (ad 1 0 1)) S hG (hZ.2.1 (1, 0) (by decide)) rfl inlX1 (by decide) rfl zw_74 rfl dX1_on_12 ?_
      refine z_alen (c0 := 1) (i0 := 0) (k0 := 0) (n := 9) (v := 6) S hG (hZ.2.1 (1, 0) (by decide)) (by decide) rfl (by decide) (by rfl) dX1_on_15 ?_
      refine lv_icmp_ge (tgt := 28) hx hb dX1_on_16 (by decide) (fun c5 => ?_) (fun c5 => ?_)
      · have hf := zif_p c5 hf
        exact KJ28 H locs ls hG hS (lv_sub hl [1, 2] rfl) hf
      · have hf := zif_n c5 hf
        refine lv_aload_n hx hb dX1_on_19 rfl (lv_at hl 1 rfl) ?_
        refine z_get (c0 := 1) (i0 := 0) (k0 := 0) (T := TX1) (v := .ref (ad 1 0 1)) S hG (hZ.2.1 (1, 0) (by decide)) rfl inlX1 (by decide) rfl zw_74 rfl dX1_on_20 ?_
        refine lv_iload_n hx hb dX1_on_23 rfl (lv_at hl 0 rfl) ?_
        obtain ⟨i6, hi6, hf⟩ := zbi hf
        refine z_aald9 (c0 := 1) (i0 := 0) (k0 := 0) S hG (hZ.2.1 (1, 0) (by decide)) (by decide) rfl hi6 dX1_on_24 (fun hz7 => ?_)
        rcases hE9 : (zO σ 1 0 0 i6) with _ | j8
        · have hf := znu_n0 hE9 hf
          refine W.eq (g2 := F0 m 25 ls [.null]) (by first | rfl | (rw [hE9]; rfl)) ?_
          refine lv_goto (tgt := 29) hx hb dX1_on_25 (by decide) ?_
          refine W.eq (g2 := F0 m 29 ls [va_rf (Option.map (fun j => ad 0 j 0) none)]) (by rfl) ?_
          exact KJ29 none (fun _ h => by cases h) H locs ls hG hS (lv_sub hl [1, 2] rfl) hf
        · have hf := znu_s0 hE9 hf
          refine W.eq (g2 := F0 m 25 ls [.ref (ad 0 j8 0)]) (by first | rfl | (rw [hE9]; rfl)) ?_
          refine lv_goto (tgt := 29) hx hb dX1_on_25 (by decide) ?_
          refine W.eq (g2 := F0 m 29 ls [va_rf (Option.map (fun j => ad 0 j 0) (some j8))]) (by rfl) ?_
          exact KJ29 (some j8) (fun _ h => by cases h; exact (hz7 j8 hE9)) H locs ls hG hS (lv_sub hl [1, 2] rfl) hf
  exact hK0 _ _ ls hG hS hl hf
set_option maxRecDepth 100000 in
set_option maxHeartbeats 4000000 in
theorem c_X2_add (l : Launch) (D : va_G) (aC : Nat → ClassId) (zs : Nat × Nat) (A : Nat → Prop) (nl : zNL) (ad : Nat → Nat → Nat → Nat) (σ : zM)  (r : Int32) (σ' : zM)  (hf : f_X2_add σ = (r, σ')) : Met l yX2_add (Cond.code yX2_add cX2_add 1 (some .int) :: wsL_law) ({ frames := 0, cells := 0, slots := 0, locals := 0 } : Room) (zP D aC zs zfX A nl ad σ [.ref (ad 2 0 0)]) (zQ (some (.int r)) (fun t => zG D aC A nl ad σ' t t.heap ∧ True) A) 0 0 A := by
  refine Met.ofW (cc := cX2_add) (maxL := 1) (ret := (some .int)) (by decide) rfl ?_
  intro p e s m args below meth c s₁ B hml hv
  obtain ⟨rfl, hG, hZ⟩ := hv
  have hx := B.exec
  have hb := B.bytes
  have hr := B.returns
  have hts : ∀ w ∈ wsL_law, w.before ([.ref (ad 2 0 0)] : List Value).toArray s = true := fun w h => (atoms_spec B.pre) w (List.mem_cons_of_mem _ h)
  have hown : s.vm.findClass RX2 = some m.cls := findClass_of_methodNamed B.named
  have hlocks := B.notSynchronized
  have S : zS p m c cX2_add 1 s ([.ref (ad 2 0 0)] : List Value).toArray RX2 := ⟨hx, hb, hml, hown, hts⟩
  have hS : va_S A s.heap s.heap [] := va_S.rf
  have hl := lv_entry ([.ref (ad 2 0 0)]) (n := 1) (Nat.le_of_ble_eq_true rfl)
  rw [lg_entry_eq]
  generalize (lg_sl ([.ref (ad 2 0 0)]) ++ List.replicate (1 - (lg_sl ([.ref (ad 2 0 0)])).length) Slot.unset).toArray = ls at hl ⊢
  have hl : lv_has ls 1 [(0, .ref (ad 2 0 0))] := hl
  generalize hargs : ([.ref (ad 2 0 0)] : List Value).toArray = args at S hts ⊢
  clear hargs
  have hK0 : ∀ (H : Heap) (locs : List Loc) (ls : Array Slot), zG D aC A nl ad σ s H → va_S A s.heap H locs → lv_has ls 1 [(0, .ref (ad 2 0 0))] → f_X2_add σ = (r, σ') → zWk p l e ({ frames := 0, cells := 0, slots := 0, locals := 0 } : Room) s m args below meth c A (some (.int r)) (fun t => zG D aC A nl ad σ' t t.heap ∧ True) H locs (F0 m 0 ls []) := by
    intro H locs ls hG hS hl hf
    unfold f_X2_add at hf
    refine lv_aload_n hx hb dX2_add_0 rfl (lv_at hl 0 rfl) ?_
    refine z_get (c0 := 2) (i0 := 0) (k0 := 1) (T := TX2) (v := .int (zI σ 2 0 1)) S hG (hZ.2.1 (2, 0) (by decide)) rfl inlX2 (by decide) rfl zw_207 rfl dX2_add_1 ?_
    refine lv_bipush (v := 7) hx hb dX2_add_4 (by decide) ?_
    refine lv_icmp_lt (tgt := 11) hx hb dX2_add_6 (by decide) (fun c1 => ?_) (fun c1 => ?_)
    · have hf := zif_p c1 hf
      refine lv_aload_n hx hb dX2_add_11 rfl (lv_at hl 0 rfl) ?_
      refine lv_dup hx hb dX2_add_12 rfl ?_
      refine z_get (c0 := 2) (i0 := 0) (k0 := 1) (T := TX2) (v := .int (zI σ 2 0 1)) S hG (hZ.2.1 (2, 0) (by decide)) rfl inlX2 (by decide) rfl zw_207 rfl dX2_add_13 ?_
      refine lv_iconst (v := 1) hx hb dX2_add_16 (by decide) ?_
      refine lv_iadd hx hb dX2_add_17 ?_
      refine z_putI (c0 := 2) (i0 := 0) (k0 := 1) (T := TX2) S hG hS tyX2 tyX2_ok nmX2 (hZ.2.1 (2, 0) (by decide)) rfl inlX2 (by decide) rfl rfl zw_207 (by decide +kernel) rfl dX2_add_18 (fun H locs hG hS => ?_)
      obtain ⟨σ2, eσ2, hf⟩ := zlt_s hf
      rw [← eσ2] at hG
      refine lv_aload_n hx hb dX2_add_21 rfl (lv_at hl 0 rfl) ?_
      refine z_get (c0 := 2) (i0 := 0) (k0 := 1) (T := TX2) (v := .int (zI σ2 2 0 1)) S hG (hZ.2.1 (2, 0) (by decide)) rfl inlX2 (by decide) rfl zw_207 rfl dX2_add_22 ?_
      refine lv_iconst (v := 1) hx hb dX2_add_25 (by decide) ?_
      refine lv_isub hx hb dX2_add_26 ?_
      obtain ⟨hq1, hq2⟩ := Prod.mk.inj hf
      subst hq1
      subst hq2
      exact z_iret S hG hS hlocks trivial hr dX2_add_27
    · have hf := zif_n c1 hf
      refine lv_iconst (v := (-1)) hx hb dX2_add_9 (by decide) ?_
      obtain ⟨hq1, hq2⟩ := Prod.mk.inj hf
      subst hq1
      subst hq2
      exact z_iret S hG hS hlocks trivial hr dX2_add_10
  exact hK0 _ _ ls hG hS hl hf
set_option maxRecDepth 100000 in
set_option maxHeartbeats 4000000 in
theorem c_X2_has (l : Launch) (D : va_G) (aC : Nat → ClassId) (zs : Nat × Nat) (A : Nat → Prop) (nl : zNL) (ad : Nat → Nat → Nat → Nat) (σ : zM) (x1 : Int32) (r : Int32)  (hf : f_X2_has σ x1 = r) : Met l yX2_has (Cond.code yX2_has cX2_has 2 (some .boolean) :: wsL_law) ({ frames := 0, cells := 0, slots := 0, locals := 0 } : Room) (zP D aC zs zfX A nl ad σ [.ref (ad 2 0 0), .int x1]) (zQ (some (.int r)) (fun t => zG D aC A nl ad σ t t.heap ∧ (r = 0 ∨ r = 1)) A) 0 0 A := by
  refine Met.ofW (cc := cX2_has) (maxL := 2) (ret := (some .boolean)) (by decide) rfl ?_
  intro p e s m args below meth c s₁ B hml hv
  obtain ⟨rfl, hG, hZ⟩ := hv
  have hx := B.exec
  have hb := B.bytes
  have hr := B.returns
  have hts : ∀ w ∈ wsL_law, w.before ([.ref (ad 2 0 0), .int x1] : List Value).toArray s = true := fun w h => (atoms_spec B.pre) w (List.mem_cons_of_mem _ h)
  have hown : s.vm.findClass RX2 = some m.cls := findClass_of_methodNamed B.named
  have hlocks := B.notSynchronized
  have S : zS p m c cX2_has 2 s ([.ref (ad 2 0 0), .int x1] : List Value).toArray RX2 := ⟨hx, hb, hml, hown, hts⟩
  have hS : va_S A s.heap s.heap [] := va_S.rf
  have hl := lv_entry ([.ref (ad 2 0 0), .int x1]) (n := 2) (Nat.le_of_ble_eq_true rfl)
  rw [lg_entry_eq]
  generalize (lg_sl ([.ref (ad 2 0 0), .int x1]) ++ List.replicate (2 - (lg_sl ([.ref (ad 2 0 0), .int x1])).length) Slot.unset).toArray = ls at hl ⊢
  have hl : lv_has ls 2 [(0, .ref (ad 2 0 0)), (1, .int x1)] := hl
  generalize hargs : ([.ref (ad 2 0 0), .int x1] : List Value).toArray = args at S hts ⊢
  clear hargs
  have hK0 : ∀ (H : Heap) (locs : List Loc) (ls : Array Slot), zG D aC A nl ad σ s H → va_S A s.heap H locs → lv_has ls 2 [(0, .ref (ad 2 0 0)), (1, .int x1)] → f_X2_has σ x1 = r → zWk p l e ({ frames := 0, cells := 0, slots := 0, locals := 0 } : Room) s m args below meth c A (some (.int r)) (fun t => zG D aC A nl ad σ t t.heap ∧ (r = 0 ∨ r = 1)) H locs (F0 m 0 ls []) := by
    intro H locs ls hG hS hl hf
    unfold f_X2_has at hf
    refine lv_iload_n hx hb dX2_has_0 rfl (lv_at hl 1 rfl) ?_
    refine lv_if_lt (tgt := 16) hx hb dX2_has_1 (by decide) (fun c1 => ?_) (fun c1 => ?_)
    · have hf := zif_p c1 hf
      refine lv_iconst (v := 0) hx hb dX2_has_16 (by decide) ?_
      have hq := hf
      subst hq
      exact z_zret S hG hS hlocks (Or.inl rfl) hr dX2_has_17
    · have hf := zif_n c1 hf
      refine lv_iload_n hx hb dX2_has_4 rfl (lv_at hl 1 rfl) ?_
      refine lv_aload_n hx hb dX2_has_5 rfl (lv_at hl 0 rfl) ?_
      refine z_get (c0 := 2) (i0 := 0) (k0 := 1) (T := TX2) (v := .int (zI σ 2 0 1)) S hG (hZ.2.1 (2, 0) (by decide)) rfl inlX2 (by decide) rfl zw_207 rfl dX2_has_6 ?_
      refine lv_icmp_ge (tgt := 16) hx hb dX2_has_9 (by decide) (fun c2 => ?_) (fun c2 => ?_)
      · have hf := zif_p c2 hf
        refine lv_iconst (v := 0) hx hb dX2_has_16 (by decide) ?_
        have hq := hf
        subst hq
        exact z_zret S hG hS hlocks (Or.inl rfl) hr dX2_has_17
      · have hf := zif_n c2 hf
        refine lv_iconst (v := 1) hx hb dX2_has_12 (by decide) ?_
        refine lv_goto (tgt := 17) hx hb dX2_has_13 (by decide) ?_
        have hq := hf
        subst hq
        exact z_zret S hG hS hlocks (Or.inr rfl) hr dX2_has_17
  exact hK0 _ _ ls hG hS hl hf
set_option maxRecDepth 100000 in
set_option maxHeartbeats 4000000 in
theorem c_X2_tell (l : Launch) (D : va_G) (aC : Nat → ClassId) (zs : Nat × Nat) (A : Nat → Prop) (nl : zNL) (ad : Nat → Nat → Nat → Nat) (σ : zM) (x1 : Int32) (x2 : Int32) (x3 : Int32)  (σ' : zM)  (hf : f_X2_tell σ x1 x2 x3 = some σ') : Met l yX2_tell (Cond.code yX2_tell cX2_tell 5 none :: wsL_law) ({ frames := 1, cells := 0, slots := 0, locals := 21 } : Room) (zP D aC zs zfX A nl ad σ [.ref (ad 2 0 0), .int x1, .int x2, .int x3]) (zQ none (fun t => zG D aC A nl ad σ' t t.heap ∧ True) A) 0 0 A := by
  refine Met.ofW (cc := cX2_tell) (maxL := 5) (ret := none) (by decide) rfl ?_
  intro p e s m args below meth c s₁ B hml hv
  obtain ⟨rfl, hG, hZ⟩ := hv
  have hx := B.exec
  have hb := B.bytes
  have hr := B.returns
  have hts : ∀ w ∈ wsL_law, w.before ([.ref (ad 2 0 0), .int x1, .int x2, .int x3] : List Value).toArray s = true := fun w h => (atoms_spec B.pre) w (List.mem_cons_of_mem _ h)
  have hown : s.vm.findClass RX2 = some m.cls := findClass_of_methodNamed B.named
  have hlocks := B.notSynchronized
  have S : zS p m c cX2_tell 5 s ([.ref (ad 2 0 0), .int x1, .int x2, .int x3] : List Value).toArray RX2 := ⟨hx, hb, hml, hown, hts⟩
  have hS : va_S A s.heap s.heap [] := va_S.rf
  have hl := lv_entry ([.ref (ad 2 0 0), .int x1, .int x2, .int x3]) (n := 5) (Nat.le_of_ble_eq_true rfl)
  rw [lg_entry_eq]
  generalize (lg_sl ([.ref (ad 2 0 0), .int x1, .int x2, .int x3]) ++ List.replicate (5 - (lg_sl ([.ref (ad 2 0 0), .int x1, .int x2, .int x3])).length) Slot.unset).toArray = ls at hl ⊢
  have hl : lv_has ls 5 [(0, .ref (ad 2 0 0)), (1, .int x1), (2, .int x2), (3, .int x3)] := hl
  generalize hargs : ([.ref (ad 2 0 0), .int x1, .int x2, .int x3] : List Value).toArray = args at S hts ⊢
  clear hargs
  have hK0 : ∀ (H : Heap) (locs : List Loc) (ls : Array Slot), zG D aC A nl ad σ s H → va_S A s.heap H locs → lv_has ls 5 [(0, .ref (ad 2 0 0)), (1, .int x1), (2, .int x2), (3, .int x3)] → f_X2_tell σ x1 x2 x3 = some σ' → zWk p l e ({ frames := 1, cells := 0, slots := 0, locals := 21 } : Room) s m args below meth c A none (fun t => zG D aC A nl ad σ' t t.heap ∧ True) H locs (F0 m 0 ls []) := by
    intro H locs ls hG hS hl hf
    unfold f_X2_tell at hf
    refine lv_iload_n hx hb dX2_tell_0 rfl (lv_at hl 1 rfl) ?_
    refine lv_bipush (v := 40) hx hb dX2_tell_1 (by decide) ?_
    refine lv_imul hx hb dX2_tell_3 ?_
    refine lv_iload_n hx hb dX2_tell_4 rfl (lv_at hl 2 rfl) ?_
    refine lv_iadd hx hb dX2_tell_5 ?_
    refine lv_istore (lv' := [(4, .int ((x1 * 40) + x2)), (0, .ref (ad 2 0 0)), (1, .int x1), (2, .int x2), (3, .int x3)]) hx hb dX2_tell_6 hl (by decide) rfl (fun ls hl => ?_)
    refine lv_iload hx hb dX2_tell_8 (lv_at hl 0 rfl) ?_
    refine lv_if_lt (tgt := 41) hx hb dX2_tell_10 (by decide) (fun c1 => ?_) (fun c1 => ?_)
    · have hf := zif_p c1 hf
      have hq := (Option.some.inj hf)
      subst hq
      exact z_vret S hG hS hlocks trivial hr dX2_tell_41
    · have hf := zif_n c1 hf
      refine lv_iload hx hb dX2_tell_13 (lv_at hl 0 rfl) ?_
      refine lv_aload_n hx hb dX2_tell_15 rfl (lv_at hl 1 rfl) ?_
      refine z_get (c0 := 2) (i0 := 0) (k0 := 0) (T := TX2) (v := .ref (ad 2 0 1)) S hG (hZ.2.1 (2, 0) (by decide)) rfl inlX2 (by decide) rfl zw_206 rfl dX2_tell_16 ?_
      refine z_alen (c0 := 2) (i0 := 0) (k0 := 0) (n := 4) (v := 280) S hG (hZ.2.1 (2, 0) (by decide)) (by decide) rfl (by decide) (by rfl) dX2_tell_19 ?_
      refine lv_icmp_ge (tgt := 41) hx hb dX2_tell_20 (by decide) (fun c2 => ?_) (fun c2 => ?_)
      · have hf := zif_p c2 hf
        have hq := (Option.some.inj hf)
        subst hq
        exact z_vret S hG hS hlocks trivial hr dX2_tell_41
      · have hf := zif_n c2 hf
        refine lv_aload_n hx hb dX2_tell_23 rfl (lv_at hl 1 rfl) ?_
        refine z_get (c0 := 2) (i0 := 0) (k0 := 0) (T := TX2) (v := .ref (ad 2 0 1)) S hG (hZ.2.1 (2, 0) (by decide)) rfl inlX2 (by decide) rfl zw_206 rfl dX2_tell_24 ?_
        refine lv_iload hx hb dX2_tell_27 (lv_at hl 0 rfl) ?_
        refine lv_aload_n hx hb dX2_tell_29 rfl (lv_at hl 1 rfl) ?_
        refine z_get (c0 := 2) (i0 := 0) (k0 := 0) (T := TX2) (v := .ref (ad 2 0 1)) S hG (hZ.2.1 (2, 0) (by decide)) rfl inlX2 (by decide) rfl zw_206 rfl dX2_tell_30 ?_
        refine lv_iload hx hb dX2_tell_33 (lv_at hl 0 rfl) ?_
        obtain ⟨i3, hi3, hf⟩ := zbi hf
        refine z_iald (c0 := 2) (i0 := 0) (k0 := 0) S hG (hZ.2.1 (2, 0) (by decide)) (by decide) rfl hi3 dX2_tell_35 ?_
        refine lv_iload_n hx hb dX2_tell_36 rfl (lv_at hl 4 rfl) ?_
        refine z_mmin (v := (zmin (zA σ 2 0 0 i3) x3)) S hl zw_1215 zw_679 zw_91 zw_680 (Nat.le_of_ble_eq_true rfl) (Nat.le_of_ble_eq_true rfl) (Nat.le_of_ble_eq_true rfl) (Nat.zero_le _) (Nat.zero_le _) rfl dX2_tell_37 ?_
        obtain ⟨i4, hi4, hf⟩ := zbi hf
        refine z_iast (c0 := 2) (i0 := 0) (k0 := 0) S hG hS (hZ.2.1 (2, 0) (by decide)) (by decide) rfl hi4 dX2_tell_40 (fun H locs hG hS => ?_)
        obtain ⟨σ5, eσ5, hf⟩ := zlt_s hf
        rw [← eσ5] at hG
        have hq := (Option.some.inj hf)
        subst hq
        exact z_vret S hG hS hlocks trivial hr dX2_tell_41
  exact hK0 _ _ ls hG hS hl hf
set_option maxRecDepth 100000 in
set_option maxHeartbeats 4000000 in
theorem c_X2_knowsBy (l : Launch) (D : va_G) (aC : Nat → ClassId) (zs : Nat × Nat) (A : Nat → Prop) (nl : zNL) (ad : Nat → Nat → Nat → Nat) (σ : zM) (x1 : Int32) (x2 : Int32) (x3 : Int32) (r : Int32)  (hf : f_X2_knowsBy σ x1 x2 x3 = some r) : Met l yX2_knowsBy (Cond.code yX2_knowsBy cX2_knowsBy 5 (some .boolean) :: wsL_law) ({ frames := 0, cells := 0, slots := 0, locals := 0 } : Room) (zP D aC zs zfX A nl ad σ [.ref (ad 2 0 0), .int x1, .int x2, .int x3]) (zQ (some (.int r)) (fun t => zG D aC A nl ad σ t t.heap ∧ (r = 0 ∨ r = 1)) A) 0 0 A := by
  refine Met.ofW (cc := cX2_knowsBy) (maxL := 5) (ret := (some .boolean)) (by decide) rfl ?_
  intro p e s m args below meth c s₁ B hml hv
  obtain ⟨rfl, hG, hZ⟩ := hv
  have hx := B.exec
  have hb := B.bytes
  have hr := B.returns
  have hts : ∀ w ∈ wsL_law, w.before ([.ref (ad 2 0 0), .int x1, .int x2, .int x3] : List Value).toArray s = true := fun w h => (atoms_spec B.pre) w (List.mem_cons_of_mem _ h)
  have hown : s.vm.findClass RX2 = some m.cls := findClass_of_methodNamed B.named
  have hlocks := B.notSynchronized
  have S : zS p m c cX2_knowsBy 5 s ([.ref (ad 2 0 0), .int x1, .int x2, .int x3] : List Value).toArray RX2 := ⟨hx, hb, hml, hown, hts⟩
  have hS : va_S A s.heap s.heap [] := va_S.rf
  have hl := lv_entry ([.ref (ad 2 0 0), .int x1, .int x2, .int x3]) (n := 5) (Nat.le_of_ble_eq_true rfl)
  rw [lg_entry_eq]
  generalize (lg_sl ([.ref (ad 2 0 0), .int x1, .int x2, .int x3]) ++ List.replicate (5 - (lg_sl ([.ref (ad 2 0 0), .int x1, .int x2, .int x3])).length) Slot.unset).toArray = ls at hl ⊢
  have hl : lv_has ls 5 [(0, .ref (ad 2 0 0)), (1, .int x1), (2, .int x2), (3, .int x3)] := hl
  generalize hargs : ([.ref (ad 2 0 0), .int x1, .int x2, .int x3] : List Value).toArray = args at S hts ⊢
  clear hargs
  have hK0 : ∀ (H : Heap) (locs : List Loc) (ls : Array Slot), zG D aC A nl ad σ s H → va_S A s.heap H locs → lv_has ls 5 [(0, .ref (ad 2 0 0)), (1, .int x1), (2, .int x2), (3, .int x3)] → f_X2_knowsBy σ x1 x2 x3 = some r → zWk p l e ({ frames := 0, cells := 0, slots := 0, locals := 0 } : Room) s m args below meth c A (some (.int r)) (fun t => zG D aC A nl ad σ t t.heap ∧ (r = 0 ∨ r = 1)) H locs (F0 m 0 ls []) := by
    intro H locs ls hG hS hl hf
    unfold f_X2_knowsBy at hf
    refine lv_iload_n hx hb dX2_knowsBy_0 rfl (lv_at hl 1 rfl) ?_
    refine lv_bipush (v := 40) hx hb dX2_knowsBy_1 (by decide) ?_
    refine lv_imul hx hb dX2_knowsBy_3 ?_
    refine lv_iload_n hx hb dX2_knowsBy_4 rfl (lv_at hl 2 rfl) ?_
    refine lv_iadd hx hb dX2_knowsBy_5 ?_
    refine lv_istore (lv' := [(4, .int ((x1 * 40) + x2)), (0, .ref (ad 2 0 0)), (1, .int x1), (2, .int x2), (3, .int x3)]) hx hb dX2_knowsBy_6 hl (by decide) rfl (fun ls hl => ?_)
    refine lv_iload hx hb dX2_knowsBy_8 (lv_at hl 0 rfl) ?_
    refine lv_if_lt (tgt := 38) hx hb dX2_knowsBy_10 (by decide) (fun c1 => ?_) (fun c1 => ?_)
    · have hf := zif_p c1 hf
      refine lv_iconst (v := 0) hx hb dX2_knowsBy_38 (by decide) ?_
      have hq := (Option.some.inj hf)
      subst hq
      exact z_zret S hG hS hlocks (Or.inl rfl) hr dX2_knowsBy_39
    · have hf := zif_n c1 hf
      refine lv_iload hx hb dX2_knowsBy_13 (lv_at hl 0 rfl) ?_
      refine lv_aload_n hx hb dX2_knowsBy_15 rfl (lv_at hl 1 rfl) ?_
      refine z_get (c0 := 2) (i0 := 0) (k0 := 0) (T := TX2) (v := .ref (ad 2 0 1)) S hG (hZ.2.1 (2, 0) (by decide)) rfl inlX2 (by decide) rfl zw_206 rfl dX2_knowsBy_16 ?_
      refine z_alen (c0 := 2) (i0 := 0) (k0 := 0) (n := 4) (v := 280) S hG (hZ.2.1 (2, 0) (by decide)) (by decide) rfl (by decide) (by rfl) dX2_knowsBy_19 ?_
      refine lv_icmp_ge (tgt := 38) hx hb dX2_knowsBy_20 (by decide) (fun c2 => ?_) (fun c2 => ?_)
      · have hf := zif_p c2 hf
        refine lv_iconst (v := 0) hx hb dX2_knowsBy_38 (by decide) ?_
        have hq := (Option.some.inj hf)
        subst hq
        exact z_zret S hG hS hlocks (Or.inl rfl) hr dX2_knowsBy_39
      · have hf := zif_n c2 hf
        refine lv_aload_n hx hb dX2_knowsBy_23 rfl (lv_at hl 1 rfl) ?_
        refine z_get (c0 := 2) (i0 := 0) (k0 := 0) (T := TX2) (v := .ref (ad 2 0 1)) S hG (hZ.2.1 (2, 0) (by decide)) rfl inlX2 (by decide) rfl zw_206 rfl dX2_knowsBy_24 ?_
        refine lv_iload hx hb dX2_knowsBy_27 (lv_at hl 0 rfl) ?_
        obtain ⟨i3, hi3, hf⟩ := zbi hf
        refine z_iald (c0 := 2) (i0 := 0) (k0 := 0) S hG (hZ.2.1 (2, 0) (by decide)) (by decide) rfl hi3 dX2_knowsBy_29 ?_
        refine lv_iload_n hx hb dX2_knowsBy_30 rfl (lv_at hl 4 rfl) ?_
        refine lv_icmp_gt (tgt := 38) hx hb dX2_knowsBy_31 (by decide) (fun c4 => ?_) (fun c4 => ?_)
        · have hf := zif_p c4 hf
          refine lv_iconst (v := 0) hx hb dX2_knowsBy_38 (by decide) ?_
          have hq := (Option.some.inj hf)
          subst hq
          exact z_zret S hG hS hlocks (Or.inl rfl) hr dX2_knowsBy_39
        · have hf := zif_n c4 hf
          refine lv_iconst (v := 1) hx hb dX2_knowsBy_34 (by decide) ?_
          refine lv_goto (tgt := 39) hx hb dX2_knowsBy_35 (by decide) ?_
          have hq := (Option.some.inj hf)
          subst hq
          exact z_zret S hG hS hlocks (Or.inr rfl) hr dX2_knowsBy_39
  exact hK0 _ _ ls hG hS hl hf
set_option maxRecDepth 100000 in
set_option maxHeartbeats 4000000 in
theorem c_X3_isFull (l : Launch) (D : va_G) (aC : Nat → ClassId) (zs : Nat × Nat) (A : Nat → Prop) (nl : zNL) (ad : Nat → Nat → Nat → Nat) (σ : zM)  (r : Int32)  (hf : f_X3_isFull σ = r) : Met l yX3_isFull (Cond.code yX3_isFull cX3_isFull 1 (some .boolean) :: wsL_law) ({ frames := 0, cells := 0, slots := 0, locals := 0 } : Room) (zP D aC zs zfX A nl ad σ [.ref (ad 3 0 0)]) (zQ (some (.int r)) (fun t => zG D aC A nl ad σ t t.heap ∧ (r = 0 ∨ r = 1)) A) 0 0 A := by
  refine Met.ofW (cc := cX3_isFull) (maxL := 1) (ret := (some .boolean)) (by decide) rfl ?_
  intro p e s m args below meth c s₁ B hml hv
  obtain ⟨rfl, hG, hZ⟩ := hv
  have hx := B.exec
  have hb := B.bytes
  have hr := B.returns
  have hts : ∀ w ∈ wsL_law, w.before ([.ref (ad 3 0 0)] : List Value).toArray s = true := fun w h => (atoms_spec B.pre) w (List.mem_cons_of_mem _ h)
  have hown : s.vm.findClass RX3 = some m.cls := findClass_of_methodNamed B.named
  have hlocks := B.notSynchronized
  have S : zS p m c cX3_isFull 1 s ([.ref (ad 3 0 0)] : List Value).toArray RX3 := ⟨hx, hb, hml, hown, hts⟩
  have hS : va_S A s.heap s.heap [] := va_S.rf
  have hl := lv_entry ([.ref (ad 3 0 0)]) (n := 1) (Nat.le_of_ble_eq_true rfl)
  rw [lg_entry_eq]
  generalize (lg_sl ([.ref (ad 3 0 0)]) ++ List.replicate (1 - (lg_sl ([.ref (ad 3 0 0)])).length) Slot.unset).toArray = ls at hl ⊢
  have hl : lv_has ls 1 [(0, .ref (ad 3 0 0))] := hl
  generalize hargs : ([.ref (ad 3 0 0)] : List Value).toArray = args at S hts ⊢
  clear hargs
  have hK0 : ∀ (H : Heap) (locs : List Loc) (ls : Array Slot), zG D aC A nl ad σ s H → va_S A s.heap H locs → lv_has ls 1 [(0, .ref (ad 3 0 0))] → f_X3_isFull σ = r → zWk p l e ({ frames := 0, cells := 0, slots := 0, locals := 0 } : Room) s m args below meth c A (some (.int r)) (fun t => zG D aC A nl ad σ t t.heap ∧ (r = 0 ∨ r = 1)) H locs (F0 m 0 ls []) := by
    intro H locs ls hG hS hl hf
    unfold f_X3_isFull at hf
    refine lv_aload_n hx hb dX3_isFull_0 rfl (lv_at hl 0 rfl) ?_
    refine z_get (c0 := 3) (i0 := 0) (k0 := 4) (T := TX3) (v := .int (zI σ 3 0 4)) S hG (hZ.2.1 (3, 0) (by decide)) rfl inlX3 (by decide) rfl zw_200 rfl dX3_isFull_1 ?_
    refine lv_bipush (v := 50) hx hb dX3_isFull_4 (by decide) ?_
    refine lv_icmp_lt (tgt := 13) hx hb dX3_isFull_6 (by decide) (fun c1 => ?_) (fun c1 => ?_)
    · have hf := zif_p c1 hf
      refine lv_iconst (v := 0) hx hb dX3_isFull_13 (by decide) ?_
      have hq := hf
      subst hq
      exact z_zret S hG hS hlocks (Or.inl rfl) hr dX3_isFull_14
    · have hf := zif_n c1 hf
      refine lv_iconst (v := 1) hx hb dX3_isFull_9 (by decide) ?_
      refine lv_goto (tgt := 14) hx hb dX3_isFull_10 (by decide) ?_
      have hq := hf
      subst hq
      exact z_zret S hG hS hlocks (Or.inr rfl) hr dX3_isFull_14
  exact hK0 _ _ ls hG hS hl hf
set_option maxRecDepth 100000 in
set_option maxHeartbeats 4000000 in
theorem c_X3_nameAuthor (l : Launch) (D : va_G) (aC : Nat → ClassId) (zs : Nat × Nat) (A : Nat → Prop) (nl : zNL) (ad : Nat → Nat → Nat → Nat) (σ : zM) (x1 : Int32) (x2 : Int64)  (σ' : zM)  (hf : f_X3_nameAuthor σ x1 x2 = some σ') : Met l yX3_nameAuthor (Cond.code yX3_nameAuthor cX3_nameAuthor 4 none :: wsL_law) ({ frames := 0, cells := 0, slots := 0, locals := 0 } : Room) (zP D aC zs zfX A nl ad σ [.ref (ad 3 0 0), .int x1, .long x2]) (zQ none (fun t => zG D aC A nl ad σ' t t.heap ∧ True) A) 0 0 A := by
  refine Met.ofW (cc := cX3_nameAuthor) (maxL := 4) (ret := none) (by decide) rfl ?_
  intro p e s m args below meth c s₁ B hml hv
  obtain ⟨rfl, hG, hZ⟩ := hv
  have hx := B.exec
  have hb := B.bytes
  have hr := B.returns
  have hts : ∀ w ∈ wsL_law, w.before ([.ref (ad 3 0 0), .int x1, .long x2] : List Value).toArray s = true := fun w h => (atoms_spec B.pre) w (List.mem_cons_of_mem _ h)
  have hown : s.vm.findClass RX3 = some m.cls := findClass_of_methodNamed B.named
  have hlocks := B.notSynchronized
  have S : zS p m c cX3_nameAuthor 4 s ([.ref (ad 3 0 0), .int x1, .long x2] : List Value).toArray RX3 := ⟨hx, hb, hml, hown, hts⟩
  have hS : va_S A s.heap s.heap [] := va_S.rf
  have hl := lv_entry ([.ref (ad 3 0 0), .int x1, .long x2]) (n := 4) (Nat.le_of_ble_eq_true rfl)
  rw [lg_entry_eq]
  generalize (lg_sl ([.ref (ad 3 0 0), .int x1, .long x2]) ++ List.replicate (4 - (lg_sl ([.ref (ad 3 0 0), .int x1, .long x2])).length) Slot.unset).toArray = ls at hl ⊢
  have hl : lv_has ls 4 [(0, .ref (ad 3 0 0)), (1, .int x1), (2, .long x2)] := hl
  generalize hargs : ([.ref (ad 3 0 0), .int x1, .long x2] : List Value).toArray = args at S hts ⊢
  clear hargs
  have hK0 : ∀ (H : Heap) (locs : List Loc) (ls : Array Slot), zG D aC A nl ad σ s H → va_S A s.heap H locs → lv_has ls 4 [(0, .ref (ad 3 0 0)), (1, .int x1), (2, .long x2)] → f_X3_nameAuthor σ x1 x2 = some σ' → zWk p l e ({ frames := 0, cells := 0, slots := 0, locals := 0 } : Room) s m args below meth c A none (fun t => zG D aC A nl ad σ' t t.heap ∧ True) H locs (F0 m 0 ls []) := by
    intro H locs ls hG hS hl hf
    unfold f_X3_nameAuthor at hf
    refine lv_iload_n hx hb dX3_nameAuthor_0 rfl (lv_at hl 1 rfl) ?_
    refine lv_if_lt (tgt := 20) hx hb dX3_nameAuthor_1 (by decide) (fun c1 => ?_) (fun c1 => ?_)
    · have hf := zif_p c1 hf
      have hq := (Option.some.inj hf)
      subst hq
      exact z_vret S hG hS hlocks trivial hr dX3_nameAuthor_20
    · have hf := zif_n c1 hf
      refine lv_iload_n hx hb dX3_nameAuthor_4 rfl (lv_at hl 1 rfl) ?_
      refine lv_aload_n hx hb dX3_nameAuthor_5 rfl (lv_at hl 0 rfl) ?_
      refine z_get (c0 := 3) (i0 := 0) (k0 := 0) (T := TX3) (v := .ref (ad 3 0 1)) S hG (hZ.2.1 (3, 0) (by decide)) rfl inlX3 (by decide) rfl zw_196 rfl dX3_nameAuthor_6 ?_
      refine z_alen (c0 := 3) (i0 := 0) (k0 := 0) (n := 7) (v := 40) S hG (hZ.2.1 (3, 0) (by decide)) (by decide) rfl (by decide) (by rfl) dX3_nameAuthor_9 ?_
      refine lv_icmp_ge (tgt := 20) hx hb dX3_nameAuthor_10 (by decide) (fun c2 => ?_) (fun c2 => ?_)
      · have hf := zif_p c2 hf
        have hq := (Option.some.inj hf)
        subst hq
        exact z_vret S hG hS hlocks trivial hr dX3_nameAuthor_20
      · have hf := zif_n c2 hf
        refine lv_aload_n hx hb dX3_nameAuthor_13 rfl (lv_at hl 0 rfl) ?_
        refine z_get (c0 := 3) (i0 := 0) (k0 := 0) (T := TX3) (v := .ref (ad 3 0 1)) S hG (hZ.2.1 (3, 0) (by decide)) rfl inlX3 (by decide) rfl zw_196 rfl dX3_nameAuthor_14 ?_
        refine lv_iload_n hx hb dX3_nameAuthor_17 rfl (lv_at hl 1 rfl) ?_
        refine lv_lload_n hx hb dX3_nameAuthor_18 rfl (lv_at hl 2 rfl) ?_
        obtain ⟨i3, hi3, hf⟩ := zbi hf
        refine z_last (c0 := 3) (i0 := 0) (k0 := 0) S hG hS (hZ.2.1 (3, 0) (by decide)) (by decide) rfl hi3 dX3_nameAuthor_19 (fun H locs hG hS => ?_)
        obtain ⟨σ4, eσ4, hf⟩ := zlt_s hf
        rw [← eσ4] at hG
        have hq := (Option.some.inj hf)
        subst hq
        exact z_vret S hG hS hlocks trivial hr dX3_nameAuthor_20
  exact hK0 _ _ ls hG hS hl hf
set_option maxRecDepth 100000 in
set_option maxHeartbeats 4000000 in
theorem c_X9_at (l : Launch) (D : va_G) (aC : Nat → ClassId) (zs : Nat × Nat) (A : Nat → Prop) (nl : zNL) (ad : Nat → Nat → Nat → Nat) (σ : zM) (x1 : Int32) (r : Int32)  (hf : f_X9_at σ x1 = some r) : Met l yX9_at (Cond.code yX9_at cX9_at 2 (some .int) :: wsL_law) ({ frames := 0, cells := 0, slots := 0, locals := 0 } : Room) (zP D aC zs zfX A nl ad σ [.ref (ad 9 0 0), .int x1]) (zQ (some (.int r)) (fun t => zG D aC A nl ad σ t t.heap ∧ True) A) 0 0 A := by
  refine Met.ofW (cc := cX9_at) (maxL := 2) (ret := (some .int)) (by decide) rfl ?_
  intro p e s m args below meth c s₁ B hml hv
  obtain ⟨rfl, hG, hZ⟩ := hv
  have hx := B.exec
  have hb := B.bytes
  have hr := B.returns
  have hts : ∀ w ∈ wsL_law, w.before ([.ref (ad 9 0 0), .int x1] : List Value).toArray s = true := fun w h => (atoms_spec B.pre) w (List.mem_cons_of_mem _ h)
  have hown : s.vm.findClass RX9 = some m.cls := findClass_of_methodNamed B.named
  have hlocks := B.notSynchronized
  have S : zS p m c cX9_at 2 s ([.ref (ad 9 0 0), .int x1] : List Value).toArray RX9 := ⟨hx, hb, hml, hown, hts⟩
  have hS : va_S A s.heap s.heap [] := va_S.rf
  have hl := lv_entry ([.ref (ad 9 0 0), .int x1]) (n := 2) (Nat.le_of_ble_eq_true rfl)
  rw [lg_entry_eq]
  generalize (lg_sl ([.ref (ad 9 0 0), .int x1]) ++ List.replicate (2 - (lg_sl ([.ref (ad 9 0 0), .int x1])).length) Slot.unset).toArray = ls at hl ⊢
  have hl : lv_has ls 2 [(0, .ref (ad 9 0 0)), (1, .int x1)] := hl
  generalize hargs : ([.ref (ad 9 0 0), .int x1] : List Value).toArray = args at S hts ⊢
  clear hargs
  have hK0 : ∀ (H : Heap) (locs : List Loc) (ls : Array Slot), zG D aC A nl ad σ s H → va_S A s.heap H locs → lv_has ls 2 [(0, .ref (ad 9 0 0)), (1, .int x1)] → f_X9_at σ x1 = some r → zWk p l e ({ frames := 0, cells := 0, slots := 0, locals := 0 } : Room) s m args below meth c A (some (.int r)) (fun t => zG D aC A nl ad σ t t.heap ∧ True) H locs (F0 m 0 ls []) := by
    intro H locs ls hG hS hl hf
    unfold f_X9_at at hf
    refine lv_iload_n hx hb dX9_at_0 rfl (lv_at hl 1 rfl) ?_
    refine lv_if_lt (tgt := 30) hx hb dX9_at_1 (by decide) (fun c1 => ?_) (fun c1 => ?_)
    · have hf := zif_p c1 hf
      refine lv_iconst (v := (-1)) hx hb dX9_at_30 (by decide) ?_
      have hq := (Option.some.inj hf)
      subst hq
      exact z_iret S hG hS hlocks trivial hr dX9_at_31
    · have hf := zif_n c1 hf
      refine lv_iload_n hx hb dX9_at_4 rfl (lv_at hl 1 rfl) ?_
      refine lv_aload_n hx hb dX9_at_5 rfl (lv_at hl 0 rfl) ?_
      refine z_get (c0 := 9) (i0 := 0) (k0 := 1) (T := TX9) (v := .int (zI σ 9 0 1)) S hG (hZ.2.1 (9, 0) (by decide)) rfl inlX9 (by decide) rfl zw_62 rfl dX9_at_6 ?_
      refine lv_icmp_ge (tgt := 30) hx hb dX9_at_9 (by decide) (fun c2 => ?_) (fun c2 => ?_)
      · have hf := zif_p c2 hf
        refine lv_iconst (v := (-1)) hx hb dX9_at_30 (by decide) ?_
        have hq := (Option.some.inj hf)
        subst hq
        exact z_iret S hG hS hlocks trivial hr dX9_at_31
      · have hf := zif_n c2 hf
        refine lv_iload_n hx hb dX9_at_12 rfl (lv_at hl 1 rfl) ?_
        refine lv_aload_n hx hb dX9_at_13 rfl (lv_at hl 0 rfl) ?_
        refine z_get (c0 := 9) (i0 := 0) (k0 := 0) (T := TX9) (v := .ref (ad 9 0 1)) S hG (hZ.2.1 (9, 0) (by decide)) rfl inlX9 (by decide) rfl zw_61 rfl dX9_at_14 ?_
        refine z_alen (c0 := 9) (i0 := 0) (k0 := 0) (n := 4) (v := 900) S hG (hZ.2.1 (9, 0) (by decide)) (by decide) rfl (by decide) (by rfl) dX9_at_17 ?_
        refine lv_icmp_ge (tgt := 30) hx hb dX9_at_18 (by decide) (fun c3 => ?_) (fun c3 => ?_)
        · have hf := zif_p c3 hf
          refine lv_iconst (v := (-1)) hx hb dX9_at_30 (by decide) ?_
          have hq := (Option.some.inj hf)
          subst hq
          exact z_iret S hG hS hlocks trivial hr dX9_at_31
        · have hf := zif_n c3 hf
          refine lv_aload_n hx hb dX9_at_21 rfl (lv_at hl 0 rfl) ?_
          refine z_get (c0 := 9) (i0 := 0) (k0 := 0) (T := TX9) (v := .ref (ad 9 0 1)) S hG (hZ.2.1 (9, 0) (by decide)) rfl inlX9 (by decide) rfl zw_61 rfl dX9_at_22 ?_
          refine lv_iload_n hx hb dX9_at_25 rfl (lv_at hl 1 rfl) ?_
          obtain ⟨i4, hi4, hf⟩ := zbi hf
          refine z_iald (c0 := 9) (i0 := 0) (k0 := 0) S hG (hZ.2.1 (9, 0) (by decide)) (by decide) rfl hi4 dX9_at_26 ?_
          refine lv_goto (tgt := 31) hx hb dX9_at_27 (by decide) ?_
          have hq := (Option.some.inj hf)
          subst hq
          exact z_iret S hG hS hlocks trivial hr dX9_at_31
  exact hK0 _ _ ls hG hS hl hf
set_option maxRecDepth 100000 in
set_option maxHeartbeats 4000000 in
theorem c_X10_isLetter (l : Launch) (D : va_G) (aC : Nat → ClassId) (zs : Nat × Nat) (A : Nat → Prop) (nl : zNL) (ad : Nat → Nat → Nat → Nat) (σ : zM) (x0 : Int32) (r : Int32)  (hf : f_X10_isLetter x0 = r) : Met l yX10_isLetter (Cond.code yX10_isLetter cX10_isLetter 1 (some .boolean) :: wsL_law) ({ frames := 0, cells := 0, slots := 0, locals := 0 } : Room) (zP D aC zs zfX A nl ad σ [.int x0]) (zQ (some (.int r)) (fun t => zG D aC A nl ad σ t t.heap ∧ (r = 0 ∨ r = 1)) A) 0 0 A := by
  refine Met.ofW (cc := cX10_isLetter) (maxL := 1) (ret := (some .boolean)) (by decide) rfl ?_
  intro p e s m args below meth c s₁ B hml hv
  obtain ⟨rfl, hG, hZ⟩ := hv
  have hx := B.exec
  have hb := B.bytes
  have hr := B.returns
  have hts : ∀ w ∈ wsL_law, w.before ([.int x0] : List Value).toArray s = true := fun w h => (atoms_spec B.pre) w (List.mem_cons_of_mem _ h)
  have hown : s.vm.findClass RX10 = some m.cls := findClass_of_methodNamed B.named
  have hlocks := B.notSynchronized
  have S : zS p m c cX10_isLetter 1 s ([.int x0] : List Value).toArray RX10 := ⟨hx, hb, hml, hown, hts⟩
  have hS : va_S A s.heap s.heap [] := va_S.rf
  have hl := lv_entry ([.int x0]) (n := 1) (Nat.le_of_ble_eq_true rfl)
  rw [lg_entry_eq]
  generalize (lg_sl ([.int x0]) ++ List.replicate (1 - (lg_sl ([.int x0])).length) Slot.unset).toArray = ls at hl ⊢
  have hl : lv_has ls 1 [(0, .int x0)] := hl
  generalize hargs : ([.int x0] : List Value).toArray = args at S hts ⊢
  clear hargs
  have hK0 : ∀ (H : Heap) (locs : List Loc) (ls : Array Slot), zG D aC A nl ad σ s H → va_S A s.heap H locs → lv_has ls 1 [(0, .int x0)] → f_X10_isLetter x0 = r → zWk p l e ({ frames := 0, cells := 0, slots := 0, locals := 0 } : Room) s m args below meth c A (some (.int r)) (fun t => zG D aC A nl ad σ t t.heap ∧ (r = 0 ∨ r = 1)) H locs (F0 m 0 ls []) := by
    intro H locs ls hG hS hl hf
    unfold f_X10_isLetter at hf
    refine lv_iload_n hx hb dX10_isLetter_0 rfl (lv_at hl 0 rfl) ?_
    refine lv_bipush (v := 97) hx hb dX10_isLetter_1 (by decide) ?_
    refine lv_icmp_lt (tgt := 16) hx hb dX10_isLetter_3 (by decide) (fun c1 => ?_) (fun c1 => ?_)
    · have hf := zif_p c1 hf
      refine lv_iconst (v := 0) hx hb dX10_isLetter_16 (by decide) ?_
      have hq := hf
      subst hq
      exact z_zret S hG hS hlocks (Or.inl rfl) hr dX10_isLetter_17
    · have hf := zif_n c1 hf
      refine lv_iload_n hx hb dX10_isLetter_6 rfl (lv_at hl 0 rfl) ?_
      refine lv_bipush (v := 122) hx hb dX10_isLetter_7 (by decide) ?_
      refine lv_icmp_gt (tgt := 16) hx hb dX10_isLetter_9 (by decide) (fun c2 => ?_) (fun c2 => ?_)
      · have hf := zif_p c2 hf
        refine lv_iconst (v := 0) hx hb dX10_isLetter_16 (by decide) ?_
        have hq := hf
        subst hq
        exact z_zret S hG hS hlocks (Or.inl rfl) hr dX10_isLetter_17
      · have hf := zif_n c2 hf
        refine lv_iconst (v := 1) hx hb dX10_isLetter_12 (by decide) ?_
        refine lv_goto (tgt := 17) hx hb dX10_isLetter_13 (by decide) ?_
        have hq := hf
        subst hq
        exact z_zret S hG hS hlocks (Or.inr rfl) hr dX10_isLetter_17
  exact hK0 _ _ ls hG hS hl hf
set_option maxRecDepth 100000 in
set_option maxHeartbeats 4000000 in
theorem c_X10_join (l : Launch) (D : va_G) (aC : Nat → ClassId) (zs : Nat × Nat) (fx : List (Nat × Nat)) (A : Nat → Prop) (nl : zNL) (ad : Nat → Nat → Nat → Nat) (σ : zM) (x0 : Int64) (x2 : Int32) (r : Int64)  (hf : f_X10_join x0 x2 = r) : Met l yX10_join (Cond.code yX10_join cX10_join 3 (some .long) :: wsL_law) ({ frames := 0, cells := 0, slots := 0, locals := 0 } : Room) (zP D aC zs fx A nl ad σ [.long x0, .int x2]) (zQ (some (.long r)) (fun t => zG D aC A nl ad σ t t.heap ∧ True) A) 0 0 A := by
  refine Met.ofW (cc := cX10_join) (maxL := 3) (ret := (some .long)) (by decide) rfl ?_
  intro p e s m args below meth c s₁ B hml hv
  obtain ⟨rfl, hG, hZ⟩ := hv
  have hx := B.exec
  have hb := B.bytes
  have hr := B.returns
  have hts : ∀ w ∈ wsL_law, w.before ([.long x0, .int x2] : List Value).toArray s = true := fun w h => (atoms_spec B.pre) w (List.mem_cons_of_mem _ h)
  have hown : s.vm.findClass RX10 = some m.cls := findClass_of_methodNamed B.named
  have hlocks := B.notSynchronized
  have S : zS p m c cX10_join 3 s ([.long x0, .int x2] : List Value).toArray RX10 := ⟨hx, hb, hml, hown, hts⟩
  have hS : va_S A s.heap s.heap [] := va_S.rf
  have hl := lv_entry ([.long x0, .int x2]) (n := 3) (Nat.le_of_ble_eq_true rfl)
  rw [lg_entry_eq]
  generalize (lg_sl ([.long x0, .int x2]) ++ List.replicate (3 - (lg_sl ([.long x0, .int x2])).length) Slot.unset).toArray = ls at hl ⊢
  have hl : lv_has ls 3 [(0, .long x0), (2, .int x2)] := hl
  generalize hargs : ([.long x0, .int x2] : List Value).toArray = args at S hts ⊢
  clear hargs
  have hK0 : ∀ (H : Heap) (locs : List Loc) (ls : Array Slot), zG D aC A nl ad σ s H → va_S A s.heap H locs → lv_has ls 3 [(0, .long x0), (2, .int x2)] → f_X10_join x0 x2 = r → zWk p l e ({ frames := 0, cells := 0, slots := 0, locals := 0 } : Room) s m args below meth c A (some (.long r)) (fun t => zG D aC A nl ad σ t t.heap ∧ True) H locs (F0 m 0 ls []) := by
    intro H locs ls hG hS hl hf
    unfold f_X10_join at hf
    refine lv_lload_n hx hb dX10_join_0 rfl (lv_at hl 0 rfl) ?_
    refine lv_ldc2 (v := 32) hx hb hown (hts _ zw_183) dX10_join_1 ?_
    refine lv_lmul hx hb dX10_join_4 ?_
    refine lv_iload_n hx hb dX10_join_5 rfl (lv_at hl 1 rfl) ?_
    refine lv_bipush (v := 97) hx hb dX10_join_6 (by decide) ?_
    refine lv_isub hx hb dX10_join_8 ?_
    refine lv_iconst (v := 1) hx hb dX10_join_9 (by decide) ?_
    refine lv_iadd hx hb dX10_join_10 ?_
    refine lv_i2l (v := ((x2 - 97) + 1).toInt64) hx hb dX10_join_11 rfl ?_
    refine lv_ladd hx hb dX10_join_12 ?_
    have hq := hf
    subst hq
    exact z_lret S hG hS hlocks trivial hr dX10_join_13
  exact hK0 _ _ ls hG hS hl hf
set_option maxRecDepth 100000 in
set_option maxHeartbeats 4000000 in
theorem c_X3_isName (l : Launch) (D : va_G) (aC : Nat → ClassId) (zs : Nat × Nat) (A : Nat → Prop) (nl : zNL) (ad : Nat → Nat → Nat → Nat) (σ : zM) (x1 : Int64) (r : Int32)  (hf : f_X3_isName σ x1 = some r) : Met l yX3_isName (Cond.code yX3_isName cX3_isName 4 (some .boolean) :: wsL_law) ({ frames := 0, cells := 0, slots := 0, locals := 0 } : Room) (zP D aC zs zfX A nl ad σ [.ref (ad 3 0 0), .long x1]) (zQ (some (.int r)) (fun t => zG D aC A nl ad σ t t.heap ∧ (r = 0 ∨ r = 1)) A) 0 0 A := by
  refine Met.ofW (cc := cX3_isName) (maxL := 4) (ret := (some .boolean)) (by decide) rfl ?_
  intro p e s m args below meth c s₁ B hml hv
  obtain ⟨rfl, hG, hZ⟩ := hv
  have hx := B.exec
  have hb := B.bytes
  have hr := B.returns
  have hts : ∀ w ∈ wsL_law, w.before ([.ref (ad 3 0 0), .long x1] : List Value).toArray s = true := fun w h => (atoms_spec B.pre) w (List.mem_cons_of_mem _ h)
  have hown : s.vm.findClass RX3 = some m.cls := findClass_of_methodNamed B.named
  have hlocks := B.notSynchronized
  have S : zS p m c cX3_isName 4 s ([.ref (ad 3 0 0), .long x1] : List Value).toArray RX3 := ⟨hx, hb, hml, hown, hts⟩
  have hS : va_S A s.heap s.heap [] := va_S.rf
  have hl := lv_entry ([.ref (ad 3 0 0), .long x1]) (n := 4) (Nat.le_of_ble_eq_true rfl)
  rw [lg_entry_eq]
  generalize (lg_sl ([.ref (ad 3 0 0), .long x1]) ++ List.replicate (4 - (lg_sl ([.ref (ad 3 0 0), .long x1])).length) Slot.unset).toArray = ls at hl ⊢
  have hl : lv_has ls 4 [(0, .ref (ad 3 0 0)), (1, .long x1)] := hl
  generalize hargs : ([.ref (ad 3 0 0), .long x1] : List Value).toArray = args at S hts ⊢
  clear hargs
  have hK0 : ∀ (H : Heap) (locs : List Loc) (ls : Array Slot), zG D aC A nl ad σ s H → va_S A s.heap H locs → lv_has ls 4 [(0, .ref (ad 3 0 0)), (1, .long x1)] → f_X3_isName σ x1 = some r → zWk p l e ({ frames := 0, cells := 0, slots := 0, locals := 0 } : Room) s m args below meth c A (some (.int r)) (fun t => zG D aC A nl ad σ t t.heap ∧ (r = 0 ∨ r = 1)) H locs (F0 m 0 ls []) := by
    intro H locs ls hG hS hl hf
    unfold f_X3_isName at hf
    refine lv_iconst (v := 0) hx hb dX3_isName_0 (by decide) ?_
    refine lv_istore_n (lv' := [(3, .int 0), (0, .ref (ad 3 0 0)), (1, .long x1)]) hx hb dX3_isName_1 rfl hl (by decide) rfl (fun ls hl => ?_)
    obtain ⟨t2, hw2, hfo2⟩ := zbi hf
    have KL2 : ∀ (n : Nat) (y3l2 : Int32) (H : Heap) (locs : List Loc) (ls : Array Slot), zG D aC A nl ad σ s H → va_S A s.heap H locs → lv_has ls 4 [(0, .ref (ad 3 0 0)), (1, .long x1), (3, .int y3l2)] → zwh (fun (q : Int32) => f_X3_isName_L2 σ x1 q) n y3l2 = some t2 → zWk p l e ({ frames := 0, cells := 0, slots := 0, locals := 0 } : Room) s m args below meth c A (some (.int r)) (fun t => zG D aC A nl ad σ t t.heap ∧ (r = 0 ∨ r = 1)) H locs (F0 m 2 ls []) := by
      intro n
      induction n with
      | zero =>
        intro y3l2 H locs ls hG hS hl hw
        exact (zwh_0 hw).elim
      | succ n ih2 =>
        intro y3l2 H locs ls hG hS hl hw
        obtain ⟨rr2, hf, hk2⟩ := zwh_u hw
        have hf : f_X3_isName_L2 σ x1 y3l2 = some rr2 := hf
        unfold f_X3_isName_L2 at hf
        refine lv_iload_n hx hb dX3_isName_2 rfl (lv_at hl 2 rfl) ?_
        refine lv_aload_n hx hb dX3_isName_3 rfl (lv_at hl 0 rfl) ?_
        refine z_get (c0 := 3) (i0 := 0) (k0 := 0) (T := TX3) (v := .ref (ad 3 0 1)) S hG (hZ.2.1 (3, 0) (by decide)) rfl inlX3 (by decide) rfl zw_196 rfl dX3_isName_4 ?_
        refine z_alen (c0 := 3) (i0 := 0) (k0 := 0) (n := 7) (v := 40) S hG (hZ.2.1 (3, 0) (by decide)) (by decide) rfl (by decide) (by rfl) dX3_isName_7 ?_
        refine lv_icmp_ge (tgt := 30) hx hb dX3_isName_8 (by decide) (fun c4 => ?_) (fun c4 => ?_)
        · have hf := zif_p c4 hf
          cases hf
          have hk2 : ((.inr ()) : (Unit ⊕ Unit)) = t2 := hk2
          have hf := hfo2
          rw [← hk2] at hf
          have hf : (some 0) = some r := hf
          refine lv_iconst (v := 0) hx hb dX3_isName_30 (by decide) ?_
          have hq := (Option.some.inj hf)
          subst hq
          exact z_zret S hG hS hlocks (Or.inl rfl) hr dX3_isName_31
        · have hf := zif_n c4 hf
          refine lv_aload_n hx hb dX3_isName_11 rfl (lv_at hl 0 rfl) ?_
          refine z_get (c0 := 3) (i0 := 0) (k0 := 0) (T := TX3) (v := .ref (ad 3 0 1)) S hG (hZ.2.1 (3, 0) (by decide)) rfl inlX3 (by decide) rfl zw_196 rfl dX3_isName_12 ?_
          refine lv_iload_n hx hb dX3_isName_15 rfl (lv_at hl 2 rfl) ?_
          obtain ⟨i5, hi5, hf⟩ := zbi hf
          refine z_lald (c0 := 3) (i0 := 0) (k0 := 0) S hG (hZ.2.1 (3, 0) (by decide)) (by decide) rfl hi5 dX3_isName_16 ?_
          refine lv_lload_n hx hb dX3_isName_17 rfl (lv_at hl 1 rfl) ?_
          refine W.lcmp hx hb dX3_isName_18 ?_
          refine lv_if_ne (tgt := 24) hx hb dX3_isName_19 (by decide) (fun c6 => ?_) (fun c6 => ?_)
          · have hf := zif_n (fun h => c6 ((lg_cmp_eq (zL σ 3 0 0 i5) x1).mpr h)) hf
            refine lv_iinc (v := (y3l2 + 1)) (lv' := [(3, .int (y3l2 + 1)), (0, .ref (ad 3 0 0)), (1, .long x1)]) hx hb dX3_isName_24 hl (k := 2) rfl rfl (by decide) rfl (fun ls hl => ?_)
            refine lv_goto (tgt := 2) hx hb dX3_isName_27 (by decide) ?_
            cases hf
            exact ih2 (y3l2 + 1) H locs ls hG hS (lv_sub hl [1, 2, 0] rfl) hk2
          · have hf := zif_p ((lg_cmp_eq (zL σ 3 0 0 i5) x1).mp  c6) hf
            cases hf
            have hk2 : ((.inl ()) : (Unit ⊕ Unit)) = t2 := hk2
            have hf := hfo2
            rw [← hk2] at hf
            have hf : (some 1) = some r := hf
            refine lv_iconst (v := 1) hx hb dX3_isName_22 (by decide) ?_
            have hq := (Option.some.inj hf)
            subst hq
            exact z_zret S hG hS hlocks (Or.inr rfl) hr dX3_isName_23
    exact KL2 zFu 0 H locs ls hG hS (lv_sub hl [1, 2, 0] rfl) hw2
  exact hK0 _ _ ls hG hS hl hf
set_option maxRecDepth 100000 in
set_option maxHeartbeats 4000000 in
theorem c_X3_keep (l : Launch) (D : va_G) (aC : Nat → ClassId) (zs : Nat × Nat) (A : Nat → Prop) (nl : zNL) (ad : Nat → Nat → Nat → Nat) (σ : zM) (x1 : Int32) (x2 : Int32) (x3 : Int32) (r : Int32) (σ' : zM)  (hf : f_X3_keep σ x1 x2 x3 = some (r, σ')) : Met l yX3_keep (Cond.code yX3_keep cX3_keep 4 (some .int) :: wsL_law) ({ frames := 0, cells := 0, slots := 0, locals := 0 } : Room) (zP D aC zs zfX A nl ad σ [.ref (ad 3 0 0), .int x1, .int x2, .int x3]) (zQ (some (.int r)) (fun t => zG D aC A nl ad σ' t t.heap ∧ True) A) 0 0 A := by
  refine Met.ofW (cc := cX3_keep) (maxL := 4) (ret := (some .int)) (by decide) rfl ?_
  intro p e s m args below meth c s₁ B hml hv
  obtain ⟨rfl, hG, hZ⟩ := hv
  have hx := B.exec
  have hb := B.bytes
  have hr := B.returns
  have hts : ∀ w ∈ wsL_law, w.before ([.ref (ad 3 0 0), .int x1, .int x2, .int x3] : List Value).toArray s = true := fun w h => (atoms_spec B.pre) w (List.mem_cons_of_mem _ h)
  have hown : s.vm.findClass RX3 = some m.cls := findClass_of_methodNamed B.named
  have hlocks := B.notSynchronized
  have S : zS p m c cX3_keep 4 s ([.ref (ad 3 0 0), .int x1, .int x2, .int x3] : List Value).toArray RX3 := ⟨hx, hb, hml, hown, hts⟩
  have hS : va_S A s.heap s.heap [] := va_S.rf
  have hl := lv_entry ([.ref (ad 3 0 0), .int x1, .int x2, .int x3]) (n := 4) (Nat.le_of_ble_eq_true rfl)
  rw [lg_entry_eq]
  generalize (lg_sl ([.ref (ad 3 0 0), .int x1, .int x2, .int x3]) ++ List.replicate (4 - (lg_sl ([.ref (ad 3 0 0), .int x1, .int x2, .int x3])).length) Slot.unset).toArray = ls at hl ⊢
  have hl : lv_has ls 4 [(0, .ref (ad 3 0 0)), (1, .int x1), (2, .int x2), (3, .int x3)] := hl
  generalize hargs : ([.ref (ad 3 0 0), .int x1, .int x2, .int x3] : List Value).toArray = args at S hts ⊢
  clear hargs
  have hK0 : ∀ (H : Heap) (locs : List Loc) (ls : Array Slot), zG D aC A nl ad σ s H → va_S A s.heap H locs → lv_has ls 4 [(0, .ref (ad 3 0 0)), (1, .int x1), (2, .int x2), (3, .int x3)] → f_X3_keep σ x1 x2 x3 = some (r, σ') → zWk p l e ({ frames := 0, cells := 0, slots := 0, locals := 0 } : Room) s m args below meth c A (some (.int r)) (fun t => zG D aC A nl ad σ' t t.heap ∧ True) H locs (F0 m 0 ls []) := by
    intro H locs ls hG hS hl hf
    unfold f_X3_keep at hf
    refine lv_aload_n hx hb dX3_keep_0 rfl (lv_at hl 0 rfl) ?_
    refine z_get (c0 := 3) (i0 := 0) (k0 := 4) (T := TX3) (v := .int (zI σ 3 0 4)) S hG (hZ.2.1 (3, 0) (by decide)) rfl inlX3 (by decide) rfl zw_200 rfl dX3_keep_1 ?_
    refine lv_if_lt (tgt := 43) hx hb dX3_keep_4 (by decide) (fun c1 => ?_) (fun c1 => ?_)
    · have hf := zif_p c1 hf
      refine lv_bipush (v := (-2)) hx hb dX3_keep_43 (by decide) ?_
      obtain ⟨hq1, hq2⟩ := Prod.mk.inj (Option.some.inj hf)
      subst hq1
      subst hq2
      exact z_iret S hG hS hlocks trivial hr dX3_keep_45
    · have hf := zif_n c1 hf
      refine lv_aload_n hx hb dX3_keep_7 rfl (lv_at hl 0 rfl) ?_
      refine z_get (c0 := 3) (i0 := 0) (k0 := 4) (T := TX3) (v := .int (zI σ 3 0 4)) S hG (hZ.2.1 (3, 0) (by decide)) rfl inlX3 (by decide) rfl zw_200 rfl dX3_keep_8 ?_
      refine lv_aload_n hx hb dX3_keep_11 rfl (lv_at hl 0 rfl) ?_
      refine z_get (c0 := 3) (i0 := 0) (k0 := 1) (T := TX3) (v := .ref (ad 3 0 2)) S hG (hZ.2.1 (3, 0) (by decide)) rfl inlX3 (by decide) rfl zw_197 rfl dX3_keep_12 ?_
      refine z_alen (c0 := 3) (i0 := 0) (k0 := 1) (n := 4) (v := 50) S hG (hZ.2.1 (3, 0) (by decide)) (by decide) rfl (by decide) (by rfl) dX3_keep_15 ?_
      refine lv_icmp_ge (tgt := 43) hx hb dX3_keep_16 (by decide) (fun c2 => ?_) (fun c2 => ?_)
      · have hf := zif_p c2 hf
        refine lv_bipush (v := (-2)) hx hb dX3_keep_43 (by decide) ?_
        obtain ⟨hq1, hq2⟩ := Prod.mk.inj (Option.some.inj hf)
        subst hq1
        subst hq2
        exact z_iret S hG hS hlocks trivial hr dX3_keep_45
      · have hf := zif_n c2 hf
        refine lv_aload_n hx hb dX3_keep_19 rfl (lv_at hl 0 rfl) ?_
        refine z_get (c0 := 3) (i0 := 0) (k0 := 4) (T := TX3) (v := .int (zI σ 3 0 4)) S hG (hZ.2.1 (3, 0) (by decide)) rfl inlX3 (by decide) rfl zw_200 rfl dX3_keep_20 ?_
        refine lv_aload_n hx hb dX3_keep_23 rfl (lv_at hl 0 rfl) ?_
        refine z_get (c0 := 3) (i0 := 0) (k0 := 2) (T := TX3) (v := .ref (ad 3 0 3)) S hG (hZ.2.1 (3, 0) (by decide)) rfl inlX3 (by decide) rfl zw_198 rfl dX3_keep_24 ?_
        refine z_alen (c0 := 3) (i0 := 0) (k0 := 2) (n := 4) (v := 50) S hG (hZ.2.1 (3, 0) (by decide)) (by decide) rfl (by decide) (by rfl) dX3_keep_27 ?_
        refine lv_icmp_ge (tgt := 43) hx hb dX3_keep_28 (by decide) (fun c3 => ?_) (fun c3 => ?_)
        · have hf := zif_p c3 hf
          refine lv_bipush (v := (-2)) hx hb dX3_keep_43 (by decide) ?_
          obtain ⟨hq1, hq2⟩ := Prod.mk.inj (Option.some.inj hf)
          subst hq1
          subst hq2
          exact z_iret S hG hS hlocks trivial hr dX3_keep_45
        · have hf := zif_n c3 hf
          refine lv_aload_n hx hb dX3_keep_31 rfl (lv_at hl 0 rfl) ?_
          refine z_get (c0 := 3) (i0 := 0) (k0 := 4) (T := TX3) (v := .int (zI σ 3 0 4)) S hG (hZ.2.1 (3, 0) (by decide)) rfl inlX3 (by decide) rfl zw_200 rfl dX3_keep_32 ?_
          refine lv_aload_n hx hb dX3_keep_35 rfl (lv_at hl 0 rfl) ?_
          refine z_get (c0 := 3) (i0 := 0) (k0 := 3) (T := TX3) (v := .ref (ad 3 0 4)) S hG (hZ.2.1 (3, 0) (by decide)) rfl inlX3 (by decide) rfl zw_199 rfl dX3_keep_36 ?_
          refine z_alen (c0 := 3) (i0 := 0) (k0 := 3) (n := 4) (v := 50) S hG (hZ.2.1 (3, 0) (by decide)) (by decide) rfl (by decide) (by rfl) dX3_keep_39 ?_
          refine lv_icmp_lt (tgt := 46) hx hb dX3_keep_40 (by decide) (fun c4 => ?_) (fun c4 => ?_)
          · have hf := zif_p c4 hf
            refine lv_aload_n hx hb dX3_keep_46 rfl (lv_at hl 0 rfl) ?_
            refine z_get (c0 := 3) (i0 := 0) (k0 := 1) (T := TX3) (v := .ref (ad 3 0 2)) S hG (hZ.2.1 (3, 0) (by decide)) rfl inlX3 (by decide) rfl zw_197 rfl dX3_keep_47 ?_
            refine lv_aload_n hx hb dX3_keep_50 rfl (lv_at hl 0 rfl) ?_
            refine z_get (c0 := 3) (i0 := 0) (k0 := 4) (T := TX3) (v := .int (zI σ 3 0 4)) S hG (hZ.2.1 (3, 0) (by decide)) rfl inlX3 (by decide) rfl zw_200 rfl dX3_keep_51 ?_
            refine lv_iload_n hx hb dX3_keep_54 rfl (lv_at hl 1 rfl) ?_
            obtain ⟨i5, hi5, hf⟩ := zbi hf
            refine z_iast (c0 := 3) (i0 := 0) (k0 := 1) S hG hS (hZ.2.1 (3, 0) (by decide)) (by decide) rfl hi5 dX3_keep_55 (fun H locs hG hS => ?_)
            obtain ⟨σ6, eσ6, hf⟩ := zlt_s hf
            rw [← eσ6] at hG
            refine lv_aload_n hx hb dX3_keep_56 rfl (lv_at hl 0 rfl) ?_
            refine z_get (c0 := 3) (i0 := 0) (k0 := 2) (T := TX3) (v := .ref (ad 3 0 3)) S hG (hZ.2.1 (3, 0) (by decide)) rfl inlX3 (by decide) rfl zw_198 rfl dX3_keep_57 ?_
            refine lv_aload_n hx hb dX3_keep_60 rfl (lv_at hl 0 rfl) ?_
            refine z_get (c0 := 3) (i0 := 0) (k0 := 4) (T := TX3) (v := .int (zI σ6 3 0 4)) S hG (hZ.2.1 (3, 0) (by decide)) rfl inlX3 (by decide) rfl zw_200 rfl dX3_keep_61 ?_
            refine lv_iload_n hx hb dX3_keep_64 rfl (lv_at hl 2 rfl) ?_
            obtain ⟨i7, hi7, hf⟩ := zbi hf
            refine z_iast (c0 := 3) (i0 := 0) (k0 := 2) S hG hS (hZ.2.1 (3, 0) (by decide)) (by decide) rfl hi7 dX3_keep_65 (fun H locs hG hS => ?_)
            obtain ⟨σ8, eσ8, hf⟩ := zlt_s hf
            rw [← eσ8] at hG
            refine lv_aload_n hx hb dX3_keep_66 rfl (lv_at hl 0 rfl) ?_
            refine z_get (c0 := 3) (i0 := 0) (k0 := 3) (T := TX3) (v := .ref (ad 3 0 4)) S hG (hZ.2.1 (3, 0) (by decide)) rfl inlX3 (by decide) rfl zw_199 rfl dX3_keep_67 ?_
            refine lv_aload_n hx hb dX3_keep_70 rfl (lv_at hl 0 rfl) ?_
            refine z_get (c0 := 3) (i0 := 0) (k0 := 4) (T := TX3) (v := .int (zI σ8 3 0 4)) S hG (hZ.2.1 (3, 0) (by decide)) rfl inlX3 (by decide) rfl zw_200 rfl dX3_keep_71 ?_
            refine lv_iload_n hx hb dX3_keep_74 rfl (lv_at hl 3 rfl) ?_
            obtain ⟨i9, hi9, hf⟩ := zbi hf
            refine z_iast (c0 := 3) (i0 := 0) (k0 := 3) S hG hS (hZ.2.1 (3, 0) (by decide)) (by decide) rfl hi9 dX3_keep_75 (fun H locs hG hS => ?_)
            obtain ⟨σ10, eσ10, hf⟩ := zlt_s hf
            rw [← eσ10] at hG
            refine lv_aload_n hx hb dX3_keep_76 rfl (lv_at hl 0 rfl) ?_
            refine lv_dup hx hb dX3_keep_77 rfl ?_
            refine z_get (c0 := 3) (i0 := 0) (k0 := 4) (T := TX3) (v := .int (zI σ10 3 0 4)) S hG (hZ.2.1 (3, 0) (by decide)) rfl inlX3 (by decide) rfl zw_200 rfl dX3_keep_78 ?_
            refine lv_iconst (v := 1) hx hb dX3_keep_81 (by decide) ?_
            refine lv_iadd hx hb dX3_keep_82 ?_
            refine z_putI (c0 := 3) (i0 := 0) (k0 := 4) (T := TX3) S hG hS tyX3 tyX3_ok nmX3 (hZ.2.1 (3, 0) (by decide)) rfl inlX3 (by decide) rfl rfl zw_200 (by decide +kernel) rfl dX3_keep_83 (fun H locs hG hS => ?_)
            obtain ⟨σ11, eσ11, hf⟩ := zlt_s hf
            rw [← eσ11] at hG
            refine lv_aload_n hx hb dX3_keep_86 rfl (lv_at hl 0 rfl) ?_
            refine z_get (c0 := 3) (i0 := 0) (k0 := 4) (T := TX3) (v := .int (zI σ11 3 0 4)) S hG (hZ.2.1 (3, 0) (by decide)) rfl inlX3 (by decide) rfl zw_200 rfl dX3_keep_87 ?_
            refine lv_iconst (v := 1) hx hb dX3_keep_90 (by decide) ?_
            refine lv_isub hx hb dX3_keep_91 ?_
            obtain ⟨hq1, hq2⟩ := Prod.mk.inj (Option.some.inj hf)
            subst hq1
            subst hq2
            exact z_iret S hG hS hlocks trivial hr dX3_keep_92
          · have hf := zif_n c4 hf
            refine lv_bipush (v := (-2)) hx hb dX3_keep_43 (by decide) ?_
            obtain ⟨hq1, hq2⟩ := Prod.mk.inj (Option.some.inj hf)
            subst hq1
            subst hq2
            exact z_iret S hG hS hlocks trivial hr dX3_keep_45
  exact hK0 _ _ ls hG hS hl hf
