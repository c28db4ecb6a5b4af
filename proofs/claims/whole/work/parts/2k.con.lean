set_option maxRecDepth 100000 in
set_option maxHeartbeats 4000000 in
theorem c_X12_alikeOf (l : Launch) (D : va_G) (aC : Nat → ClassId) (zs : Nat × Nat) (A : Nat → Prop) (nl : zNL) (ad : Nat → Nat → Nat → Nat) (σ : zM) (x1 : Int32) (x2 : Int32) (r : Int32) (σ' : zM)  (hf : f_X12_alikeOf σ x1 x2 = some (r, σ')) : Met l yX12_alikeOf (Cond.code yX12_alikeOf cX12_alikeOf 10 (some .int) :: wsL_law) ({ frames := 1, cells := 0, slots := 0, locals := 22 } : Room) (zP D aC zs zfM A nl ad σ [.ref (ad 12 0 0), .int x1, .int x2]) (zQ (some (.int r)) (fun t => zG D aC A nl ad σ' t t.heap ∧ True) A) 0 0 A := by
  refine Met.ofW (cc := cX12_alikeOf) (maxL := 10) (ret := (some .int)) (by decide) rfl ?_
  intro p e s m args below meth c s₁ B hml hv
  obtain ⟨rfl, hG, hZ⟩ := hv
  have hx := B.exec
  have hb := B.bytes
  have hr := B.returns
  have hts : ∀ w ∈ wsL_law, w.before ([.ref (ad 12 0 0), .int x1, .int x2] : List Value).toArray s = true := fun w h => (atoms_spec B.pre) w (List.mem_cons_of_mem _ h)
  have hown : s.vm.findClass RX12 = some m.cls := findClass_of_methodNamed B.named
  have hlocks := B.notSynchronized
  have S : zS p m c cX12_alikeOf 10 s ([.ref (ad 12 0 0), .int x1, .int x2] : List Value).toArray RX12 := ⟨hx, hb, hml, hown, hts⟩
  have hS : va_S A s.heap s.heap [] := va_S.rf
  have hl := lv_entry ([.ref (ad 12 0 0), .int x1, .int x2]) (n := 10) (Nat.le_of_ble_eq_true rfl)
  rw [lg_entry_eq]
  generalize (lg_sl ([.ref (ad 12 0 0), .int x1, .int x2]) ++ List.replicate (10 - (lg_sl ([.ref (ad 12 0 0), .int x1, .int x2])).length) Slot.unset).toArray = ls at hl ⊢
  have hl : lv_has ls 10 [(0, .ref (ad 12 0 0)), (1, .int x1), (2, .int x2)] := hl
  generalize hargs : ([.ref (ad 12 0 0), .int x1, .int x2] : List Value).toArray = args at S hts ⊢
  clear hargs
  have KJ34 : ∀ (y3b34 : Int32)  (σb34 : zM) (H : Heap) (locs : List Loc) (ls : Array Slot), zG D aC A nl ad σb34 s H → va_S A s.heap H locs → lv_has ls 10 [(0, .ref (ad 12 0 0)), (1, .int x1), (2, .int x2), (3, .int y3b34)] → (f_X12_alikeOf_B34 σb34 x1 x2 y3b34) = some (r, σ') → zWk p l e ({ frames := 1, cells := 0, slots := 0, locals := 22 } : Room) s m args below meth c A (some (.int r)) (fun t => zG D aC A nl ad σ' t t.heap ∧ True) H locs (F0 m 34 ls []) := by
    intro y3b34  σb34 H locs ls hG hS hl hf
    unfold f_X12_alikeOf_B34 at hf
    refine lv_aload_n hx hb dX12_alikeOf_34 rfl (lv_at hl 0 rfl) ?_
    refine z_get (c0 := 12) (i0 := 0) (k0 := 14) (T := TX12) (v := .ref (ad 12 0 15)) S hG (hZ.2.1 (12, 0) (by decide)) rfl inlX12 (by decide) rfl zw_235 rfl dX12_alikeOf_35 ?_
    refine lv_iload_n hx hb dX12_alikeOf_38 rfl (lv_at hl 3 rfl) ?_
    refine lv_iconst (v := 1) hx hb dX12_alikeOf_39 (by decide) ?_
    obtain ⟨i3, hi3, hf⟩ := zbi hf
    refine z_zast (c0 := 12) (i0 := 0) (k0 := 14) S hG hS (hZ.2.1 (12, 0) (by decide)) (by decide) rfl hi3 dX12_alikeOf_40 (fun H locs hG hS => ?_)
    obtain ⟨σ4, eσ4, hf⟩ := zlt_s hf
    rw [← eσ4] at hG
    refine lv_iconst (v := 0) hx hb dX12_alikeOf_41 (by decide) ?_
    refine lv_istore (lv' := [(4, .int 0), (0, .ref (ad 12 0 0)), (1, .int x1), (2, .int x2), (3, .int y3b34)]) hx hb dX12_alikeOf_42 hl (by decide) rfl (fun ls hl => ?_)
    refine lv_iconst (v := 0) hx hb dX12_alikeOf_44 (by decide) ?_
    refine lv_istore (lv' := [(5, .int 0), (4, .int 0), (0, .ref (ad 12 0 0)), (1, .int x1), (2, .int x2), (3, .int y3b34)]) hx hb dX12_alikeOf_45 hl (by decide) rfl (fun ls hl => ?_)
    obtain ⟨t47, hw47, hfo47⟩ := zbi hf
    have KL47 : ∀ (n : Nat) (y4l47 : Int32) (y5l47 : Int32) (H : Heap) (locs : List Loc) (ls : Array Slot), zG D aC A nl ad σ4 s H → va_S A s.heap H locs → lv_has ls 10 [(0, .ref (ad 12 0 0)), (1, .int x1), (2, .int x2), (4, .int y4l47), (5, .int y5l47)] → zwh (fun (q : (Int32 × Int32)) => f_X12_alikeOf_L47 σ4 x1 x2 q.1 q.2) n (y4l47, y5l47) = some t47 → zWk p l e ({ frames := 1, cells := 0, slots := 0, locals := 22 } : Room) s m args below meth c A (some (.int r)) (fun t => zG D aC A nl ad σ' t t.heap ∧ True) H locs (F0 m 47 ls []) := by
      intro n
      induction n with
      | zero =>
        intro y4l47 y5l47 H locs ls hG hS hl hw
        exact (zwh_0 hw).elim
      | succ n ih47 =>
        intro y4l47 y5l47 H locs ls hG hS hl hw
        obtain ⟨rr47, hf, hk47⟩ := zwh_u hw
        have hf : f_X12_alikeOf_L47 σ4 x1 x2 y4l47 y5l47 = some rr47 := hf
        unfold f_X12_alikeOf_L47 at hf
        have KJ168_47 : ∀ (y4b168 : Int32) (y5b168 : Int32) (y6b168 : Int32)   (H : Heap) (locs : List Loc) (ls : Array Slot), zG D aC A nl ad σ4 s H → va_S A s.heap H locs → lv_has ls 10 [(0, .ref (ad 12 0 0)), (1, .int x1), (2, .int x2), (4, .int y4b168), (5, .int y5b168), (6, .int y6b168)] → (f_X12_alikeOf_B168_47 σ4 x1 x2 y4b168 y5b168 y6b168) = some rr47 → zWk p l e ({ frames := 1, cells := 0, slots := 0, locals := 22 } : Room) s m args below meth c A (some (.int r)) (fun t => zG D aC A nl ad σ' t t.heap ∧ True) H locs (F0 m 168 ls []) := by
          intro y4b168 y5b168 y6b168   H locs ls hG hS hl hf
          unfold f_X12_alikeOf_B168_47 at hf
          refine lv_iload hx hb dX12_alikeOf_168 (lv_at hl 3 rfl) ?_
          refine lv_iload hx hb dX12_alikeOf_170 (lv_at hl 5 rfl) ?_
          refine z_mmax (v := (zmax y4b168 y6b168)) S hl zw_735 zw_90 zw_91 zw_92 (Nat.le_of_ble_eq_true rfl) (Nat.le_of_ble_eq_true rfl) (Nat.le_of_ble_eq_true rfl) (Nat.zero_le _) (Nat.zero_le _) rfl dX12_alikeOf_172 ?_
          refine lv_istore (lv' := [(4, .int (zmax y4b168 y6b168)), (0, .ref (ad 12 0 0)), (1, .int x1), (2, .int x2), (5, .int y5b168), (6, .int y6b168)]) hx hb dX12_alikeOf_175 hl (by decide) rfl (fun ls hl => ?_)
          refine lv_iinc (v := (y5b168 + 1)) (lv' := [(5, .int (y5b168 + 1)), (4, .int (zmax y4b168 y6b168)), (0, .ref (ad 12 0 0)), (1, .int x1), (2, .int x2), (6, .int y6b168)]) hx hb dX12_alikeOf_177 hl (k := 4) rfl rfl (by decide) rfl (fun ls hl => ?_)
          refine lv_goto (tgt := 47) hx hb dX12_alikeOf_180 (by decide) ?_
          cases hf
          exact ih47 (zmax y4b168 y6b168) (y5b168 + 1) H locs ls hG hS (lv_sub hl [2, 3, 4, 1, 0] rfl) hk47
        refine lv_iload hx hb dX12_alikeOf_47 (lv_at hl 4 rfl) ?_
        refine lv_iconst (v := 4) hx hb dX12_alikeOf_49 (by decide) ?_
        refine lv_icmp_ge (tgt := 183) hx hb dX12_alikeOf_50 (by decide) (fun c196 => ?_) (fun c196 => ?_)
        · have hf := zif_p c196 hf
          cases hf
          have hk47 : (y4l47 : Int32) = t47 := hk47
          have hf := hfo47
          rw [← hk47] at hf
          have hf : (some (y4l47, σ4)) = some (r, σ') := hf
          refine lv_iload hx hb dX12_alikeOf_183 (lv_at hl 3 rfl) ?_
          obtain ⟨hq1, hq2⟩ := Prod.mk.inj (Option.some.inj hf)
          subst hq1
          subst hq2
          exact z_iret S hG hS hlocks trivial hr dX12_alikeOf_185
        · have hf := zif_n c196 hf
          refine lv_iconst (v := 0) hx hb dX12_alikeOf_53 (by decide) ?_
          refine lv_istore (lv' := [(6, .int 0), (0, .ref (ad 12 0 0)), (1, .int x1), (2, .int x2), (4, .int y4l47), (5, .int y5l47)]) hx hb dX12_alikeOf_54 hl (by decide) rfl (fun ls hl => ?_)
          refine lv_iconst (v := 0) hx hb dX12_alikeOf_56 (by decide) ?_
          refine lv_istore (lv' := [(7, .int 0), (6, .int 0), (0, .ref (ad 12 0 0)), (1, .int x1), (2, .int x2), (4, .int y4l47), (5, .int y5l47)]) hx hb dX12_alikeOf_57 hl (by decide) rfl (fun ls hl => ?_)
          obtain ⟨t59, hw59, hfo59⟩ := zbi hf
          have KL59 : ∀ (n : Nat) (y6l59 : Int32) (y7l59 : Int32) (H : Heap) (locs : List Loc) (ls : Array Slot), zG D aC A nl ad σ4 s H → va_S A s.heap H locs → lv_has ls 10 [(0, .ref (ad 12 0 0)), (1, .int x1), (2, .int x2), (4, .int y4l47), (5, .int y5l47), (6, .int y6l59), (7, .int y7l59)] → zwh (fun (q : (Int32 × Int32)) => f_X12_alikeOf_L59 σ4 x1 x2 y4l47 y5l47 q.1 q.2) n (y6l59, y7l59) = some t59 → zWk p l e ({ frames := 1, cells := 0, slots := 0, locals := 22 } : Room) s m args below meth c A (some (.int r)) (fun t => zG D aC A nl ad σ' t t.heap ∧ True) H locs (F0 m 59 ls []) := by
            intro n
            induction n with
            | zero =>
              intro y6l59 y7l59 H locs ls hG hS hl hw
              exact (zwh_0 hw).elim
            | succ n ih59 =>
              intro y6l59 y7l59 H locs ls hG hS hl hw
              obtain ⟨rr59, hf, hk59⟩ := zwh_u hw
              have hf : f_X12_alikeOf_L59 σ4 x1 x2 y4l47 y5l47 y6l59 y7l59 = some rr59 := hf
              unfold f_X12_alikeOf_L59 at hf
              have KJ162_59 : ∀ (y6b162 : Int32) (y7b162 : Int32)   (H : Heap) (locs : List Loc) (ls : Array Slot), zG D aC A nl ad σ4 s H → va_S A s.heap H locs → lv_has ls 10 [(0, .ref (ad 12 0 0)), (1, .int x1), (2, .int x2), (4, .int y4l47), (5, .int y5l47), (6, .int y6b162), (7, .int y7b162)] → (f_X12_alikeOf_B162_59 σ4 x1 x2 y4l47 y5l47 y6b162 y7b162) = some rr59 → zWk p l e ({ frames := 1, cells := 0, slots := 0, locals := 22 } : Room) s m args below meth c A (some (.int r)) (fun t => zG D aC A nl ad σ' t t.heap ∧ True) H locs (F0 m 162 ls []) := by
                intro y6b162 y7b162   H locs ls hG hS hl hf
                unfold f_X12_alikeOf_B162_59 at hf
                refine lv_iinc (v := (y7b162 + 1)) (lv' := [(7, .int (y7b162 + 1)), (0, .ref (ad 12 0 0)), (1, .int x1), (2, .int x2), (4, .int y4l47), (5, .int y5l47), (6, .int y6b162)]) hx hb dX12_alikeOf_162 hl (k := 6) rfl rfl (by decide) rfl (fun ls hl => ?_)
                refine lv_goto (tgt := 59) hx hb dX12_alikeOf_165 (by decide) ?_
                cases hf
                exact ih59 y6b162 (y7b162 + 1) H locs ls hG hS (lv_sub hl [1, 2, 3, 4, 5, 6, 0] rfl) hk59
              refine lv_iload hx hb dX12_alikeOf_59 (lv_at hl 6 rfl) ?_
              refine lv_bipush (v := 8) hx hb dX12_alikeOf_61 (by decide) ?_
              refine lv_icmp_ge (tgt := 168) hx hb dX12_alikeOf_63 (by decide) (fun c292 => ?_) (fun c292 => ?_)
              · have hf := zif_p c292 hf
                cases hf
                have hk59 : (y6l59 : Int32) = t59 := hk59
                have hf := hfo59
                rw [← hk59] at hf
                have hf : (f_X12_alikeOf_B168_47 σ4 x1 x2 y4l47 y5l47 y6l59) = some rr47 := hf
                exact KJ168_47 y4l47 y5l47 y6l59 H locs ls hG hS (lv_sub hl [0, 1, 2, 3, 4, 5] rfl) hf
              · have hf := zif_n c292 hf
                refine lv_iconst (v := 0) hx hb dX12_alikeOf_66 (by decide) ?_
                refine lv_istore (lv' := [(8, .int 0), (0, .ref (ad 12 0 0)), (1, .int x1), (2, .int x2), (4, .int y4l47), (5, .int y5l47), (6, .int y6l59), (7, .int y7l59)]) hx hb dX12_alikeOf_67 hl (by decide) rfl (fun ls hl => ?_)
                obtain ⟨t69, hw69, hfo69⟩ := zbi hf
                have KL69 : ∀ (n : Nat) (y6l69 : Int32) (y8l69 : Int32) (H : Heap) (locs : List Loc) (ls : Array Slot), zG D aC A nl ad σ4 s H → va_S A s.heap H locs → lv_has ls 10 [(0, .ref (ad 12 0 0)), (1, .int x1), (2, .int x2), (4, .int y4l47), (5, .int y5l47), (7, .int y7l59), (6, .int y6l69), (8, .int y8l69)] → zwh (fun (q : (Int32 × Int32)) => f_X12_alikeOf_L69 σ4 x1 x2 y4l47 y5l47 y7l59 q.1 q.2) n (y6l69, y8l69) = some t69 → zWk p l e ({ frames := 1, cells := 0, slots := 0, locals := 22 } : Room) s m args below meth c A (some (.int r)) (fun t => zG D aC A nl ad σ' t t.heap ∧ True) H locs (F0 m 69 ls []) := by
                  intro n
                  induction n with
                  | zero =>
                    intro y6l69 y8l69 H locs ls hG hS hl hw
                    exact (zwh_0 hw).elim
                  | succ n ih69 =>
                    intro y6l69 y8l69 H locs ls hG hS hl hw
                    obtain ⟨rr69, hf, hk69⟩ := zwh_u hw
                    have hf : f_X12_alikeOf_L69 σ4 x1 x2 y4l47 y5l47 y7l59 y6l69 y8l69 = some rr69 := hf
                    unfold f_X12_alikeOf_L69 at hf
                    have KJ150_69 : ∀ (y8b150 : Int32) (t0b150 : Int32) (t1b150 : Int32)   (H : Heap) (locs : List Loc) (ls : Array Slot), zG D aC A nl ad σ4 s H → va_S A s.heap H locs → lv_has ls 10 [(0, .ref (ad 12 0 0)), (1, .int x1), (2, .int x2), (4, .int y4l47), (5, .int y5l47), (7, .int y7l59), (8, .int y8b150)] → (f_X12_alikeOf_B150_69 σ4 x1 x2 y4l47 y5l47 y7l59 y8b150 t0b150 t1b150) = some rr69 → zWk p l e ({ frames := 1, cells := 0, slots := 0, locals := 22 } : Room) s m args below meth c A (some (.int r)) (fun t => zG D aC A nl ad σ' t t.heap ∧ True) H locs (F0 m 150 ls [.int t1b150, .int t0b150]) := by
                      intro y8b150 t0b150 t1b150   H locs ls hG hS hl hf
                      unfold f_X12_alikeOf_B150_69 at hf
                      refine z_callS (n := 1) (rest := [.int t0b150]) (st1 := [.int (f_X12_one t1b150), .int t0b150]) S hG hS hZ (fun _ _ h => h) (c_X12_one l D aC zs A nl ad σ4 t1b150 (f_X12_one t1b150) rfl) zw_903 zw_904 zw_5 zw_905 (by decide +kernel) ⟨rfl, rfl⟩ ⟨(Nat.le_of_ble_eq_true rfl), (Nat.le_of_ble_eq_true rfl)⟩ hl.1 rfl (by rfl) (by rfl) (Nat.le_of_ble_eq_true rfl) dX12_alikeOf_150 ⟨Nat.zero_le _, Nat.zero_le _⟩ (fun H locs hz345 hG hS => ?_)
                      refine lv_iadd hx hb dX12_alikeOf_153 ?_
                      refine lv_istore (lv' := [(6, .int (t0b150 + (f_X12_one t1b150))), (0, .ref (ad 12 0 0)), (1, .int x1), (2, .int x2), (4, .int y4l47), (5, .int y5l47), (7, .int y7l59), (8, .int y8b150)]) hx hb dX12_alikeOf_154 hl (by decide) rfl (fun ls hl => ?_)
                      refine lv_iinc (v := (y8b150 + 1)) (lv' := [(8, .int (y8b150 + 1)), (6, .int (t0b150 + (f_X12_one t1b150))), (0, .ref (ad 12 0 0)), (1, .int x1), (2, .int x2), (4, .int y4l47), (5, .int y5l47), (7, .int y7l59)]) hx hb dX12_alikeOf_156 hl (k := 7) rfl rfl (by decide) rfl (fun ls hl => ?_)
                      refine lv_goto (tgt := 69) hx hb dX12_alikeOf_159 (by decide) ?_
                      cases hf
                      exact ih69 (t0b150 + (f_X12_one t1b150)) (y8b150 + 1) H locs ls hG hS (lv_sub hl [2, 3, 4, 5, 6, 7, 1, 0] rfl) hk69
                    have KJ149_69 : ∀ (y8b149 : Int32) (t0b149 : Int32)   (H : Heap) (locs : List Loc) (ls : Array Slot), zG D aC A nl ad σ4 s H → va_S A s.heap H locs → lv_has ls 10 [(0, .ref (ad 12 0 0)), (1, .int x1), (2, .int x2), (4, .int y4l47), (5, .int y5l47), (7, .int y7l59), (8, .int y8b149)] → (f_X12_alikeOf_B149_69 σ4 x1 x2 y4l47 y5l47 y7l59 y8b149 t0b149) = some rr69 → zWk p l e ({ frames := 1, cells := 0, slots := 0, locals := 22 } : Room) s m args below meth c A (some (.int r)) (fun t => zG D aC A nl ad σ' t t.heap ∧ True) H locs (F0 m 149 ls [.int t0b149]) := by
                      intro y8b149 t0b149   H locs ls hG hS hl hf
                      unfold f_X12_alikeOf_B149_69 at hf
                      refine lv_iconst (v := 0) hx hb dX12_alikeOf_149 (by decide) ?_
                      exact KJ150_69 y8b149 t0b149 0 H locs ls hG hS (lv_sub hl [0, 1, 2, 3, 4, 5, 6] rfl) hf
                    refine lv_iload hx hb dX12_alikeOf_69 (lv_at hl 7 rfl) ?_
                    refine lv_bipush (v := 10) hx hb dX12_alikeOf_71 (by decide) ?_
                    refine lv_icmp_ge (tgt := 162) hx hb dX12_alikeOf_73 (by decide) (fun c340 => ?_) (fun c340 => ?_)
                    · have hf := zif_p c340 hf
                      cases hf
                      have hk69 : (y6l69 : Int32) = t69 := hk69
                      have hf := hfo69
                      rw [← hk69] at hf
                      have hf : (f_X12_alikeOf_B162_59 σ4 x1 x2 y4l47 y5l47 y6l69 y7l59) = some rr59 := hf
                      exact KJ162_59 y6l69 y7l59 H locs ls hG hS (lv_sub hl [0, 1, 2, 3, 4, 6, 5] rfl) hf
                    · have hf := zif_n c340 hf
                      refine lv_aload_n hx hb dX12_alikeOf_76 rfl (lv_at hl 0 rfl) ?_
                      refine lv_iload_n hx hb dX12_alikeOf_77 rfl (lv_at hl 1 rfl) ?_
                      refine lv_iconst (v := 0) hx hb dX12_alikeOf_78 (by decide) ?_
                      refine lv_iload hx hb dX12_alikeOf_79 (lv_at hl 7 rfl) ?_
                      refine lv_iload hx hb dX12_alikeOf_81 (lv_at hl 5 rfl) ?_
                      refine z_callS (n := 3) (rest := [.int x1, .ref (ad 12 0 0)]) (st1 := [.int (f_X12_spot 0 y8l69 y7l59), .int x1, .ref (ad 12 0 0)]) S hG hS hZ (fun _ _ h => h) (c_X12_spot l D aC zs A nl ad σ4 0 y8l69 y7l59 (f_X12_spot 0 y8l69 y7l59) rfl) zw_844 zw_845 zw_5 zw_846 (by decide +kernel) ⟨rfl, rfl⟩ ⟨(Nat.le_of_ble_eq_true rfl), (Nat.le_of_ble_eq_true rfl)⟩ hl.1 rfl (by rfl) (by rfl) (Nat.le_of_ble_eq_true rfl) dX12_alikeOf_83 ⟨Nat.zero_le _, Nat.zero_le _⟩ (fun H locs hz341 hG hS => ?_)
                      obtain ⟨r342, er342, hf⟩ := zbi hf
                      refine z_callV (n := 2) (rest := []) (st1 := [.int r342]) (c0 := 12) (i0 := 0) (hZ.2.1 (12, 0) (by decide)) (by rfl) S hG hS hZ (fun _ _ h => h) (c_X12_at l D aC zs A nl ad σ4 x1 (f_X12_spot 0 y8l69 y7l59) r342 er342) zw_899 zw_900 zw_901 zw_5 zw_902 (by decide +kernel) ⟨rfl, rfl⟩ ⟨(Nat.le_of_ble_eq_true rfl), (Nat.le_of_ble_eq_true rfl)⟩ hl.1 rfl (by rfl) (by rfl) (Nat.le_of_ble_eq_true rfl) dX12_alikeOf_86 ⟨Nat.zero_le _, Nat.zero_le _⟩ (fun H locs hz343 hG hS => ?_)
                      refine lv_istore (lv' := [(9, .int r342), (0, .ref (ad 12 0 0)), (1, .int x1), (2, .int x2), (4, .int y4l47), (5, .int y5l47), (7, .int y7l59), (6, .int y6l69), (8, .int y8l69)]) hx hb dX12_alikeOf_89 hl (by decide) rfl (fun ls hl => ?_)
                      refine lv_iload hx hb dX12_alikeOf_91 (lv_at hl 7 rfl) ?_
                      refine lv_iload hx hb dX12_alikeOf_93 (lv_at hl 0 rfl) ?_
                      refine lv_if_le (tgt := 149) hx hb dX12_alikeOf_95 (by decide) (fun c344 => ?_) (fun c344 => ?_)
                      · have hf := zif_p c344 hf
                        exact KJ149_69 y8l69 y6l69 H locs ls hG hS (lv_sub hl [1, 2, 3, 4, 5, 6, 8] rfl) hf
                      · have hf := zif_n c344 hf
                        refine lv_iload hx hb dX12_alikeOf_98 (lv_at hl 0 rfl) ?_
                        refine lv_aload_n hx hb dX12_alikeOf_100 rfl (lv_at hl 1 rfl) ?_
                        refine lv_iload_n hx hb dX12_alikeOf_101 rfl (lv_at hl 3 rfl) ?_
                        refine lv_iconst (v := 0) hx hb dX12_alikeOf_102 (by decide) ?_
                        refine lv_iload hx hb dX12_alikeOf_103 (lv_at hl 5 rfl) ?_
                        refine lv_iconst (v := 2) hx hb dX12_alikeOf_105 (by decide) ?_
                        refine z_irem (v := (zrem y5l47 2)) hx hb dX12_alikeOf_106 (by decide) rfl ?_
                        have Kv348 : ∀ (v348 : Int32) (ls : Array Slot), lv_has ls 10 [(9, .int r342), (0, .ref (ad 12 0 0)), (1, .int x1), (2, .int x2), (4, .int y4l47), (5, .int y5l47), (7, .int y7l59), (6, .int y6l69), (8, .int y8l69)] → ((f_X12_at σ4 x2 (f_X12_spot 0 v348 (if 2 ≤ y5l47 then (7 - y7l59) else y7l59 : Int32))).bind fun r372 => some (.inl ((y6l69 + (f_X12_one (if r342 = r372 then 1 else 0 : Int32))), (y8l69 + 1)))) = some rr69 → zWk p l e ({ frames := 1, cells := 0, slots := 0, locals := 22 } : Room) s m args below meth c A (some (.int r)) (fun t => zG D aC A nl ad σ' t t.heap ∧ True) H locs (F0 m 120 ls [.int v348, .int 0, .int x2, .ref (ad 12 0 0), .int r342, .int y6l69]) := by
                          intro v348 ls hl hf
                          refine lv_iload hx hb dX12_alikeOf_120 (lv_at hl 5 rfl) ?_
                          refine lv_iconst (v := 2) hx hb dX12_alikeOf_122 (by decide) ?_
                          have Kv370 : ∀ (v370 : Int32) (ls : Array Slot), lv_has ls 10 [(9, .int r342), (0, .ref (ad 12 0 0)), (1, .int x1), (2, .int x2), (4, .int y4l47), (5, .int y5l47), (7, .int y7l59), (6, .int y6l69), (8, .int y8l69)] → ((f_X12_at σ4 x2 (f_X12_spot 0 v348 v370)).bind fun r380 => some (.inl ((y6l69 + (f_X12_one (if r342 = r380 then 1 else 0 : Int32))), (y8l69 + 1)))) = some rr69 → zWk p l e ({ frames := 1, cells := 0, slots := 0, locals := 22 } : Room) s m args below meth c A (some (.int r)) (fun t => zG D aC A nl ad σ' t t.heap ∧ True) H locs (F0 m 136 ls [.int v370, .int v348, .int 0, .int x2, .ref (ad 12 0 0), .int r342, .int y6l69]) := by
                            intro v370 ls hl hf
                            refine z_callS (n := 3) (rest := [.int x2, .ref (ad 12 0 0), .int r342, .int y6l69]) (st1 := [.int (f_X12_spot 0 v348 v370), .int x2, .ref (ad 12 0 0), .int r342, .int y6l69]) S hG hS hZ (fun _ _ h => h) (c_X12_spot l D aC zs A nl ad σ4 0 v348 v370 (f_X12_spot 0 v348 v370) rfl) zw_844 zw_845 zw_5 zw_846 (by decide +kernel) ⟨rfl, rfl⟩ ⟨(Nat.le_of_ble_eq_true rfl), (Nat.le_of_ble_eq_true rfl)⟩ hl.1 rfl (by rfl) (by rfl) (Nat.le_of_ble_eq_true rfl) dX12_alikeOf_136 ⟨Nat.zero_le _, Nat.zero_le _⟩ (fun H locs hz379 hG hS => ?_)
                            obtain ⟨r380, er380, hf⟩ := zbi hf
                            refine z_callV (n := 2) (rest := [.int r342, .int y6l69]) (st1 := [.int r380, .int r342, .int y6l69]) (c0 := 12) (i0 := 0) (hZ.2.1 (12, 0) (by decide)) (by rfl) S hG hS hZ (fun _ _ h => h) (c_X12_at l D aC zs A nl ad σ4 x2 (f_X12_spot 0 v348 v370) r380 er380) zw_899 zw_900 zw_901 zw_5 zw_902 (by decide +kernel) ⟨rfl, rfl⟩ ⟨(Nat.le_of_ble_eq_true rfl), (Nat.le_of_ble_eq_true rfl)⟩ hl.1 rfl (by rfl) (by rfl) (Nat.le_of_ble_eq_true rfl) dX12_alikeOf_139 ⟨Nat.zero_le _, Nat.zero_le _⟩ (fun H locs hz381 hG hS => ?_)
                            have Kv384 : ∀ (v384 : Int32) (ls : Array Slot), lv_has ls 10 [(9, .int r342), (0, .ref (ad 12 0 0)), (1, .int x1), (2, .int x2), (4, .int y4l47), (5, .int y5l47), (7, .int y7l59), (6, .int y6l69), (8, .int y8l69)] → (some (.inl ((y6l69 + (f_X12_one v384)), (y8l69 + 1)))) = some rr69 → zWk p l e ({ frames := 1, cells := 0, slots := 0, locals := 22 } : Room) s m args below meth c A (some (.int r)) (fun t => zG D aC A nl ad σ' t t.heap ∧ True) H locs (F0 m 150 ls [.int v384, .int y6l69]) := by
                              intro v384 ls hl hf
                              refine z_callS (n := 1) (rest := [.int y6l69]) (st1 := [.int (f_X12_one v384), .int y6l69]) S hG hS hZ (fun _ _ h => h) (c_X12_one l D aC zs A nl ad σ4 v384 (f_X12_one v384) rfl) zw_903 zw_904 zw_5 zw_905 (by decide +kernel) ⟨rfl, rfl⟩ ⟨(Nat.le_of_ble_eq_true rfl), (Nat.le_of_ble_eq_true rfl)⟩ hl.1 rfl (by rfl) (by rfl) (Nat.le_of_ble_eq_true rfl) dX12_alikeOf_150 ⟨Nat.zero_le _, Nat.zero_le _⟩ (fun H locs hz386 hG hS => ?_)
                              refine lv_iadd hx hb dX12_alikeOf_153 ?_
                              refine lv_istore (lv' := [(6, .int (y6l69 + (f_X12_one v384))), (9, .int r342), (0, .ref (ad 12 0 0)), (1, .int x1), (2, .int x2), (4, .int y4l47), (5, .int y5l47), (7, .int y7l59), (8, .int y8l69)]) hx hb dX12_alikeOf_154 hl (by decide) rfl (fun ls hl => ?_)
                              refine lv_iinc (v := (y8l69 + 1)) (lv' := [(8, .int (y8l69 + 1)), (6, .int (y6l69 + (f_X12_one v384))), (9, .int r342), (0, .ref (ad 12 0 0)), (1, .int x1), (2, .int x2), (4, .int y4l47), (5, .int y5l47), (7, .int y7l59)]) hx hb dX12_alikeOf_156 hl (k := 8) rfl rfl (by decide) rfl (fun ls hl => ?_)
                              refine lv_goto (tgt := 69) hx hb dX12_alikeOf_159 (by decide) ?_
                              cases hf
                              exact ih69 (y6l69 + (f_X12_one v384)) (y8l69 + 1) H locs ls hG hS (lv_sub hl [3, 4, 5, 6, 7, 8, 1, 0] rfl) hk69
                            refine lv_icmp_ne (tgt := 149) hx hb dX12_alikeOf_142 (by decide) (fun c383 => ?_) (fun c383 => ?_)
                            · rw [if_neg c383] at hf
                              refine lv_iconst (v := 0) hx hb dX12_alikeOf_149 (by decide) ?_
                              exact Kv384 _ ls hl hf
                            · rw [if_pos c383] at hf
                              refine lv_iconst (v := 1) hx hb dX12_alikeOf_145 (by decide) ?_
                              refine lv_goto (tgt := 150) hx hb dX12_alikeOf_146 (by decide) ?_
                              exact Kv384 _ ls hl hf
                          refine lv_icmp_ge (tgt := 131) hx hb dX12_alikeOf_123 (by decide) (fun c369 => ?_) (fun c369 => ?_)
                          · rw [if_pos c369] at hf
                            refine lv_bipush (v := 7) hx hb dX12_alikeOf_131 (by decide) ?_
                            refine lv_iload hx hb dX12_alikeOf_133 (lv_at hl 6 rfl) ?_
                            refine lv_isub hx hb dX12_alikeOf_135 ?_
                            exact Kv370 _ ls hl hf
                          · rw [if_neg c369] at hf
                            refine lv_iload hx hb dX12_alikeOf_126 (lv_at hl 6 rfl) ?_
                            refine lv_goto (tgt := 136) hx hb dX12_alikeOf_128 (by decide) ?_
                            exact Kv370 _ ls hl hf
                        refine lv_if_ne (tgt := 115) hx hb dX12_alikeOf_107 (by decide) (fun c347 => ?_) (fun c347 => ?_)
                        · rw [if_neg c347] at hf
                          refine lv_bipush (v := 9) hx hb dX12_alikeOf_115 (by decide) ?_
                          refine lv_iload hx hb dX12_alikeOf_117 (lv_at hl 8 rfl) ?_
                          refine lv_isub hx hb dX12_alikeOf_119 ?_
                          exact Kv348 _ ls hl hf
                        · rw [if_pos c347] at hf
                          refine lv_iload hx hb dX12_alikeOf_110 (lv_at hl 8 rfl) ?_
                          refine lv_goto (tgt := 120) hx hb dX12_alikeOf_112 (by decide) ?_
                          exact Kv348 _ ls hl hf
                exact KL69 zFu y6l59 0 H locs ls hG hS (lv_sub hl [1, 2, 3, 4, 5, 7, 6, 0] rfl) hw69
          exact KL59 zFu 0 0 H locs ls hG hS (lv_sub hl [2, 3, 4, 5, 6, 1, 0] rfl) hw59
    exact KL47 zFu 0 0 H locs ls hG hS (lv_sub hl [2, 3, 4, 1, 0] rfl) hw47
  have hK0 : ∀ (H : Heap) (locs : List Loc) (ls : Array Slot), zG D aC A nl ad σ s H → va_S A s.heap H locs → lv_has ls 10 [(0, .ref (ad 12 0 0)), (1, .int x1), (2, .int x2)] → f_X12_alikeOf σ x1 x2 = some (r, σ') → zWk p l e ({ frames := 1, cells := 0, slots := 0, locals := 22 } : Room) s m args below meth c A (some (.int r)) (fun t => zG D aC A nl ad σ' t t.heap ∧ True) H locs (F0 m 0 ls []) := by
    intro H locs ls hG hS hl hf
    unfold f_X12_alikeOf at hf
    refine lv_bipush (v := 10) hx hb dX12_alikeOf_0 (by decide) ?_
    refine lv_iload_n hx hb dX12_alikeOf_2 rfl (lv_at hl 1 rfl) ?_
    refine lv_iload_n hx hb dX12_alikeOf_3 rfl (lv_at hl 2 rfl) ?_
    refine z_mmin (v := (zmin x1 x2)) S hl zw_736 zw_679 zw_91 zw_680 (Nat.le_of_ble_eq_true rfl) (Nat.le_of_ble_eq_true rfl) (Nat.le_of_ble_eq_true rfl) (Nat.zero_le _) (Nat.zero_le _) rfl dX12_alikeOf_4 ?_
    refine lv_imul hx hb dX12_alikeOf_7 ?_
    refine lv_iload_n hx hb dX12_alikeOf_8 rfl (lv_at hl 1 rfl) ?_
    refine lv_iload_n hx hb dX12_alikeOf_9 rfl (lv_at hl 2 rfl) ?_
    refine z_mmax (v := (zmax x1 x2)) S hl zw_735 zw_90 zw_91 zw_92 (Nat.le_of_ble_eq_true rfl) (Nat.le_of_ble_eq_true rfl) (Nat.le_of_ble_eq_true rfl) (Nat.zero_le _) (Nat.zero_le _) rfl dX12_alikeOf_10 ?_
    refine lv_iadd hx hb dX12_alikeOf_13 ?_
    refine lv_istore_n (lv' := [(3, .int ((10 * (zmin x1 x2)) + (zmax x1 x2))), (0, .ref (ad 12 0 0)), (1, .int x1), (2, .int x2)]) hx hb dX12_alikeOf_14 rfl hl (by decide) rfl (fun ls hl => ?_)
    refine lv_aload_n hx hb dX12_alikeOf_15 rfl (lv_at hl 1 rfl) ?_
    refine z_get (c0 := 12) (i0 := 0) (k0 := 14) (T := TX12) (v := .ref (ad 12 0 15)) S hG (hZ.2.1 (12, 0) (by decide)) rfl inlX12 (by decide) rfl zw_235 rfl dX12_alikeOf_16 ?_
    refine lv_iload_n hx hb dX12_alikeOf_19 rfl (lv_at hl 0 rfl) ?_
    obtain ⟨i1, hi1, hf⟩ := zbi hf
    refine z_zald (c0 := 12) (i0 := 0) (k0 := 14) S hG (hZ.2.1 (12, 0) (by decide)) (by decide) rfl hi1 dX12_alikeOf_20 ?_
    refine lv_if_ne (tgt := 34) hx hb dX12_alikeOf_21 (by decide) (fun c2 => ?_) (fun c2 => ?_)
    · have hf := zif_n c2 hf
      exact KJ34 ((10 * (zmin x1 x2)) + (zmax x1 x2)) σ H locs ls hG hS (lv_sub hl [1, 2, 3, 0] rfl) hf
    · have hf := zif_p c2 hf
      refine lv_aload_n hx hb dX12_alikeOf_24 rfl (lv_at hl 1 rfl) ?_
      refine lv_dup hx hb dX12_alikeOf_25 rfl ?_
      refine z_get (c0 := 12) (i0 := 0) (k0 := 15) (T := TX12) (v := .int (zI σ 12 0 15)) S hG (hZ.2.1 (12, 0) (by decide)) rfl inlX12 (by decide) rfl zw_1117 rfl dX12_alikeOf_26 ?_
      refine lv_iconst (v := 1) hx hb dX12_alikeOf_29 (by decide) ?_
      refine lv_iadd hx hb dX12_alikeOf_30 ?_
      refine z_putI (c0 := 12) (i0 := 0) (k0 := 15) (T := TX12) S hG hS tyX12 tyX12_ok nmX12 (hZ.2.1 (12, 0) (by decide)) rfl inlX12 (by decide) rfl rfl zw_1117 (by decide +kernel) rfl dX12_alikeOf_31 (fun H locs hG hS => ?_)
      obtain ⟨σ387, eσ387, hf⟩ := zlt_s hf
      rw [← eσ387] at hG
      exact KJ34 ((10 * (zmin x1 x2)) + (zmax x1 x2)) σ387 H locs ls hG hS (lv_sub hl [1, 2, 3, 0] rfl) hf
  exact hK0 _ _ ls hG hS hl hf
set_option maxRecDepth 100000 in
set_option maxHeartbeats 4000000 in
theorem c_X12_alike (l : Launch) (D : va_G) (aC : Nat → ClassId) (zs : Nat × Nat) (A : Nat → Prop) (nl : zNL) (ad : Nat → Nat → Nat → Nat) (σ : zM) (x1 : Int32) (x2 : Int32) (r : Int32) (σ' : zM)  (hf : f_X12_alike σ x1 x2 = some (r, σ')) : Met l yX12_alike (Cond.code yX12_alike cX12_alike 3 (some .int) :: wsL_law) ({ frames := 2, cells := 0, slots := 0, locals := 51 } : Room) (zP D aC zs zfM A nl ad σ [.ref (ad 12 0 0), .int x1, .int x2]) (zQ (some (.int r)) (fun t => zG D aC A nl ad σ' t t.heap ∧ True) A) 0 0 A := by
  refine Met.ofW (cc := cX12_alike) (maxL := 3) (ret := (some .int)) (by decide) rfl ?_
  intro p e s m args below meth c s₁ B hml hv
  obtain ⟨rfl, hG, hZ⟩ := hv
  have hx := B.exec
  have hb := B.bytes
  have hr := B.returns
  have hts : ∀ w ∈ wsL_law, w.before ([.ref (ad 12 0 0), .int x1, .int x2] : List Value).toArray s = true := fun w h => (atoms_spec B.pre) w (List.mem_cons_of_mem _ h)
  have hown : s.vm.findClass RX12 = some m.cls := findClass_of_methodNamed B.named
  have hlocks := B.notSynchronized
  have S : zS p m c cX12_alike 3 s ([.ref (ad 12 0 0), .int x1, .int x2] : List Value).toArray RX12 := ⟨hx, hb, hml, hown, hts⟩
  have hS : va_S A s.heap s.heap [] := va_S.rf
  have hl := lv_entry ([.ref (ad 12 0 0), .int x1, .int x2]) (n := 3) (Nat.le_of_ble_eq_true rfl)
  rw [lg_entry_eq]
  generalize (lg_sl ([.ref (ad 12 0 0), .int x1, .int x2]) ++ List.replicate (3 - (lg_sl ([.ref (ad 12 0 0), .int x1, .int x2])).length) Slot.unset).toArray = ls at hl ⊢
  have hl : lv_has ls 3 [(0, .ref (ad 12 0 0)), (1, .int x1), (2, .int x2)] := hl
  generalize hargs : ([.ref (ad 12 0 0), .int x1, .int x2] : List Value).toArray = args at S hts ⊢
  clear hargs
  have hK0 : ∀ (H : Heap) (locs : List Loc) (ls : Array Slot), zG D aC A nl ad σ s H → va_S A s.heap H locs → lv_has ls 3 [(0, .ref (ad 12 0 0)), (1, .int x1), (2, .int x2)] → f_X12_alike σ x1 x2 = some (r, σ') → zWk p l e ({ frames := 2, cells := 0, slots := 0, locals := 51 } : Room) s m args below meth c A (some (.int r)) (fun t => zG D aC A nl ad σ' t t.heap ∧ True) H locs (F0 m 0 ls []) := by
    intro H locs ls hG hS hl hf
    unfold f_X12_alike at hf
    refine lv_aload_n hx hb dX12_alike_0 rfl (lv_at hl 0 rfl) ?_
    refine lv_iload_n hx hb dX12_alike_1 rfl (lv_at hl 1 rfl) ?_
    refine z_callV (n := 1) (rest := []) (st1 := [.int (f_X12_isScheme σ x1)]) (c0 := 12) (i0 := 0) (hZ.2.1 (12, 0) (by decide)) (by rfl) S hG hS hZ (fun _ _ h => h) (c_X12_isScheme l D aC zs A nl ad σ x1 (f_X12_isScheme σ x1) rfl) zw_837 zw_838 zw_839 zw_5 zw_840 (by decide +kernel) ⟨rfl, rfl⟩ ⟨(Nat.le_of_ble_eq_true rfl), (Nat.le_of_ble_eq_true rfl)⟩ hl.1 rfl (by rfl) (by rfl) (Nat.le_of_ble_eq_true rfl) dX12_alike_2 ⟨Nat.zero_le _, Nat.zero_le _⟩ (fun H locs hz1 hG hS => ?_)
    refine lv_if_eq (tgt := 30) hx hb dX12_alike_5 (by decide) (fun c2 => ?_) (fun c2 => ?_)
    · have hf := zif_p c2 hf
      refine lv_iconst (v := (-1)) hx hb dX12_alike_30 (by decide) ?_
      obtain ⟨hq1, hq2⟩ := Prod.mk.inj (Option.some.inj hf)
      subst hq1
      subst hq2
      exact z_iret S hG hS hlocks trivial hr dX12_alike_31
    · have hf := zif_n c2 hf
      refine lv_aload_n hx hb dX12_alike_8 rfl (lv_at hl 0 rfl) ?_
      refine lv_iload_n hx hb dX12_alike_9 rfl (lv_at hl 2 rfl) ?_
      refine z_callV (n := 1) (rest := []) (st1 := [.int (f_X12_isScheme σ x2)]) (c0 := 12) (i0 := 0) (hZ.2.1 (12, 0) (by decide)) (by rfl) S hG hS hZ (fun _ _ h => h) (c_X12_isScheme l D aC zs A nl ad σ x2 (f_X12_isScheme σ x2) rfl) zw_837 zw_838 zw_839 zw_5 zw_840 (by decide +kernel) ⟨rfl, rfl⟩ ⟨(Nat.le_of_ble_eq_true rfl), (Nat.le_of_ble_eq_true rfl)⟩ hl.1 rfl (by rfl) (by rfl) (Nat.le_of_ble_eq_true rfl) dX12_alike_10 ⟨Nat.zero_le _, Nat.zero_le _⟩ (fun H locs hz3 hG hS => ?_)
      refine lv_if_eq (tgt := 30) hx hb dX12_alike_13 (by decide) (fun c4 => ?_) (fun c4 => ?_)
      · have hf := zif_p c4 hf
        refine lv_iconst (v := (-1)) hx hb dX12_alike_30 (by decide) ?_
        obtain ⟨hq1, hq2⟩ := Prod.mk.inj (Option.some.inj hf)
        subst hq1
        subst hq2
        exact z_iret S hG hS hlocks trivial hr dX12_alike_31
      · have hf := zif_n c4 hf
        refine lv_iload_n hx hb dX12_alike_16 rfl (lv_at hl 1 rfl) ?_
        refine lv_iload_n hx hb dX12_alike_17 rfl (lv_at hl 2 rfl) ?_
        refine lv_icmp_eq (tgt := 30) hx hb dX12_alike_18 (by decide) (fun c5 => ?_) (fun c5 => ?_)
        · have hf := zif_p c5 hf
          refine lv_iconst (v := (-1)) hx hb dX12_alike_30 (by decide) ?_
          obtain ⟨hq1, hq2⟩ := Prod.mk.inj (Option.some.inj hf)
          subst hq1
          subst hq2
          exact z_iret S hG hS hlocks trivial hr dX12_alike_31
        · have hf := zif_n c5 hf
          refine lv_aload_n hx hb dX12_alike_21 rfl (lv_at hl 0 rfl) ?_
          refine lv_iload_n hx hb dX12_alike_22 rfl (lv_at hl 1 rfl) ?_
          refine lv_iload_n hx hb dX12_alike_23 rfl (lv_at hl 2 rfl) ?_
          obtain ⟨q6, eq6, hf⟩ := zbi hf
          refine z_callV (n := 2) (rest := []) (st1 := [.int q6.1]) (c0 := 12) (i0 := 0) (hZ.2.1 (12, 0) (by decide)) (by rfl) S hG hS hZ (fun _ _ h => h) (c_X12_alikeOf l D aC zs A nl ad σ x1 x2 q6.1 q6.2 eq6) zw_1113 zw_1114 zw_1115 zw_5 zw_1116 (by decide +kernel) ⟨rfl, rfl⟩ ⟨(Nat.le_of_ble_eq_true rfl), (Nat.le_of_ble_eq_true rfl)⟩ hl.1 rfl (by rfl) (by rfl) (Nat.le_of_ble_eq_true rfl) dX12_alike_24 ⟨Nat.zero_le _, Nat.zero_le _⟩ (fun H locs hz7 hG hS => ?_)
          refine lv_goto (tgt := 31) hx hb dX12_alike_27 (by decide) ?_
          obtain ⟨hq1, hq2⟩ := Prod.mk.inj (Option.some.inj hf)
          subst hq1
          subst hq2
          exact z_iret S hG hS hlocks trivial hr dX12_alike_31
  exact hK0 _ _ ls hG hS hl hf
set_option maxRecDepth 100000 in
set_option maxHeartbeats 4000000 in
theorem c_X12_most (l : Launch) (D : va_G) (aC : Nat → ClassId) (zs : Nat × Nat) (A : Nat → Prop) (nl : zNL) (ad : Nat → Nat → Nat → Nat) (σ : zM) (x1 : Int32) (r : Int32) (σ' : zM)  (hf : f_X12_most σ x1 = some (r, σ')) : Met l yX12_most (Cond.code yX12_most cX12_most 8 (some .int) :: wsL_law) ({ frames := 2, cells := 0, slots := 0, locals := 51 } : Room) (zP D aC zs zfM A nl ad σ [.ref (ad 12 0 0), .int x1]) (zQ (some (.int r)) (fun t => zG D aC A nl ad σ' t t.heap ∧ True) A) 0 0 A := by
  refine Met.ofW (cc := cX12_most) (maxL := 8) (ret := (some .int)) (by decide) rfl ?_
  intro p e s m args below meth c s₁ B hml hv
  obtain ⟨rfl, hG, hZ⟩ := hv
  have hx := B.exec
  have hb := B.bytes
  have hr := B.returns
  have hts : ∀ w ∈ wsL_law, w.before ([.ref (ad 12 0 0), .int x1] : List Value).toArray s = true := fun w h => (atoms_spec B.pre) w (List.mem_cons_of_mem _ h)
  have hown : s.vm.findClass RX12 = some m.cls := findClass_of_methodNamed B.named
  have hlocks := B.notSynchronized
  have S : zS p m c cX12_most 8 s ([.ref (ad 12 0 0), .int x1] : List Value).toArray RX12 := ⟨hx, hb, hml, hown, hts⟩
  have hS : va_S A s.heap s.heap [] := va_S.rf
  have hl := lv_entry ([.ref (ad 12 0 0), .int x1]) (n := 8) (Nat.le_of_ble_eq_true rfl)
  rw [lg_entry_eq]
  generalize (lg_sl ([.ref (ad 12 0 0), .int x1]) ++ List.replicate (8 - (lg_sl ([.ref (ad 12 0 0), .int x1])).length) Slot.unset).toArray = ls at hl ⊢
  have hl : lv_has ls 8 [(0, .ref (ad 12 0 0)), (1, .int x1)] := hl
  generalize hargs : ([.ref (ad 12 0 0), .int x1] : List Value).toArray = args at S hts ⊢
  clear hargs
  have KJ94 : ∀ (y2b94 : Int32) (y3b94 : Int32) (y4b94 : Int32)  (σb94 : zM) (H : Heap) (locs : List Loc) (ls : Array Slot), zG D aC A nl ad σb94 s H → va_S A s.heap H locs → lv_has ls 8 [(0, .ref (ad 12 0 0)), (1, .int x1), (2, .int y2b94), (3, .int y3b94), (4, .int y4b94)] → (f_X12_most_B94 σb94 x1 y2b94 y3b94 y4b94) = some (r, σ') → zWk p l e ({ frames := 2, cells := 0, slots := 0, locals := 51 } : Room) s m args below meth c A (some (.int r)) (fun t => zG D aC A nl ad σ' t t.heap ∧ True) H locs (F0 m 94 ls []) := by
    intro y2b94 y3b94 y4b94  σb94 H locs ls hG hS hl hf
    unfold f_X12_most_B94 at hf
    refine lv_iload_n hx hb dX12_most_94 rfl (lv_at hl 1 rfl) ?_
    refine lv_if_ne (tgt := 102) hx hb dX12_most_95 (by decide) (fun c5 => ?_) (fun c5 => ?_)
    · have hf := zif_n c5 hf
      refine lv_iload_n hx hb dX12_most_102 rfl (lv_at hl 1 rfl) ?_
      refine lv_iconst (v := 1) hx hb dX12_most_103 (by decide) ?_
      refine lv_icmp_ne (tgt := 111) hx hb dX12_most_104 (by decide) (fun c6 => ?_) (fun c6 => ?_)
      · have hf := zif_n c6 hf
        refine lv_iload hx hb dX12_most_111 (lv_at hl 4 rfl) ?_
        obtain ⟨hq1, hq2⟩ := Prod.mk.inj (Option.some.inj hf)
        subst hq1
        subst hq2
        exact z_iret S hG hS hlocks trivial hr dX12_most_113
      · have hf := zif_p c6 hf
        refine lv_iload_n hx hb dX12_most_107 rfl (lv_at hl 3 rfl) ?_
        refine lv_goto (tgt := 113) hx hb dX12_most_108 (by decide) ?_
        obtain ⟨hq1, hq2⟩ := Prod.mk.inj (Option.some.inj hf)
        subst hq1
        subst hq2
        exact z_iret S hG hS hlocks trivial hr dX12_most_113
    · have hf := zif_p c5 hf
      refine lv_iload_n hx hb dX12_most_98 rfl (lv_at hl 2 rfl) ?_
      refine lv_goto (tgt := 113) hx hb dX12_most_99 (by decide) ?_
      obtain ⟨hq1, hq2⟩ := Prod.mk.inj (Option.some.inj hf)
      subst hq1
      subst hq2
      exact z_iret S hG hS hlocks trivial hr dX12_most_113
  have hK0 : ∀ (H : Heap) (locs : List Loc) (ls : Array Slot), zG D aC A nl ad σ s H → va_S A s.heap H locs → lv_has ls 8 [(0, .ref (ad 12 0 0)), (1, .int x1)] → f_X12_most σ x1 = some (r, σ') → zWk p l e ({ frames := 2, cells := 0, slots := 0, locals := 51 } : Room) s m args below meth c A (some (.int r)) (fun t => zG D aC A nl ad σ' t t.heap ∧ True) H locs (F0 m 0 ls []) := by
    intro H locs ls hG hS hl hf
    unfold f_X12_most at hf
    refine lv_aload_n hx hb dX12_most_0 rfl (lv_at hl 0 rfl) ?_
    refine z_get (c0 := 12) (i0 := 0) (k0 := 1) (T := TX12) (v := .int (zI σ 12 0 1)) S hG (hZ.2.1 (12, 0) (by decide)) rfl inlX12 (by decide) rfl zw_801 rfl dX12_most_1 ?_
    refine lv_iconst (v := 2) hx hb dX12_most_4 (by decide) ?_
    refine lv_icmp_lt (tgt := 17) hx hb dX12_most_5 (by decide) (fun c1 => ?_) (fun c1 => ?_)
    · have hf := zif_p c1 hf
      refine lv_iconst (v := (-1)) hx hb dX12_most_17 (by decide) ?_
      obtain ⟨hq1, hq2⟩ := Prod.mk.inj (Option.some.inj hf)
      subst hq1
      subst hq2
      exact z_iret S hG hS hlocks trivial hr dX12_most_18
    · have hf := zif_n c1 hf
      refine lv_iload_n hx hb dX12_most_8 rfl (lv_at hl 1 rfl) ?_
      refine lv_iconst (v := 0) hx hb dX12_most_9 (by decide) ?_
      refine lv_iconst (v := 2) hx hb dX12_most_10 (by decide) ?_
      refine z_callS (n := 3) (rest := []) (st1 := [.int (f_X12_isIn x1 0 2)]) S hG hS hZ (fun _ _ h => h) (c_X12_isIn l D aC zs A nl ad σ x1 0 2 (f_X12_isIn x1 0 2) rfl) zw_514 zw_515 zw_5 zw_516 (by decide +kernel) ⟨rfl, rfl⟩ ⟨(Nat.le_of_ble_eq_true rfl), (Nat.le_of_ble_eq_true rfl)⟩ hl.1 rfl (by rfl) (by rfl) (Nat.le_of_ble_eq_true rfl) dX12_most_11 ⟨Nat.zero_le _, Nat.zero_le _⟩ (fun H locs hz2 hG hS => ?_)
      refine lv_if_ne (tgt := 19) hx hb dX12_most_14 (by decide) (fun c3 => ?_) (fun c3 => ?_)
      · have hf := zif_n c3 hf
        refine lv_iconst (v := (-1)) hx hb dX12_most_19 (by decide) ?_
        refine lv_istore_n (lv' := [(2, .int (-1)), (0, .ref (ad 12 0 0)), (1, .int x1)]) hx hb dX12_most_20 rfl hl (by decide) rfl (fun ls hl => ?_)
        refine lv_iconst (v := (-1)) hx hb dX12_most_21 (by decide) ?_
        refine lv_istore_n (lv' := [(3, .int (-1)), (2, .int (-1)), (0, .ref (ad 12 0 0)), (1, .int x1)]) hx hb dX12_most_22 rfl hl (by decide) rfl (fun ls hl => ?_)
        refine lv_iconst (v := (-1)) hx hb dX12_most_23 (by decide) ?_
        refine lv_istore (lv' := [(4, .int (-1)), (3, .int (-1)), (2, .int (-1)), (0, .ref (ad 12 0 0)), (1, .int x1)]) hx hb dX12_most_24 hl (by decide) rfl (fun ls hl => ?_)
        refine lv_iconst (v := 0) hx hb dX12_most_26 (by decide) ?_
        refine lv_istore (lv' := [(5, .int 0), (4, .int (-1)), (3, .int (-1)), (2, .int (-1)), (0, .ref (ad 12 0 0)), (1, .int x1)]) hx hb dX12_most_27 hl (by decide) rfl (fun ls hl => ?_)
        obtain ⟨t29, hw29, hfo29⟩ := zbi hf
        have KL29 : ∀ (n : Nat) (y2l29 : Int32) (y3l29 : Int32) (y4l29 : Int32) (y5l29 : Int32) (σl29 : zM) (H : Heap) (locs : List Loc) (ls : Array Slot), zG D aC A nl ad σl29 s H → va_S A s.heap H locs → lv_has ls 8 [(0, .ref (ad 12 0 0)), (1, .int x1), (2, .int y2l29), (3, .int y3l29), (4, .int y4l29), (5, .int y5l29)] → zwh (fun (q : (Int32 × Int32 × Int32 × Int32 × zM)) => f_X12_most_L29 x1 q.1 q.2.1 q.2.2.1 q.2.2.2.1 q.2.2.2.2) n (y2l29, y3l29, y4l29, y5l29, σl29) = some t29 → zWk p l e ({ frames := 2, cells := 0, slots := 0, locals := 51 } : Room) s m args below meth c A (some (.int r)) (fun t => zG D aC A nl ad σ' t t.heap ∧ True) H locs (F0 m 29 ls []) := by
          intro n
          induction n with
          | zero =>
            intro y2l29 y3l29 y4l29 y5l29 σl29 H locs ls hG hS hl hw
            exact (zwh_0 hw).elim
          | succ n ih29 =>
            intro y2l29 y3l29 y4l29 y5l29 σl29 H locs ls hG hS hl hw
            obtain ⟨rr29, hf, hk29⟩ := zwh_u hw
            have hf : f_X12_most_L29 x1 y2l29 y3l29 y4l29 y5l29 σl29 = some rr29 := hf
            unfold f_X12_most_L29 at hf
            have KJ88_29 : ∀ (y2b88 : Int32) (y3b88 : Int32) (y4b88 : Int32) (y5b88 : Int32)  (σb88_29 : zM) (H : Heap) (locs : List Loc) (ls : Array Slot), zG D aC A nl ad σb88_29 s H → va_S A s.heap H locs → lv_has ls 8 [(0, .ref (ad 12 0 0)), (1, .int x1), (2, .int y2b88), (3, .int y3b88), (4, .int y4b88), (5, .int y5b88)] → (f_X12_most_B88_29 σb88_29 x1 y2b88 y3b88 y4b88 y5b88) = some rr29 → zWk p l e ({ frames := 2, cells := 0, slots := 0, locals := 51 } : Room) s m args below meth c A (some (.int r)) (fun t => zG D aC A nl ad σ' t t.heap ∧ True) H locs (F0 m 88 ls []) := by
              intro y2b88 y3b88 y4b88 y5b88  σb88_29 H locs ls hG hS hl hf
              unfold f_X12_most_B88_29 at hf
              refine lv_iinc (v := (y5b88 + 1)) (lv' := [(5, .int (y5b88 + 1)), (0, .ref (ad 12 0 0)), (1, .int x1), (2, .int y2b88), (3, .int y3b88), (4, .int y4b88)]) hx hb dX12_most_88 hl (k := 5) rfl rfl (by decide) rfl (fun ls hl => ?_)
              refine lv_goto (tgt := 29) hx hb dX12_most_91 (by decide) ?_
              cases hf
              exact ih29 y2b88 y3b88 y4b88 (y5b88 + 1) σb88_29 H locs ls hG hS (lv_sub hl [1, 2, 3, 4, 5, 0] rfl) hk29
            refine lv_iload hx hb dX12_most_29 (lv_at hl 5 rfl) ?_
            refine lv_aload_n hx hb dX12_most_31 rfl (lv_at hl 0 rfl) ?_
            refine z_get (c0 := 12) (i0 := 0) (k0 := 1) (T := TX12) (v := .int (zI σl29 12 0 1)) S hG (hZ.2.1 (12, 0) (by decide)) rfl inlX12 (by decide) rfl zw_801 rfl dX12_most_32 ?_
            refine lv_icmp_ge (tgt := 94) hx hb dX12_most_35 (by decide) (fun c15 => ?_) (fun c15 => ?_)
            · have hf := zif_p c15 hf
              cases hf
              have hk29 : ((y2l29, y3l29, y4l29, σl29) : (Int32 × Int32 × Int32 × zM)) = t29 := hk29
              have hf := hfo29
              rw [← hk29] at hf
              have hf : (f_X12_most_B94 σl29 x1 y2l29 y3l29 y4l29) = some (r, σ') := hf
              exact KJ94 y2l29 y3l29 y4l29 σl29 H locs ls hG hS (lv_sub hl [0, 1, 2, 3, 4] rfl) hf
            · have hf := zif_n c15 hf
              refine lv_iload hx hb dX12_most_38 (lv_at hl 5 rfl) ?_
              refine lv_iconst (v := 1) hx hb dX12_most_40 (by decide) ?_
              refine lv_iadd hx hb dX12_most_41 ?_
              refine lv_istore (lv' := [(6, .int (y5l29 + 1)), (0, .ref (ad 12 0 0)), (1, .int x1), (2, .int y2l29), (3, .int y3l29), (4, .int y4l29), (5, .int y5l29)]) hx hb dX12_most_42 hl (by decide) rfl (fun ls hl => ?_)
              obtain ⟨t44, hw44, hfo44⟩ := zbi hf
              have KL44 : ∀ (n : Nat) (y2l44 : Int32) (y3l44 : Int32) (y4l44 : Int32) (y6l44 : Int32) (σl44 : zM) (H : Heap) (locs : List Loc) (ls : Array Slot), zG D aC A nl ad σl44 s H → va_S A s.heap H locs → lv_has ls 8 [(0, .ref (ad 12 0 0)), (1, .int x1), (5, .int y5l29), (2, .int y2l44), (3, .int y3l44), (4, .int y4l44), (6, .int y6l44)] → zwh (fun (q : (Int32 × Int32 × Int32 × Int32 × zM)) => f_X12_most_L44 x1 y5l29 q.1 q.2.1 q.2.2.1 q.2.2.2.1 q.2.2.2.2) n (y2l44, y3l44, y4l44, y6l44, σl44) = some t44 → zWk p l e ({ frames := 2, cells := 0, slots := 0, locals := 51 } : Room) s m args below meth c A (some (.int r)) (fun t => zG D aC A nl ad σ' t t.heap ∧ True) H locs (F0 m 44 ls []) := by
                intro n
                induction n with
                | zero =>
                  intro y2l44 y3l44 y4l44 y6l44 σl44 H locs ls hG hS hl hw
                  exact (zwh_0 hw).elim
                | succ n ih44 =>
                  intro y2l44 y3l44 y4l44 y6l44 σl44 H locs ls hG hS hl hw
                  obtain ⟨rr44, hf, hk44⟩ := zwh_u hw
                  have hf : f_X12_most_L44 x1 y5l29 y2l44 y3l44 y4l44 y6l44 σl44 = some rr44 := hf
                  unfold f_X12_most_L44 at hf
                  have KJ82_44 : ∀ (y2b82 : Int32) (y3b82 : Int32) (y4b82 : Int32) (y6b82 : Int32)  (σb82_44 : zM) (H : Heap) (locs : List Loc) (ls : Array Slot), zG D aC A nl ad σb82_44 s H → va_S A s.heap H locs → lv_has ls 8 [(0, .ref (ad 12 0 0)), (1, .int x1), (2, .int y2b82), (3, .int y3b82), (4, .int y4b82), (5, .int y5l29), (6, .int y6b82)] → (f_X12_most_B82_44 σb82_44 x1 y2b82 y3b82 y4b82 y5l29 y6b82) = some rr44 → zWk p l e ({ frames := 2, cells := 0, slots := 0, locals := 51 } : Room) s m args below meth c A (some (.int r)) (fun t => zG D aC A nl ad σ' t t.heap ∧ True) H locs (F0 m 82 ls []) := by
                    intro y2b82 y3b82 y4b82 y6b82  σb82_44 H locs ls hG hS hl hf
                    unfold f_X12_most_B82_44 at hf
                    refine lv_iinc (v := (y6b82 + 1)) (lv' := [(6, .int (y6b82 + 1)), (0, .ref (ad 12 0 0)), (1, .int x1), (2, .int y2b82), (3, .int y3b82), (4, .int y4b82), (5, .int y5l29)]) hx hb dX12_most_82 hl (k := 6) rfl rfl (by decide) rfl (fun ls hl => ?_)
                    refine lv_goto (tgt := 44) hx hb dX12_most_85 (by decide) ?_
                    cases hf
                    exact ih44 y2b82 y3b82 y4b82 (y6b82 + 1) σb82_44 H locs ls hG hS (lv_sub hl [1, 2, 6, 3, 4, 5, 0] rfl) hk44
                  refine lv_iload hx hb dX12_most_44 (lv_at hl 6 rfl) ?_
                  refine lv_aload_n hx hb dX12_most_46 rfl (lv_at hl 0 rfl) ?_
                  refine z_get (c0 := 12) (i0 := 0) (k0 := 1) (T := TX12) (v := .int (zI σl44 12 0 1)) S hG (hZ.2.1 (12, 0) (by decide)) rfl inlX12 (by decide) rfl zw_801 rfl dX12_most_47 ?_
                  refine lv_icmp_ge (tgt := 88) hx hb dX12_most_50 (by decide) (fun c20 => ?_) (fun c20 => ?_)
                  · have hf := zif_p c20 hf
                    cases hf
                    have hk44 : ((y2l44, y3l44, y4l44, σl44) : (Int32 × Int32 × Int32 × zM)) = t44 := hk44
                    have hf := hfo44
                    rw [← hk44] at hf
                    have hf : (f_X12_most_B88_29 σl44 x1 y2l44 y3l44 y4l44 y5l29) = some rr29 := hf
                    exact KJ88_29 y2l44 y3l44 y4l44 y5l29 σl44 H locs ls hG hS (lv_sub hl [0, 1, 3, 4, 5, 2] rfl) hf
                  · have hf := zif_n c20 hf
                    refine lv_aload_n hx hb dX12_most_53 rfl (lv_at hl 0 rfl) ?_
                    refine lv_iload hx hb dX12_most_54 (lv_at hl 2 rfl) ?_
                    refine lv_iload hx hb dX12_most_56 (lv_at hl 6 rfl) ?_
                    obtain ⟨q21, eq21, hf⟩ := zbi hf
                    refine z_callV (n := 2) (rest := []) (st1 := [.int q21.1]) (c0 := 12) (i0 := 0) (hZ.2.1 (12, 0) (by decide)) (by rfl) S hG hS hZ (fun _ _ h => h) (c_X12_alikeOf l D aC zs A nl ad σl44 y5l29 y6l44 q21.1 q21.2 eq21) zw_1113 zw_1114 zw_1115 zw_5 zw_1116 (by decide +kernel) ⟨rfl, rfl⟩ ⟨(Nat.le_of_ble_eq_true rfl), (Nat.le_of_ble_eq_true rfl)⟩ hl.1 rfl (by rfl) (by rfl) (Nat.le_of_ble_eq_true rfl) dX12_most_58 ⟨Nat.zero_le _, Nat.zero_le _⟩ (fun H locs hz22 hG hS => ?_)
                    refine lv_istore (lv' := [(7, .int q21.1), (0, .ref (ad 12 0 0)), (1, .int x1), (5, .int y5l29), (2, .int y2l44), (3, .int y3l44), (4, .int y4l44), (6, .int y6l44)]) hx hb dX12_most_61 hl (by decide) rfl (fun ls hl => ?_)
                    refine lv_iload hx hb dX12_most_63 (lv_at hl 0 rfl) ?_
                    refine lv_iload_n hx hb dX12_most_65 rfl (lv_at hl 4 rfl) ?_
                    refine lv_icmp_gt (tgt := 72) hx hb dX12_most_66 (by decide) (fun c23 => ?_) (fun c23 => ?_)
                    · have hf := zif_p c23 hf
                      refine lv_iload hx hb dX12_most_72 (lv_at hl 0 rfl) ?_
                      refine lv_istore_n (lv' := [(2, .int q21.1), (7, .int q21.1), (0, .ref (ad 12 0 0)), (1, .int x1), (5, .int y5l29), (3, .int y3l44), (4, .int y4l44), (6, .int y6l44)]) hx hb dX12_most_74 rfl hl (by decide) rfl (fun ls hl => ?_)
                      refine lv_iload hx hb dX12_most_75 (lv_at hl 4 rfl) ?_
                      refine lv_istore_n (lv' := [(3, .int y5l29), (2, .int q21.1), (7, .int q21.1), (0, .ref (ad 12 0 0)), (1, .int x1), (5, .int y5l29), (4, .int y4l44), (6, .int y6l44)]) hx hb dX12_most_77 rfl hl (by decide) rfl (fun ls hl => ?_)
                      refine lv_iload hx hb dX12_most_78 (lv_at hl 7 rfl) ?_
                      refine lv_istore (lv' := [(4, .int y6l44), (3, .int y5l29), (2, .int q21.1), (7, .int q21.1), (0, .ref (ad 12 0 0)), (1, .int x1), (5, .int y5l29), (6, .int y6l44)]) hx hb dX12_most_80 hl (by decide) rfl (fun ls hl => ?_)
                      exact KJ82_44 q21.1 y5l29 y6l44 y6l44 q21.2 H locs ls hG hS (lv_sub hl [4, 5, 2, 1, 0, 6, 7] rfl) hf
                    · have hf := zif_n c23 hf
                      refine lv_goto (tgt := 82) hx hb dX12_most_69 (by decide) ?_
                      exact KJ82_44 y2l44 y3l44 y4l44 y6l44 q21.2 H locs ls hG hS (lv_sub hl [1, 2, 4, 5, 6, 3, 7] rfl) hf
              exact KL44 zFu y2l29 y3l29 y4l29 (y5l29 + 1) σl29 H locs ls hG hS (lv_sub hl [1, 2, 6, 3, 4, 5, 0] rfl) hw44
        exact KL29 zFu (-1) (-1) (-1) 0 σ H locs ls hG hS (lv_sub hl [4, 5, 3, 2, 1, 0] rfl) hw29
      · have hf := zif_p c3 hf
        refine lv_iconst (v := (-1)) hx hb dX12_most_17 (by decide) ?_
        obtain ⟨hq1, hq2⟩ := Prod.mk.inj (Option.some.inj hf)
        subst hq1
        subst hq2
        exact z_iret S hG hS hlocks trivial hr dX12_most_18
  exact hK0 _ _ ls hG hS hl hf
set_option maxRecDepth 100000 in
set_option maxHeartbeats 4000000 in
theorem c_X12_four (l : Launch) (D : va_G) (aC : Nat → ClassId) (zs : Nat × Nat) (A : Nat → Prop) (nl : zNL) (ad : Nat → Nat → Nat → Nat) (σ : zM) (x1 : Int32)  (σ' : zM)  (hf : f_X12_four σ x1 = some σ') : Met l yX12_four (Cond.code yX12_four cX12_four 3 none :: wsL_law) ({ frames := 0, cells := 0, slots := 0, locals := 0 } : Room) (zP D aC zs zfM A nl ad σ [.ref (ad 12 0 0), .int x1]) (zQ none (fun t => zG D aC A nl ad σ' t t.heap ∧ True) A) 0 0 A := by
  refine Met.ofW (cc := cX12_four) (maxL := 3) (ret := none) (by decide) rfl ?_
  intro p e s m args below meth c s₁ B hml hv
  obtain ⟨rfl, hG, hZ⟩ := hv
  have hx := B.exec
  have hb := B.bytes
  have hr := B.returns
  have hts : ∀ w ∈ wsL_law, w.before ([.ref (ad 12 0 0), .int x1] : List Value).toArray s = true := fun w h => (atoms_spec B.pre) w (List.mem_cons_of_mem _ h)
  have hown : s.vm.findClass RX12 = some m.cls := findClass_of_methodNamed B.named
  have hlocks := B.notSynchronized
  have S : zS p m c cX12_four 3 s ([.ref (ad 12 0 0), .int x1] : List Value).toArray RX12 := ⟨hx, hb, hml, hown, hts⟩
  have hS : va_S A s.heap s.heap [] := va_S.rf
  have hl := lv_entry ([.ref (ad 12 0 0), .int x1]) (n := 3) (Nat.le_of_ble_eq_true rfl)
  rw [lg_entry_eq]
  generalize (lg_sl ([.ref (ad 12 0 0), .int x1]) ++ List.replicate (3 - (lg_sl ([.ref (ad 12 0 0), .int x1])).length) Slot.unset).toArray = ls at hl ⊢
  have hl : lv_has ls 3 [(0, .ref (ad 12 0 0)), (1, .int x1)] := hl
  generalize hargs : ([.ref (ad 12 0 0), .int x1] : List Value).toArray = args at S hts ⊢
  clear hargs
  have hK0 : ∀ (H : Heap) (locs : List Loc) (ls : Array Slot), zG D aC A nl ad σ s H → va_S A s.heap H locs → lv_has ls 3 [(0, .ref (ad 12 0 0)), (1, .int x1)] → f_X12_four σ x1 = some σ' → zWk p l e ({ frames := 0, cells := 0, slots := 0, locals := 0 } : Room) s m args below meth c A none (fun t => zG D aC A nl ad σ' t t.heap ∧ True) H locs (F0 m 0 ls []) := by
    intro H locs ls hG hS hl hf
    unfold f_X12_four at hf
    refine lv_bipush (v := 24) hx hb dX12_four_0 (by decide) ?_
    refine lv_istore_n (lv' := [(2, .int 24), (0, .ref (ad 12 0 0)), (1, .int x1)]) hx hb dX12_four_2 rfl hl (by decide) rfl (fun ls hl => ?_)
    obtain ⟨t3, hw3, hfo3⟩ := zbi hf
    have KL3 : ∀ (n : Nat) (y2l3 : Int32) (σl3 : zM) (H : Heap) (locs : List Loc) (ls : Array Slot), zG D aC A nl ad σl3 s H → va_S A s.heap H locs → lv_has ls 3 [(0, .ref (ad 12 0 0)), (1, .int x1), (2, .int y2l3)] → zwh (fun (q : (Int32 × zM)) => f_X12_four_L3 x1 q.1 q.2) n (y2l3, σl3) = some t3 → zWk p l e ({ frames := 0, cells := 0, slots := 0, locals := 0 } : Room) s m args below meth c A none (fun t => zG D aC A nl ad σ' t t.heap ∧ True) H locs (F0 m 3 ls []) := by
      intro n
      induction n with
      | zero =>
        intro y2l3 σl3 H locs ls hG hS hl hw
        exact (zwh_0 hw).elim
      | succ n ih3 =>
        intro y2l3 σl3 H locs ls hG hS hl hw
        obtain ⟨rr3, hf, hk3⟩ := zwh_u hw
        have hf : f_X12_four_L3 x1 y2l3 σl3 = some rr3 := hf
        unfold f_X12_four_L3 at hf
        refine lv_iload_n hx hb dX12_four_3 rfl (lv_at hl 2 rfl) ?_
        refine lv_if_lt (tgt := 36) hx hb dX12_four_4 (by decide) (fun c5 => ?_) (fun c5 => ?_)
        · have hf := zif_p c5 hf
          cases hf
          have hk3 : (σl3 : zM) = t3 := hk3
          have hf := hfo3
          rw [← hk3] at hf
          have hf : (some σl3) = some σ' := hf
          have hq := (Option.some.inj hf)
          subst hq
          exact z_vret S hG hS hlocks trivial hr dX12_four_36
        · have hf := zif_n c5 hf
          refine lv_aload_n hx hb dX12_four_7 rfl (lv_at hl 0 rfl) ?_
          refine z_get (c0 := 12) (i0 := 0) (k0 := 38) (T := TX12) (v := .ref (ad 12 0 39)) S hG (hZ.2.1 (12, 0) (by decide)) rfl inlX12 (by decide) rfl zw_251 rfl dX12_four_8 ?_
          refine lv_aload_n hx hb dX12_four_11 rfl (lv_at hl 0 rfl) ?_
          refine z_get (c0 := 12) (i0 := 0) (k0 := 19) (T := TX12) (v := .int (zI σl3 12 0 19)) S hG (hZ.2.1 (12, 0) (by decide)) rfl inlX12 (by decide) rfl zw_296 rfl dX12_four_12 ?_
          refine lv_iload_n hx hb dX12_four_15 rfl (lv_at hl 1 rfl) ?_
          refine lv_iload_n hx hb dX12_four_16 rfl (lv_at hl 2 rfl) ?_
          refine lv_ishr hx hb dX12_four_17 ?_
          refine lv_i2b (v := (x1 >>> (y2l3 &&& 31)).toInt8.toInt32) hx hb dX12_four_18 rfl ?_
          obtain ⟨i6, hi6, hf⟩ := zbi hf
          refine z_bast (c0 := 12) (i0 := 0) (k0 := 38) S hG hS (hZ.2.1 (12, 0) (by decide)) (by decide) rfl hi6 dX12_four_19 (fun H locs hG hS => ?_)
          obtain ⟨σ7, eσ7, hf⟩ := zlt_s hf
          rw [← eσ7] at hG
          refine lv_aload_n hx hb dX12_four_20 rfl (lv_at hl 0 rfl) ?_
          refine lv_dup hx hb dX12_four_21 rfl ?_
          refine z_get (c0 := 12) (i0 := 0) (k0 := 19) (T := TX12) (v := .int (zI σ7 12 0 19)) S hG (hZ.2.1 (12, 0) (by decide)) rfl inlX12 (by decide) rfl zw_296 rfl dX12_four_22 ?_
          refine lv_iconst (v := 1) hx hb dX12_four_25 (by decide) ?_
          refine lv_iadd hx hb dX12_four_26 ?_
          refine z_putI (c0 := 12) (i0 := 0) (k0 := 19) (T := TX12) S hG hS tyX12 tyX12_ok nmX12 (hZ.2.1 (12, 0) (by decide)) rfl inlX12 (by decide) rfl rfl zw_296 (by decide +kernel) rfl dX12_four_27 (fun H locs hG hS => ?_)
          obtain ⟨σ8, eσ8, hf⟩ := zlt_s hf
          rw [← eσ8] at hG
          refine lv_iinc (v := (y2l3 + (-8))) (lv' := [(2, .int (y2l3 + (-8))), (0, .ref (ad 12 0 0)), (1, .int x1)]) hx hb dX12_four_30 hl (k := 2) rfl rfl (by decide) rfl (fun ls hl => ?_)
          refine lv_goto (tgt := 3) hx hb dX12_four_33 (by decide) ?_
          cases hf
          exact ih3 (y2l3 + (-8)) σ8 H locs ls hG hS (lv_sub hl [1, 2, 0] rfl) hk3
    exact KL3 zFu 24 σ H locs ls hG hS (lv_sub hl [1, 2, 0] rfl) hw3
  exact hK0 _ _ ls hG hS hl hf
set_option maxRecDepth 100000 in
set_option maxHeartbeats 4000000 in
theorem c_X12_feed (l : Launch) (D : va_G) (aC : Nat → ClassId) (zs : Nat × Nat) (A : Nat → Prop) (nl : zNL) (ad : Nat → Nat → Nat → Nat) (σ : zM) (x1 : Int32) (x2 : Int32) (x3 : Int32) (x4 : Int32) (x5 : Int32) (r : Int32) (σ' : zM)  (hf : f_X12_feed σ x1 x2 x3 x4 x5 = some (r, σ')) : Met l yX12_feed (Cond.code yX12_feed cX12_feed 6 (some .int) :: wsL_law) ({ frames := 1, cells := 0, slots := 0, locals := 22 } : Room) (zP D aC zs zfM A nl ad σ [.ref (ad 12 0 0), .int x1, .int x2, .int x3, .int x4, .int x5]) (zQ (some (.int r)) (fun t => zG D aC A nl ad σ' t t.heap ∧ True) A) 0 0 A := by
  refine Met.ofW (cc := cX12_feed) (maxL := 6) (ret := (some .int)) (by decide) rfl ?_
  intro p e s m args below meth c s₁ B hml hv
  obtain ⟨rfl, hG, hZ⟩ := hv
  have hx := B.exec
  have hb := B.bytes
  have hr := B.returns
  have hts : ∀ w ∈ wsL_law, w.before ([.ref (ad 12 0 0), .int x1, .int x2, .int x3, .int x4, .int x5] : List Value).toArray s = true := fun w h => (atoms_spec B.pre) w (List.mem_cons_of_mem _ h)
  have hown : s.vm.findClass RX12 = some m.cls := findClass_of_methodNamed B.named
  have hlocks := B.notSynchronized
  have S : zS p m c cX12_feed 6 s ([.ref (ad 12 0 0), .int x1, .int x2, .int x3, .int x4, .int x5] : List Value).toArray RX12 := ⟨hx, hb, hml, hown, hts⟩
  have hS : va_S A s.heap s.heap [] := va_S.rf
  have hl := lv_entry ([.ref (ad 12 0 0), .int x1, .int x2, .int x3, .int x4, .int x5]) (n := 6) (Nat.le_of_ble_eq_true rfl)
  rw [lg_entry_eq]
  generalize (lg_sl ([.ref (ad 12 0 0), .int x1, .int x2, .int x3, .int x4, .int x5]) ++ List.replicate (6 - (lg_sl ([.ref (ad 12 0 0), .int x1, .int x2, .int x3, .int x4, .int x5])).length) Slot.unset).toArray = ls at hl ⊢
  have hl : lv_has ls 6 [(0, .ref (ad 12 0 0)), (1, .int x1), (2, .int x2), (3, .int x3), (4, .int x4), (5, .int x5)] := hl
  generalize hargs : ([.ref (ad 12 0 0), .int x1, .int x2, .int x3, .int x4, .int x5] : List Value).toArray = args at S hts ⊢
  clear hargs
  have hK0 : ∀ (H : Heap) (locs : List Loc) (ls : Array Slot), zG D aC A nl ad σ s H → va_S A s.heap H locs → lv_has ls 6 [(0, .ref (ad 12 0 0)), (1, .int x1), (2, .int x2), (3, .int x3), (4, .int x4), (5, .int x5)] → f_X12_feed σ x1 x2 x3 x4 x5 = some (r, σ') → zWk p l e ({ frames := 1, cells := 0, slots := 0, locals := 22 } : Room) s m args below meth c A (some (.int r)) (fun t => zG D aC A nl ad σ' t t.heap ∧ True) H locs (F0 m 0 ls []) := by
    intro H locs ls hG hS hl hf
    unfold f_X12_feed at hf
    refine lv_aload_n hx hb dX12_feed_0 rfl (lv_at hl 0 rfl) ?_
    refine z_get (c0 := 12) (i0 := 0) (k0 := 19) (T := TX12) (v := .int (zI σ 12 0 19)) S hG (hZ.2.1 (12, 0) (by decide)) rfl inlX12 (by decide) rfl zw_296 rfl dX12_feed_1 ?_
    refine lv_bipush (v := 20) hx hb dX12_feed_4 (by decide) ?_
    refine lv_iadd hx hb dX12_feed_6 ?_
    refine lv_sipush (v := 900) hx hb dX12_feed_7 (by decide) ?_
    refine lv_icmp_le (tgt := 15) hx hb dX12_feed_10 (by decide) (fun c1 => ?_) (fun c1 => ?_)
    · have hf := zif_p c1 hf
      refine lv_aload_n hx hb dX12_feed_15 rfl (lv_at hl 0 rfl) ?_
      refine lv_iload_n hx hb dX12_feed_16 rfl (lv_at hl 1 rfl) ?_
      obtain ⟨σ2, eσ2, hf⟩ := zbi hf
      refine z_callV (n := 1) (rest := []) (st1 := []) (c0 := 12) (i0 := 0) (hZ.2.1 (12, 0) (by decide)) (by rfl) S hG hS hZ (fun _ _ h => h) (c_X12_four l D aC zs A nl ad σ x1 σ2 eσ2) zw_297 zw_298 zw_299 zw_5 zw_300 (by decide +kernel) ⟨rfl, rfl⟩ ⟨(Nat.le_of_ble_eq_true rfl), (Nat.le_of_ble_eq_true rfl)⟩ hl.1 rfl (by rfl) (by rfl) (Nat.le_of_ble_eq_true rfl) dX12_feed_17 ⟨Nat.zero_le _, Nat.zero_le _⟩ (fun H locs hz3 hG hS => ?_)
      refine lv_aload_n hx hb dX12_feed_20 rfl (lv_at hl 0 rfl) ?_
      refine lv_iload_n hx hb dX12_feed_21 rfl (lv_at hl 2 rfl) ?_
      obtain ⟨σ4, eσ4, hf⟩ := zbi hf
      refine z_callV (n := 1) (rest := []) (st1 := []) (c0 := 12) (i0 := 0) (hZ.2.1 (12, 0) (by decide)) (by rfl) S hG hS hZ (fun _ _ h => h) (c_X12_four l D aC zs A nl ad σ2 x2 σ4 eσ4) zw_297 zw_298 zw_299 zw_5 zw_300 (by decide +kernel) ⟨rfl, rfl⟩ ⟨(Nat.le_of_ble_eq_true rfl), (Nat.le_of_ble_eq_true rfl)⟩ hl.1 rfl (by rfl) (by rfl) (Nat.le_of_ble_eq_true rfl) dX12_feed_22 ⟨Nat.zero_le _, Nat.zero_le _⟩ (fun H locs hz5 hG hS => ?_)
      refine lv_aload_n hx hb dX12_feed_25 rfl (lv_at hl 0 rfl) ?_
      refine lv_iload_n hx hb dX12_feed_26 rfl (lv_at hl 3 rfl) ?_
      obtain ⟨σ6, eσ6, hf⟩ := zbi hf
      refine z_callV (n := 1) (rest := []) (st1 := []) (c0 := 12) (i0 := 0) (hZ.2.1 (12, 0) (by decide)) (by rfl) S hG hS hZ (fun _ _ h => h) (c_X12_four l D aC zs A nl ad σ4 x3 σ6 eσ6) zw_297 zw_298 zw_299 zw_5 zw_300 (by decide +kernel) ⟨rfl, rfl⟩ ⟨(Nat.le_of_ble_eq_true rfl), (Nat.le_of_ble_eq_true rfl)⟩ hl.1 rfl (by rfl) (by rfl) (Nat.le_of_ble_eq_true rfl) dX12_feed_27 ⟨Nat.zero_le _, Nat.zero_le _⟩ (fun H locs hz7 hG hS => ?_)
      refine lv_aload_n hx hb dX12_feed_30 rfl (lv_at hl 0 rfl) ?_
      refine lv_iload hx hb dX12_feed_31 (lv_at hl 4 rfl) ?_
      obtain ⟨σ8, eσ8, hf⟩ := zbi hf
      refine z_callV (n := 1) (rest := []) (st1 := []) (c0 := 12) (i0 := 0) (hZ.2.1 (12, 0) (by decide)) (by rfl) S hG hS hZ (fun _ _ h => h) (c_X12_four l D aC zs A nl ad σ6 x4 σ8 eσ8) zw_297 zw_298 zw_299 zw_5 zw_300 (by decide +kernel) ⟨rfl, rfl⟩ ⟨(Nat.le_of_ble_eq_true rfl), (Nat.le_of_ble_eq_true rfl)⟩ hl.1 rfl (by rfl) (by rfl) (Nat.le_of_ble_eq_true rfl) dX12_feed_33 ⟨Nat.zero_le _, Nat.zero_le _⟩ (fun H locs hz9 hG hS => ?_)
      refine lv_aload_n hx hb dX12_feed_36 rfl (lv_at hl 0 rfl) ?_
      refine lv_iload hx hb dX12_feed_37 (lv_at hl 5 rfl) ?_
      obtain ⟨σ10, eσ10, hf⟩ := zbi hf
      refine z_callV (n := 1) (rest := []) (st1 := []) (c0 := 12) (i0 := 0) (hZ.2.1 (12, 0) (by decide)) (by rfl) S hG hS hZ (fun _ _ h => h) (c_X12_four l D aC zs A nl ad σ8 x5 σ10 eσ10) zw_297 zw_298 zw_299 zw_5 zw_300 (by decide +kernel) ⟨rfl, rfl⟩ ⟨(Nat.le_of_ble_eq_true rfl), (Nat.le_of_ble_eq_true rfl)⟩ hl.1 rfl (by rfl) (by rfl) (Nat.le_of_ble_eq_true rfl) dX12_feed_39 ⟨Nat.zero_le _, Nat.zero_le _⟩ (fun H locs hz11 hG hS => ?_)
      refine lv_aload_n hx hb dX12_feed_42 rfl (lv_at hl 0 rfl) ?_
      refine z_get (c0 := 12) (i0 := 0) (k0 := 19) (T := TX12) (v := .int (zI σ10 12 0 19)) S hG (hZ.2.1 (12, 0) (by decide)) rfl inlX12 (by decide) rfl zw_296 rfl dX12_feed_43 ?_
      obtain ⟨hq1, hq2⟩ := Prod.mk.inj (Option.some.inj hf)
      subst hq1
      subst hq2
      exact z_iret S hG hS hlocks trivial hr dX12_feed_46
    · have hf := zif_n c1 hf
      refine lv_iconst (v := (-1)) hx hb dX12_feed_13 (by decide) ?_
      obtain ⟨hq1, hq2⟩ := Prod.mk.inj (Option.some.inj hf)
      subst hq1
      subst hq2
      exact z_iret S hG hS hlocks trivial hr dX12_feed_14
  exact hK0 _ _ ls hG hS hl hf
set_option maxRecDepth 100000 in
set_option maxHeartbeats 4000000 in
theorem c_X12_takesText (l : Launch) (D : va_G) (aC : Nat → ClassId) (zs : Nat × Nat) (A : Nat → Prop) (nl : zNL) (ad : Nat → Nat → Nat → Nat) (σ : zM) (x1 : Int32)  (σ' : zM)  (hf : f_X12_takesText σ x1 = some σ') : Met l yX12_takesText (Cond.code yX12_takesText cX12_takesText 3 none :: wsL_law) ({ frames := 0, cells := 0, slots := 0, locals := 0 } : Room) (zP D aC zs zfM A nl ad σ [.ref (ad 12 0 0), .int x1]) (zQ none (fun t => zG D aC A nl ad σ' t t.heap ∧ True) A) 0 0 A := by
  refine Met.ofW (cc := cX12_takesText) (maxL := 3) (ret := none) (by decide) rfl ?_
  intro p e s m args below meth c s₁ B hml hv
  obtain ⟨rfl, hG, hZ⟩ := hv
  have hx := B.exec
  have hb := B.bytes
  have hr := B.returns
  have hts : ∀ w ∈ wsL_law, w.before ([.ref (ad 12 0 0), .int x1] : List Value).toArray s = true := fun w h => (atoms_spec B.pre) w (List.mem_cons_of_mem _ h)
  have hown : s.vm.findClass RX12 = some m.cls := findClass_of_methodNamed B.named
  have hlocks := B.notSynchronized
  have S : zS p m c cX12_takesText 3 s ([.ref (ad 12 0 0), .int x1] : List Value).toArray RX12 := ⟨hx, hb, hml, hown, hts⟩
  have hS : va_S A s.heap s.heap [] := va_S.rf
  have hl := lv_entry ([.ref (ad 12 0 0), .int x1]) (n := 3) (Nat.le_of_ble_eq_true rfl)
  rw [lg_entry_eq]
  generalize (lg_sl ([.ref (ad 12 0 0), .int x1]) ++ List.replicate (3 - (lg_sl ([.ref (ad 12 0 0), .int x1])).length) Slot.unset).toArray = ls at hl ⊢
  have hl : lv_has ls 3 [(0, .ref (ad 12 0 0)), (1, .int x1)] := hl
  generalize hargs : ([.ref (ad 12 0 0), .int x1] : List Value).toArray = args at S hts ⊢
  clear hargs
  have KJ25 : ∀ (σb25 : zM) (H : Heap) (locs : List Loc) (ls : Array Slot), zG D aC A nl ad σb25 s H → va_S A s.heap H locs → lv_has ls 3 [(0, .ref (ad 12 0 0)), (1, .int x1)] → (f_X12_takesText_B25 σb25 x1) = some σ' → zWk p l e ({ frames := 0, cells := 0, slots := 0, locals := 0 } : Room) s m args below meth c A none (fun t => zG D aC A nl ad σ' t t.heap ∧ True) H locs (F0 m 25 ls []) := by
    intro   σb25 H locs ls hG hS hl hf
    unfold f_X12_takesText_B25 at hf
    refine lv_aload_n hx hb dX12_takesText_25 rfl (lv_at hl 0 rfl) ?_
    refine lv_iload_n hx hb dX12_takesText_26 rfl (lv_at hl 1 rfl) ?_
    refine z_putI (c0 := 12) (i0 := 0) (k0 := 20) (T := TX12) S hG hS tyX12 tyX12_ok nmX12 (hZ.2.1 (12, 0) (by decide)) rfl inlX12 (by decide) rfl rfl zw_513 (by decide +kernel) rfl dX12_takesText_27 (fun H locs hG hS => ?_)
    obtain ⟨σ2, eσ2, hf⟩ := zlt_s hf
    rw [← eσ2] at hG
    refine lv_aload_n hx hb dX12_takesText_30 rfl (lv_at hl 0 rfl) ?_
    refine lv_iconst (v := 0) hx hb dX12_takesText_31 (by decide) ?_
    refine z_putI (c0 := 12) (i0 := 0) (k0 := 19) (T := TX12) S hG hS tyX12 tyX12_ok nmX12 (hZ.2.1 (12, 0) (by decide)) rfl inlX12 (by decide) rfl rfl zw_296 (by decide +kernel) rfl dX12_takesText_32 (fun H locs hG hS => ?_)
    obtain ⟨σ3, eσ3, hf⟩ := zlt_s hf
    rw [← eσ3] at hG
    refine lv_aload_n hx hb dX12_takesText_35 rfl (lv_at hl 0 rfl) ?_
    refine lv_iconst (v := 0) hx hb dX12_takesText_36 (by decide) ?_
    refine z_putI (c0 := 12) (i0 := 0) (k0 := 21) (T := TX12) S hG hS tyX12 tyX12_ok nmX12 (hZ.2.1 (12, 0) (by decide)) rfl inlX12 (by decide) rfl rfl zw_512 (by decide +kernel) rfl dX12_takesText_37 (fun H locs hG hS => ?_)
    obtain ⟨σ4, eσ4, hf⟩ := zlt_s hf
    rw [← eσ4] at hG
    have hq := (Option.some.inj hf)
    subst hq
    exact z_vret S hG hS hlocks trivial hr dX12_takesText_40
  have hK0 : ∀ (H : Heap) (locs : List Loc) (ls : Array Slot), zG D aC A nl ad σ s H → va_S A s.heap H locs → lv_has ls 3 [(0, .ref (ad 12 0 0)), (1, .int x1)] → f_X12_takesText σ x1 = some σ' → zWk p l e ({ frames := 0, cells := 0, slots := 0, locals := 0 } : Room) s m args below meth c A none (fun t => zG D aC A nl ad σ' t t.heap ∧ True) H locs (F0 m 0 ls []) := by
    intro H locs ls hG hS hl hf
    unfold f_X12_takesText at hf
    refine lv_iconst (v := 0) hx hb dX12_takesText_0 (by decide) ?_
    refine lv_istore_n (lv' := [(2, .int 0), (0, .ref (ad 12 0 0)), (1, .int x1)]) hx hb dX12_takesText_1 rfl hl (by decide) rfl (fun ls hl => ?_)
    obtain ⟨t2, hw2, hfo2⟩ := zbi hf
    have KL2 : ∀ (n : Nat) (y2l2 : Int32) (σl2 : zM) (H : Heap) (locs : List Loc) (ls : Array Slot), zG D aC A nl ad σl2 s H → va_S A s.heap H locs → lv_has ls 3 [(0, .ref (ad 12 0 0)), (1, .int x1), (2, .int y2l2)] → zwh (fun (q : (Int32 × zM)) => f_X12_takesText_L2 x1 q.1 q.2) n (y2l2, σl2) = some t2 → zWk p l e ({ frames := 0, cells := 0, slots := 0, locals := 0 } : Room) s m args below meth c A none (fun t => zG D aC A nl ad σ' t t.heap ∧ True) H locs (F0 m 2 ls []) := by
      intro n
      induction n with
      | zero =>
        intro y2l2 σl2 H locs ls hG hS hl hw
        exact (zwh_0 hw).elim
      | succ n ih2 =>
        intro y2l2 σl2 H locs ls hG hS hl hw
        obtain ⟨rr2, hf, hk2⟩ := zwh_u hw
        have hf : f_X12_takesText_L2 x1 y2l2 σl2 = some rr2 := hf
        unfold f_X12_takesText_L2 at hf
        refine lv_iload_n hx hb dX12_takesText_2 rfl (lv_at hl 2 rfl) ?_
        refine lv_iload_n hx hb dX12_takesText_3 rfl (lv_at hl 1 rfl) ?_
        refine lv_icmp_ge (tgt := 25) hx hb dX12_takesText_4 (by decide) (fun c8 => ?_) (fun c8 => ?_)
        · have hf := zif_p c8 hf
          cases hf
          have hk2 : (σl2 : zM) = t2 := hk2
          have hf := hfo2
          rw [← hk2] at hf
          have hf : (f_X12_takesText_B25 σl2 x1) = some σ' := hf
          exact KJ25 σl2 H locs ls hG hS (lv_sub hl [0, 1] rfl) hf
        · have hf := zif_n c8 hf
          refine lv_aload_n hx hb dX12_takesText_7 rfl (lv_at hl 0 rfl) ?_
          refine z_get (c0 := 12) (i0 := 0) (k0 := 39) (T := TX12) (v := .ref (ad 12 0 40)) S hG (hZ.2.1 (12, 0) (by decide)) rfl inlX12 (by decide) rfl zw_252 rfl dX12_takesText_8 ?_
          refine lv_iload_n hx hb dX12_takesText_11 rfl (lv_at hl 2 rfl) ?_
          refine lv_aload_n hx hb dX12_takesText_12 rfl (lv_at hl 0 rfl) ?_
          refine z_get (c0 := 12) (i0 := 0) (k0 := 38) (T := TX12) (v := .ref (ad 12 0 39)) S hG (hZ.2.1 (12, 0) (by decide)) rfl inlX12 (by decide) rfl zw_251 rfl dX12_takesText_13 ?_
          refine lv_iload_n hx hb dX12_takesText_16 rfl (lv_at hl 2 rfl) ?_
          obtain ⟨i9, hi9, hf⟩ := zbi hf
          refine z_bald (c0 := 12) (i0 := 0) (k0 := 38) S hG (hZ.2.1 (12, 0) (by decide)) (by decide) rfl hi9 dX12_takesText_17 ?_
          obtain ⟨i10, hi10, hf⟩ := zbi hf
          refine z_bast (c0 := 12) (i0 := 0) (k0 := 39) S hG hS (hZ.2.1 (12, 0) (by decide)) (by decide) rfl hi10 dX12_takesText_18 (fun H locs hG hS => ?_)
          obtain ⟨σ11, eσ11, hf⟩ := zlt_s hf
          rw [← eσ11] at hG
          refine lv_iinc (v := (y2l2 + 1)) (lv' := [(2, .int (y2l2 + 1)), (0, .ref (ad 12 0 0)), (1, .int x1)]) hx hb dX12_takesText_19 hl (k := 2) rfl rfl (by decide) rfl (fun ls hl => ?_)
          refine lv_goto (tgt := 2) hx hb dX12_takesText_22 (by decide) ?_
          cases hf
          exact ih2 (y2l2 + 1) σ11 H locs ls hG hS (lv_sub hl [1, 2, 0] rfl) hk2
    exact KL2 zFu 0 σ H locs ls hG hS (lv_sub hl [1, 2, 0] rfl) hw2
  exact hK0 _ _ ls hG hS hl hf
set_option maxRecDepth 100000 in
set_option maxHeartbeats 4000000 in
theorem c_X12_blanks (l : Launch) (D : va_G) (aC : Nat → ClassId) (zs : Nat × Nat) (A : Nat → Prop) (nl : zNL) (ad : Nat → Nat → Nat → Nat) (σ : zM)   (σ' : zM)  (hf : f_X12_blanks σ = some σ') : Met l yX12_blanks (Cond.code yX12_blanks cX12_blanks 1 none :: wsL_law) ({ frames := 0, cells := 0, slots := 0, locals := 0 } : Room) (zP D aC zs zfM A nl ad σ [.ref (ad 12 0 0)]) (zQ none (fun t => zG D aC A nl ad σ' t t.heap ∧ True) A) 0 0 A := by
  refine Met.ofW (cc := cX12_blanks) (maxL := 1) (ret := none) (by decide) rfl ?_
  intro p e s m args below meth c s₁ B hml hv
  obtain ⟨rfl, hG, hZ⟩ := hv
  have hx := B.exec
  have hb := B.bytes
  have hr := B.returns
  have hts : ∀ w ∈ wsL_law, w.before ([.ref (ad 12 0 0)] : List Value).toArray s = true := fun w h => (atoms_spec B.pre) w (List.mem_cons_of_mem _ h)
  have hown : s.vm.findClass RX12 = some m.cls := findClass_of_methodNamed B.named
  have hlocks := B.notSynchronized
  have S : zS p m c cX12_blanks 1 s ([.ref (ad 12 0 0)] : List Value).toArray RX12 := ⟨hx, hb, hml, hown, hts⟩
  have hS : va_S A s.heap s.heap [] := va_S.rf
  have hl := lv_entry ([.ref (ad 12 0 0)]) (n := 1) (Nat.le_of_ble_eq_true rfl)
  rw [lg_entry_eq]
  generalize (lg_sl ([.ref (ad 12 0 0)]) ++ List.replicate (1 - (lg_sl ([.ref (ad 12 0 0)])).length) Slot.unset).toArray = ls at hl ⊢
  have hl : lv_has ls 1 [(0, .ref (ad 12 0 0))] := hl
  generalize hargs : ([.ref (ad 12 0 0)] : List Value).toArray = args at S hts ⊢
  clear hargs
  have hK0 : ∀ (H : Heap) (locs : List Loc) (ls : Array Slot), zG D aC A nl ad σ s H → va_S A s.heap H locs → lv_has ls 1 [(0, .ref (ad 12 0 0))] → f_X12_blanks σ = some σ' → zWk p l e ({ frames := 0, cells := 0, slots := 0, locals := 0 } : Room) s m args below meth c A none (fun t => zG D aC A nl ad σ' t t.heap ∧ True) H locs (F0 m 0 ls []) := by
    intro H locs ls hG hS hl hf
    unfold f_X12_blanks at hf
    obtain ⟨t0, hw0, hfo0⟩ := zbi hf
    have KL0 : ∀ (n : Nat)  (σl0 : zM) (H : Heap) (locs : List Loc) (ls : Array Slot), zG D aC A nl ad σl0 s H → va_S A s.heap H locs → lv_has ls 1 [(0, .ref (ad 12 0 0))] → zwh (fun (q : zM) => f_X12_blanks_L0 q) n σl0 = some t0 → zWk p l e ({ frames := 0, cells := 0, slots := 0, locals := 0 } : Room) s m args below meth c A none (fun t => zG D aC A nl ad σ' t t.heap ∧ True) H locs (F0 m 0 ls []) := by
      intro n
      induction n with
      | zero =>
        intro  σl0 H locs ls hG hS hl hw
        exact (zwh_0 hw).elim
      | succ n ih0 =>
        intro  σl0 H locs ls hG hS hl hw
        obtain ⟨rr0, hf, hk0⟩ := zwh_u hw
        have hf : f_X12_blanks_L0 σl0 = some rr0 := hf
        unfold f_X12_blanks_L0 at hf
        have KJ39_0 : ∀ (σb39_0 : zM) (H : Heap) (locs : List Loc) (ls : Array Slot), zG D aC A nl ad σb39_0 s H → va_S A s.heap H locs → lv_has ls 1 [(0, .ref (ad 12 0 0))] → (f_X12_blanks_B39_0 σb39_0) = some rr0 → zWk p l e ({ frames := 0, cells := 0, slots := 0, locals := 0 } : Room) s m args below meth c A none (fun t => zG D aC A nl ad σ' t t.heap ∧ True) H locs (F0 m 39 ls []) := by
          intro   σb39_0 H locs ls hG hS hl hf
          unfold f_X12_blanks_B39_0 at hf
          refine lv_aload_n hx hb dX12_blanks_39 rfl (lv_at hl 0 rfl) ?_
          refine lv_dup hx hb dX12_blanks_40 rfl ?_
          refine z_get (c0 := 12) (i0 := 0) (k0 := 21) (T := TX12) (v := .int (zI σb39_0 12 0 21)) S hG (hZ.2.1 (12, 0) (by decide)) rfl inlX12 (by decide) rfl zw_512 rfl dX12_blanks_41 ?_
          refine lv_iconst (v := 1) hx hb dX12_blanks_44 (by decide) ?_
          refine lv_iadd hx hb dX12_blanks_45 ?_
          refine z_putI (c0 := 12) (i0 := 0) (k0 := 21) (T := TX12) S hG hS tyX12 tyX12_ok nmX12 (hZ.2.1 (12, 0) (by decide)) rfl inlX12 (by decide) rfl rfl zw_512 (by decide +kernel) rfl dX12_blanks_46 (fun H locs hG hS => ?_)
          obtain ⟨σ10, eσ10, hf⟩ := zlt_s hf
          rw [← eσ10] at hG
          refine lv_goto (tgt := 0) hx hb dX12_blanks_49 (by decide) ?_
          cases hf
          exact ih0 σ10 H locs ls hG hS (lv_sub hl [0] rfl) hk0
        refine lv_aload_n hx hb dX12_blanks_0 rfl (lv_at hl 0 rfl) ?_
        refine z_get (c0 := 12) (i0 := 0) (k0 := 21) (T := TX12) (v := .int (zI σl0 12 0 21)) S hG (hZ.2.1 (12, 0) (by decide)) rfl inlX12 (by decide) rfl zw_512 rfl dX12_blanks_1 ?_
        refine lv_aload_n hx hb dX12_blanks_4 rfl (lv_at hl 0 rfl) ?_
        refine z_get (c0 := 12) (i0 := 0) (k0 := 20) (T := TX12) (v := .int (zI σl0 12 0 20)) S hG (hZ.2.1 (12, 0) (by decide)) rfl inlX12 (by decide) rfl zw_513 rfl dX12_blanks_5 ?_
        refine lv_icmp_ge (tgt := 52) hx hb dX12_blanks_8 (by decide) (fun c7 => ?_) (fun c7 => ?_)
        · have hf := zif_p c7 hf
          cases hf
          have hk0 : (σl0 : zM) = t0 := hk0
          have hf := hfo0
          rw [← hk0] at hf
          have hf : (some σl0) = some σ' := hf
          have hq := (Option.some.inj hf)
          subst hq
          exact z_vret S hG hS hlocks trivial hr dX12_blanks_52
        · have hf := zif_n c7 hf
          refine lv_aload_n hx hb dX12_blanks_11 rfl (lv_at hl 0 rfl) ?_
          refine z_get (c0 := 12) (i0 := 0) (k0 := 39) (T := TX12) (v := .ref (ad 12 0 40)) S hG (hZ.2.1 (12, 0) (by decide)) rfl inlX12 (by decide) rfl zw_252 rfl dX12_blanks_12 ?_
          refine lv_aload_n hx hb dX12_blanks_15 rfl (lv_at hl 0 rfl) ?_
          refine z_get (c0 := 12) (i0 := 0) (k0 := 21) (T := TX12) (v := .int (zI σl0 12 0 21)) S hG (hZ.2.1 (12, 0) (by decide)) rfl inlX12 (by decide) rfl zw_512 rfl dX12_blanks_16 ?_
          obtain ⟨i8, hi8, hf⟩ := zbi hf
          refine z_bald (c0 := 12) (i0 := 0) (k0 := 39) S hG (hZ.2.1 (12, 0) (by decide)) (by decide) rfl hi8 dX12_blanks_19 ?_
          refine lv_bipush (v := 32) hx hb dX12_blanks_20 (by decide) ?_
          refine lv_icmp_eq (tgt := 39) hx hb dX12_blanks_22 (by decide) (fun c9 => ?_) (fun c9 => ?_)
          · have hf := zif_p c9 hf
            exact KJ39_0 σl0 H locs ls hG hS (lv_sub hl [0] rfl) hf
          · have hf := zif_n c9 hf
            refine lv_aload_n hx hb dX12_blanks_25 rfl (lv_at hl 0 rfl) ?_
            refine z_get (c0 := 12) (i0 := 0) (k0 := 39) (T := TX12) (v := .ref (ad 12 0 40)) S hG (hZ.2.1 (12, 0) (by decide)) rfl inlX12 (by decide) rfl zw_252 rfl dX12_blanks_26 ?_
            refine lv_aload_n hx hb dX12_blanks_29 rfl (lv_at hl 0 rfl) ?_
            refine z_get (c0 := 12) (i0 := 0) (k0 := 21) (T := TX12) (v := .int (zI σl0 12 0 21)) S hG (hZ.2.1 (12, 0) (by decide)) rfl inlX12 (by decide) rfl zw_512 rfl dX12_blanks_30 ?_
            obtain ⟨i11, hi11, hf⟩ := zbi hf
            refine z_bald (c0 := 12) (i0 := 0) (k0 := 39) S hG (hZ.2.1 (12, 0) (by decide)) (by decide) rfl hi11 dX12_blanks_33 ?_
            refine lv_bipush (v := 10) hx hb dX12_blanks_34 (by decide) ?_
            refine lv_icmp_ne (tgt := 52) hx hb dX12_blanks_36 (by decide) (fun c12 => ?_) (fun c12 => ?_)
            · have hf := zif_n c12 hf
              cases hf
              have hk0 : (σl0 : zM) = t0 := hk0
              have hf := hfo0
              rw [← hk0] at hf
              have hf : (some σl0) = some σ' := hf
              have hq := (Option.some.inj hf)
              subst hq
              exact z_vret S hG hS hlocks trivial hr dX12_blanks_52
            · have hf := zif_p c12 hf
              exact KJ39_0 σl0 H locs ls hG hS (lv_sub hl [0] rfl) hf
    exact KL0 zFu σ H locs ls hG hS (lv_sub hl [0] rfl) hw0
  exact hK0 _ _ ls hG hS hl hf
set_option maxRecDepth 100000 in
set_option maxHeartbeats 4000000 in
theorem c_X12_word_ (l : Launch) (D : va_G) (aC : Nat → ClassId) (zs : Nat × Nat) (A : Nat → Prop) (nl : zNL) (ad : Nat → Nat → Nat → Nat) (σ : zM)  (r : Int64) (σ' : zM)  (hf : f_X12_word_ σ = some (r, σ')) : Met l yX12_word_ (Cond.code yX12_word_ cX12_word_ 3 (some .long) :: wsL_law) ({ frames := 1, cells := 0, slots := 0, locals := 20 } : Room) (zP D aC zs zfM A nl ad σ [.ref (ad 12 0 0)]) (zQ (some (.long r)) (fun t => zG D aC A nl ad σ' t t.heap ∧ True) A) 0 0 A := by
  refine Met.ofW (cc := cX12_word_) (maxL := 3) (ret := (some .long)) (by decide) rfl ?_
  intro p e s m args below meth c s₁ B hml hv
  obtain ⟨rfl, hG, hZ⟩ := hv
  have hx := B.exec
  have hb := B.bytes
  have hr := B.returns
  have hts : ∀ w ∈ wsL_law, w.before ([.ref (ad 12 0 0)] : List Value).toArray s = true := fun w h => (atoms_spec B.pre) w (List.mem_cons_of_mem _ h)
  have hown : s.vm.findClass RX12 = some m.cls := findClass_of_methodNamed B.named
  have hlocks := B.notSynchronized
  have S : zS p m c cX12_word_ 3 s ([.ref (ad 12 0 0)] : List Value).toArray RX12 := ⟨hx, hb, hml, hown, hts⟩
  have hS : va_S A s.heap s.heap [] := va_S.rf
  have hl := lv_entry ([.ref (ad 12 0 0)]) (n := 3) (Nat.le_of_ble_eq_true rfl)
  rw [lg_entry_eq]
  generalize (lg_sl ([.ref (ad 12 0 0)]) ++ List.replicate (3 - (lg_sl ([.ref (ad 12 0 0)])).length) Slot.unset).toArray = ls at hl ⊢
  have hl : lv_has ls 3 [(0, .ref (ad 12 0 0))] := hl
  generalize hargs : ([.ref (ad 12 0 0)] : List Value).toArray = args at S hts ⊢
  clear hargs
  have KJ100 : ∀ (y1b100 : Int64)  (σb100 : zM) (H : Heap) (locs : List Loc) (ls : Array Slot), zG D aC A nl ad σb100 s H → va_S A s.heap H locs → lv_has ls 3 [(0, .ref (ad 12 0 0)), (1, .long y1b100)] → (f_X12_word__B100 σb100 y1b100) = some (r, σ') → zWk p l e ({ frames := 1, cells := 0, slots := 0, locals := 20 } : Room) s m args below meth c A (some (.long r)) (fun t => zG D aC A nl ad σ' t t.heap ∧ True) H locs (F0 m 100 ls []) := by
    intro y1b100  σb100 H locs ls hG hS hl hf
    unfold f_X12_word__B100 at hf
    refine lv_aload_n hx hb dX12_word__100 rfl (lv_at hl 0 rfl) ?_
    refine z_get (c0 := 12) (i0 := 0) (k0 := 40) (T := TX12) (v := .int (zI σb100 12 0 40)) S hG (hZ.2.1 (12, 0) (by decide)) rfl inlX12 (by decide) rfl zw_550 rfl dX12_word__101 ?_
    refine lv_aload_n hx hb dX12_word__104 rfl (lv_at hl 0 rfl) ?_
    refine z_get (c0 := 12) (i0 := 0) (k0 := 21) (T := TX12) (v := .int (zI σb100 12 0 21)) S hG (hZ.2.1 (12, 0) (by decide)) rfl inlX12 (by decide) rfl zw_512 rfl dX12_word__105 ?_
    refine lv_isub hx hb dX12_word__108 ?_
    refine lv_bipush (v := 8) hx hb dX12_word__109 (by decide) ?_
    refine lv_icmp_le (tgt := 118) hx hb dX12_word__111 (by decide) (fun c5 => ?_) (fun c5 => ?_)
    · have hf := zif_p c5 hf
      refine lv_lload_n hx hb dX12_word__118 rfl (lv_at hl 1 rfl) ?_
      obtain ⟨hq1, hq2⟩ := Prod.mk.inj (Option.some.inj hf)
      subst hq1
      subst hq2
      exact z_lret S hG hS hlocks trivial hr dX12_word__119
    · have hf := zif_n c5 hf
      refine lv_lconst (v := 0) hx hb dX12_word__114 (by decide) ?_
      refine lv_goto (tgt := 119) hx hb dX12_word__115 (by decide) ?_
      obtain ⟨hq1, hq2⟩ := Prod.mk.inj (Option.some.inj hf)
      subst hq1
      subst hq2
      exact z_lret S hG hS hlocks trivial hr dX12_word__119
  have hK0 : ∀ (H : Heap) (locs : List Loc) (ls : Array Slot), zG D aC A nl ad σ s H → va_S A s.heap H locs → lv_has ls 3 [(0, .ref (ad 12 0 0))] → f_X12_word_ σ = some (r, σ') → zWk p l e ({ frames := 1, cells := 0, slots := 0, locals := 20 } : Room) s m args below meth c A (some (.long r)) (fun t => zG D aC A nl ad σ' t t.heap ∧ True) H locs (F0 m 0 ls []) := by
    intro H locs ls hG hS hl hf
    unfold f_X12_word_ at hf
    refine lv_aload_n hx hb dX12_word__0 rfl (lv_at hl 0 rfl) ?_
    obtain ⟨σ1, eσ1, hf⟩ := zbi hf
    refine z_callV (n := 0) (rest := []) (st1 := []) (c0 := 12) (i0 := 0) (hZ.2.1 (12, 0) (by decide)) (by rfl) S hG hS hZ (fun _ _ h => h) (c_X12_blanks l D aC zs A nl ad σ σ1 eσ1) zw_521 zw_522 zw_523 zw_5 zw_524 (by decide +kernel) ⟨rfl, rfl⟩ ⟨(Nat.le_of_ble_eq_true rfl), (Nat.le_of_ble_eq_true rfl)⟩ hl.1 rfl (by rfl) (by rfl) (Nat.le_of_ble_eq_true rfl) dX12_word__1 ⟨Nat.zero_le _, Nat.zero_le _⟩ (fun H locs hz2 hG hS => ?_)
    refine lv_aload_n hx hb dX12_word__4 rfl (lv_at hl 0 rfl) ?_
    refine lv_aload_n hx hb dX12_word__5 rfl (lv_at hl 0 rfl) ?_
    refine z_get (c0 := 12) (i0 := 0) (k0 := 21) (T := TX12) (v := .int (zI σ1 12 0 21)) S hG (hZ.2.1 (12, 0) (by decide)) rfl inlX12 (by decide) rfl zw_512 rfl dX12_word__6 ?_
    refine z_putI (c0 := 12) (i0 := 0) (k0 := 40) (T := TX12) S hG hS tyX12 tyX12_ok nmX12 (hZ.2.1 (12, 0) (by decide)) rfl inlX12 (by decide) rfl rfl zw_550 (by decide +kernel) rfl dX12_word__9 (fun H locs hG hS => ?_)
    obtain ⟨σ3, eσ3, hf⟩ := zlt_s hf
    rw [← eσ3] at hG
    refine lv_lconst (v := 0) hx hb dX12_word__12 (by decide) ?_
    refine lv_lstore_n (lv' := [(1, .long 0), (0, .ref (ad 12 0 0))]) hx hb dX12_word__13 rfl hl (by decide) rfl (fun ls hl => ?_)
    obtain ⟨t14, hw14, hfo14⟩ := zbi hf
    have KL14 : ∀ (n : Nat) (y1l14 : Int64) (σl14 : zM) (H : Heap) (locs : List Loc) (ls : Array Slot), zG D aC A nl ad σl14 s H → va_S A s.heap H locs → lv_has ls 3 [(0, .ref (ad 12 0 0)), (1, .long y1l14)] → zwh (fun (q : (Int64 × zM)) => f_X12_word__L14 q.1 q.2) n (y1l14, σl14) = some t14 → zWk p l e ({ frames := 1, cells := 0, slots := 0, locals := 20 } : Room) s m args below meth c A (some (.long r)) (fun t => zG D aC A nl ad σ' t t.heap ∧ True) H locs (F0 m 14 ls []) := by
      intro n
      induction n with
      | zero =>
        intro y1l14 σl14 H locs ls hG hS hl hw
        exact (zwh_0 hw).elim
      | succ n ih14 =>
        intro y1l14 σl14 H locs ls hG hS hl hw
        obtain ⟨rr14, hf, hk14⟩ := zwh_u hw
        have hf : f_X12_word__L14 y1l14 σl14 = some rr14 := hf
        unfold f_X12_word__L14 at hf
        have KJ86_14 : ∀ (t0b86 : Int64)  (σb86_14 : zM) (H : Heap) (locs : List Loc) (ls : Array Slot), zG D aC A nl ad σb86_14 s H → va_S A s.heap H locs → lv_has ls 3 [(0, .ref (ad 12 0 0))] → (f_X12_word__B86_14 σb86_14 t0b86) = some rr14 → zWk p l e ({ frames := 1, cells := 0, slots := 0, locals := 20 } : Room) s m args below meth c A (some (.long r)) (fun t => zG D aC A nl ad σ' t t.heap ∧ True) H locs (F0 m 86 ls [.long t0b86]) := by
          intro t0b86  σb86_14 H locs ls hG hS hl hf
          unfold f_X12_word__B86_14 at hf
          refine lv_lstore_n (lv' := [(1, .long t0b86), (0, .ref (ad 12 0 0))]) hx hb dX12_word__86 rfl hl (by decide) rfl (fun ls hl => ?_)
          refine lv_aload_n hx hb dX12_word__87 rfl (lv_at hl 1 rfl) ?_
          refine lv_dup hx hb dX12_word__88 rfl ?_
          refine z_get (c0 := 12) (i0 := 0) (k0 := 40) (T := TX12) (v := .int (zI σb86_14 12 0 40)) S hG (hZ.2.1 (12, 0) (by decide)) rfl inlX12 (by decide) rfl zw_550 rfl dX12_word__89 ?_
          refine lv_iconst (v := 1) hx hb dX12_word__92 (by decide) ?_
          refine lv_iadd hx hb dX12_word__93 ?_
          refine z_putI (c0 := 12) (i0 := 0) (k0 := 40) (T := TX12) S hG hS tyX12 tyX12_ok nmX12 (hZ.2.1 (12, 0) (by decide)) rfl inlX12 (by decide) rfl rfl zw_550 (by decide +kernel) rfl dX12_word__94 (fun H locs hG hS => ?_)
          obtain ⟨σ19, eσ19, hf⟩ := zlt_s hf
          rw [← eσ19] at hG
          refine lv_goto (tgt := 14) hx hb dX12_word__97 (by decide) ?_
          cases hf
          exact ih14 t0b86 σ19 H locs ls hG hS (lv_sub hl [1, 0] rfl) hk14
        refine lv_aload_n hx hb dX12_word__14 rfl (lv_at hl 0 rfl) ?_
        refine z_get (c0 := 12) (i0 := 0) (k0 := 40) (T := TX12) (v := .int (zI σl14 12 0 40)) S hG (hZ.2.1 (12, 0) (by decide)) rfl inlX12 (by decide) rfl zw_550 rfl dX12_word__15 ?_
        refine lv_aload_n hx hb dX12_word__18 rfl (lv_at hl 0 rfl) ?_
        refine z_get (c0 := 12) (i0 := 0) (k0 := 20) (T := TX12) (v := .int (zI σl14 12 0 20)) S hG (hZ.2.1 (12, 0) (by decide)) rfl inlX12 (by decide) rfl zw_513 rfl dX12_word__19 ?_
        refine lv_icmp_ge (tgt := 100) hx hb dX12_word__22 (by decide) (fun c13 => ?_) (fun c13 => ?_)
        · have hf := zif_p c13 hf
          cases hf
          have hk14 : ((y1l14, σl14) : (Int64 × zM)) = t14 := hk14
          have hf := hfo14
          rw [← hk14] at hf
          have hf : (f_X12_word__B100 σl14 y1l14) = some (r, σ') := hf
          exact KJ100 y1l14 σl14 H locs ls hG hS (lv_sub hl [0, 1] rfl) hf
        · have hf := zif_n c13 hf
          refine lv_aload_n hx hb dX12_word__25 rfl (lv_at hl 0 rfl) ?_
          refine z_get (c0 := 12) (i0 := 0) (k0 := 39) (T := TX12) (v := .ref (ad 12 0 40)) S hG (hZ.2.1 (12, 0) (by decide)) rfl inlX12 (by decide) rfl zw_252 rfl dX12_word__26 ?_
          refine lv_aload_n hx hb dX12_word__29 rfl (lv_at hl 0 rfl) ?_
          refine z_get (c0 := 12) (i0 := 0) (k0 := 40) (T := TX12) (v := .int (zI σl14 12 0 40)) S hG (hZ.2.1 (12, 0) (by decide)) rfl inlX12 (by decide) rfl zw_550 rfl dX12_word__30 ?_
          obtain ⟨i14, hi14, hf⟩ := zbi hf
          refine z_bald (c0 := 12) (i0 := 0) (k0 := 39) S hG (hZ.2.1 (12, 0) (by decide)) (by decide) rfl hi14 dX12_word__33 ?_
          refine lv_bipush (v := 97) hx hb dX12_word__34 (by decide) ?_
          refine lv_icmp_lt (tgt := 100) hx hb dX12_word__36 (by decide) (fun c15 => ?_) (fun c15 => ?_)
          · have hf := zif_p c15 hf
            cases hf
            have hk14 : ((y1l14, σl14) : (Int64 × zM)) = t14 := hk14
            have hf := hfo14
            rw [← hk14] at hf
            have hf : (f_X12_word__B100 σl14 y1l14) = some (r, σ') := hf
            exact KJ100 y1l14 σl14 H locs ls hG hS (lv_sub hl [0, 1] rfl) hf
          · have hf := zif_n c15 hf
            refine lv_aload_n hx hb dX12_word__39 rfl (lv_at hl 0 rfl) ?_
            refine z_get (c0 := 12) (i0 := 0) (k0 := 39) (T := TX12) (v := .ref (ad 12 0 40)) S hG (hZ.2.1 (12, 0) (by decide)) rfl inlX12 (by decide) rfl zw_252 rfl dX12_word__40 ?_
            refine lv_aload_n hx hb dX12_word__43 rfl (lv_at hl 0 rfl) ?_
            refine z_get (c0 := 12) (i0 := 0) (k0 := 40) (T := TX12) (v := .int (zI σl14 12 0 40)) S hG (hZ.2.1 (12, 0) (by decide)) rfl inlX12 (by decide) rfl zw_550 rfl dX12_word__44 ?_
            obtain ⟨i16, hi16, hf⟩ := zbi hf
            refine z_bald (c0 := 12) (i0 := 0) (k0 := 39) S hG (hZ.2.1 (12, 0) (by decide)) (by decide) rfl hi16 dX12_word__47 ?_
            refine lv_bipush (v := 122) hx hb dX12_word__48 (by decide) ?_
            refine lv_icmp_gt (tgt := 100) hx hb dX12_word__50 (by decide) (fun c17 => ?_) (fun c17 => ?_)
            · have hf := zif_p c17 hf
              cases hf
              have hk14 : ((y1l14, σl14) : (Int64 × zM)) = t14 := hk14
              have hf := hfo14
              rw [← hk14] at hf
              have hf : (f_X12_word__B100 σl14 y1l14) = some (r, σ') := hf
              exact KJ100 y1l14 σl14 H locs ls hG hS (lv_sub hl [0, 1] rfl) hf
            · have hf := zif_n c17 hf
              refine lv_aload_n hx hb dX12_word__53 rfl (lv_at hl 0 rfl) ?_
              refine z_get (c0 := 12) (i0 := 0) (k0 := 40) (T := TX12) (v := .int (zI σl14 12 0 40)) S hG (hZ.2.1 (12, 0) (by decide)) rfl inlX12 (by decide) rfl zw_550 rfl dX12_word__54 ?_
              refine lv_aload_n hx hb dX12_word__57 rfl (lv_at hl 0 rfl) ?_
              refine z_get (c0 := 12) (i0 := 0) (k0 := 21) (T := TX12) (v := .int (zI σl14 12 0 21)) S hG (hZ.2.1 (12, 0) (by decide)) rfl inlX12 (by decide) rfl zw_512 rfl dX12_word__58 ?_
              refine lv_isub hx hb dX12_word__61 ?_
              refine lv_bipush (v := 8) hx hb dX12_word__62 (by decide) ?_
              refine lv_icmp_ge (tgt := 85) hx hb dX12_word__64 (by decide) (fun c18 => ?_) (fun c18 => ?_)
              · have hf := zif_p c18 hf
                refine lv_lconst (v := 0) hx hb dX12_word__85 (by decide) ?_
                exact KJ86_14 0 σl14 H locs ls hG hS (lv_sub hl [0] rfl) hf
              · have hf := zif_n c18 hf
                refine lv_lload_n hx hb dX12_word__67 rfl (lv_at hl 1 rfl) ?_
                refine lv_bipush (v := 8) hx hb dX12_word__68 (by decide) ?_
                refine lv_lshl (v := (zlshl y1l14 8)) hx hb dX12_word__70 rfl ?_
                refine lv_aload_n hx hb dX12_word__71 rfl (lv_at hl 0 rfl) ?_
                refine z_get (c0 := 12) (i0 := 0) (k0 := 39) (T := TX12) (v := .ref (ad 12 0 40)) S hG (hZ.2.1 (12, 0) (by decide)) rfl inlX12 (by decide) rfl zw_252 rfl dX12_word__72 ?_
                refine lv_aload_n hx hb dX12_word__75 rfl (lv_at hl 0 rfl) ?_
                refine z_get (c0 := 12) (i0 := 0) (k0 := 40) (T := TX12) (v := .int (zI σl14 12 0 40)) S hG (hZ.2.1 (12, 0) (by decide)) rfl inlX12 (by decide) rfl zw_550 rfl dX12_word__76 ?_
                obtain ⟨i20, hi20, hf⟩ := zbi hf
                refine z_bald (c0 := 12) (i0 := 0) (k0 := 39) S hG (hZ.2.1 (12, 0) (by decide)) (by decide) rfl hi20 dX12_word__79 ?_
                refine lv_i2l (v := (zA σl14 12 0 39 i20).toInt64) hx hb dX12_word__80 rfl ?_
                refine lv_lor hx hb dX12_word__81 ?_
                refine lv_goto (tgt := 86) hx hb dX12_word__82 (by decide) ?_
                exact KJ86_14 ((zlshl y1l14 8) ||| (zA σl14 12 0 39 i20).toInt64) σl14 H locs ls hG hS (lv_sub hl [0] rfl) hf
    exact KL14 zFu 0 σ3 H locs ls hG hS (lv_sub hl [1, 0] rfl) hw14
  exact hK0 _ _ ls hG hS hl hf
set_option maxRecDepth 100000 in
set_option maxHeartbeats 4000000 in
theorem c_X12_takes (l : Launch) (D : va_G) (aC : Nat → ClassId) (zs : Nat × Nat) (A : Nat → Prop) (nl : zNL) (ad : Nat → Nat → Nat → Nat) (σ : zM) (x1 : Int64) (r : Int32) (σ' : zM)  (hf : f_X12_takes σ x1 = some (r, σ')) : Met l yX12_takes (Cond.code yX12_takes cX12_takes 3 (some .boolean) :: wsL_law) ({ frames := 2, cells := 0, slots := 0, locals := 42 } : Room) (zP D aC zs zfM A nl ad σ [.ref (ad 12 0 0), .long x1]) (zQ (some (.int r)) (fun t => zG D aC A nl ad σ' t t.heap ∧ (r = 0 ∨ r = 1)) A) 0 0 A := by
  refine Met.ofW (cc := cX12_takes) (maxL := 3) (ret := (some .boolean)) (by decide) rfl ?_
  intro p e s m args below meth c s₁ B hml hv
  obtain ⟨rfl, hG, hZ⟩ := hv
  have hx := B.exec
  have hb := B.bytes
  have hr := B.returns
  have hts : ∀ w ∈ wsL_law, w.before ([.ref (ad 12 0 0), .long x1] : List Value).toArray s = true := fun w h => (atoms_spec B.pre) w (List.mem_cons_of_mem _ h)
  have hown : s.vm.findClass RX12 = some m.cls := findClass_of_methodNamed B.named
  have hlocks := B.notSynchronized
  have S : zS p m c cX12_takes 3 s ([.ref (ad 12 0 0), .long x1] : List Value).toArray RX12 := ⟨hx, hb, hml, hown, hts⟩
  have hS : va_S A s.heap s.heap [] := va_S.rf
  have hl := lv_entry ([.ref (ad 12 0 0), .long x1]) (n := 3) (Nat.le_of_ble_eq_true rfl)
  rw [lg_entry_eq]
  generalize (lg_sl ([.ref (ad 12 0 0), .long x1]) ++ List.replicate (3 - (lg_sl ([.ref (ad 12 0 0), .long x1])).length) Slot.unset).toArray = ls at hl ⊢
  have hl : lv_has ls 3 [(0, .ref (ad 12 0 0)), (1, .long x1)] := hl
  generalize hargs : ([.ref (ad 12 0 0), .long x1] : List Value).toArray = args at S hts ⊢
  clear hargs
  have hK0 : ∀ (H : Heap) (locs : List Loc) (ls : Array Slot), zG D aC A nl ad σ s H → va_S A s.heap H locs → lv_has ls 3 [(0, .ref (ad 12 0 0)), (1, .long x1)] → f_X12_takes σ x1 = some (r, σ') → zWk p l e ({ frames := 2, cells := 0, slots := 0, locals := 42 } : Room) s m args below meth c A (some (.int r)) (fun t => zG D aC A nl ad σ' t t.heap ∧ (r = 0 ∨ r = 1)) H locs (F0 m 0 ls []) := by
    intro H locs ls hG hS hl hf
    unfold f_X12_takes at hf
    refine lv_aload_n hx hb dX12_takes_0 rfl (lv_at hl 0 rfl) ?_
    obtain ⟨q1, eq1, hf⟩ := zbi hf
    refine z_callV (n := 0) (rest := []) (st1 := [.long q1.1]) (c0 := 12) (i0 := 0) (hZ.2.1 (12, 0) (by decide)) (by rfl) S hG hS hZ (fun _ _ h => h) (c_X12_word_ l D aC zs A nl ad σ q1.1 q1.2 eq1) zw_551 zw_552 zw_553 zw_5 zw_554 (by decide +kernel) ⟨rfl, rfl⟩ ⟨(Nat.le_of_ble_eq_true rfl), (Nat.le_of_ble_eq_true rfl)⟩ hl.1 rfl (by rfl) (by rfl) (Nat.le_of_ble_eq_true rfl) dX12_takes_1 ⟨Nat.zero_le _, Nat.zero_le _⟩ (fun H locs hz2 hG hS => ?_)
    refine lv_lload_n hx hb dX12_takes_4 rfl (lv_at hl 1 rfl) ?_
    refine W.lcmp hx hb dX12_takes_5 ?_
    refine lv_if_eq (tgt := 11) hx hb dX12_takes_6 (by decide) (fun c3 => ?_) (fun c3 => ?_)
    · have hf := zif_p ((lg_cmp_eq q1.1 x1).mp c3) hf
      refine lv_aload_n hx hb dX12_takes_11 rfl (lv_at hl 0 rfl) ?_
      refine lv_aload_n hx hb dX12_takes_12 rfl (lv_at hl 0 rfl) ?_
      refine z_get (c0 := 12) (i0 := 0) (k0 := 40) (T := TX12) (v := .int (zI q1.2 12 0 40)) S hG (hZ.2.1 (12, 0) (by decide)) rfl inlX12 (by decide) rfl zw_550 rfl dX12_takes_13 ?_
      refine z_putI (c0 := 12) (i0 := 0) (k0 := 21) (T := TX12) S hG hS tyX12 tyX12_ok nmX12 (hZ.2.1 (12, 0) (by decide)) rfl inlX12 (by decide) rfl rfl zw_512 (by decide +kernel) rfl dX12_takes_16 (fun H locs hG hS => ?_)
      obtain ⟨σ4, eσ4, hf⟩ := zlt_s hf
      rw [← eσ4] at hG
      refine lv_iconst (v := 1) hx hb dX12_takes_19 (by decide) ?_
      obtain ⟨hq1, hq2⟩ := Prod.mk.inj (Option.some.inj hf)
      subst hq1
      subst hq2
      exact z_zret S hG hS hlocks (Or.inr rfl) hr dX12_takes_20
    · have hf := zif_n (fun h => c3 ((lg_cmp_eq q1.1 x1).mpr h)) hf
      refine lv_iconst (v := 0) hx hb dX12_takes_9 (by decide) ?_
      obtain ⟨hq1, hq2⟩ := Prod.mk.inj (Option.some.inj hf)
      subst hq1
      subst hq2
      exact z_zret S hG hS hlocks (Or.inl rfl) hr dX12_takes_10
  exact hK0 _ _ ls hG hS hl hf
set_option maxRecDepth 100000 in
set_option maxHeartbeats 4000000 in
theorem c_X12_takesSign (l : Launch) (D : va_G) (aC : Nat → ClassId) (zs : Nat × Nat) (A : Nat → Prop) (nl : zNL) (ad : Nat → Nat → Nat → Nat) (σ : zM) (x1 : Int32) (r : Int32) (σ' : zM)  (hf : f_X12_takesSign σ x1 = some (r, σ')) : Met l yX12_takesSign (Cond.code yX12_takesSign cX12_takesSign 2 (some .boolean) :: wsL_law) ({ frames := 1, cells := 0, slots := 0, locals := 20 } : Room) (zP D aC zs zfM A nl ad σ [.ref (ad 12 0 0), .int x1]) (zQ (some (.int r)) (fun t => zG D aC A nl ad σ' t t.heap ∧ (r = 0 ∨ r = 1)) A) 0 0 A := by
  refine Met.ofW (cc := cX12_takesSign) (maxL := 2) (ret := (some .boolean)) (by decide) rfl ?_
  intro p e s m args below meth c s₁ B hml hv
  obtain ⟨rfl, hG, hZ⟩ := hv
  have hx := B.exec
  have hb := B.bytes
  have hr := B.returns
  have hts : ∀ w ∈ wsL_law, w.before ([.ref (ad 12 0 0), .int x1] : List Value).toArray s = true := fun w h => (atoms_spec B.pre) w (List.mem_cons_of_mem _ h)
  have hown : s.vm.findClass RX12 = some m.cls := findClass_of_methodNamed B.named
  have hlocks := B.notSynchronized
  have S : zS p m c cX12_takesSign 2 s ([.ref (ad 12 0 0), .int x1] : List Value).toArray RX12 := ⟨hx, hb, hml, hown, hts⟩
  have hS : va_S A s.heap s.heap [] := va_S.rf
  have hl := lv_entry ([.ref (ad 12 0 0), .int x1]) (n := 2) (Nat.le_of_ble_eq_true rfl)
  rw [lg_entry_eq]
  generalize (lg_sl ([.ref (ad 12 0 0), .int x1]) ++ List.replicate (2 - (lg_sl ([.ref (ad 12 0 0), .int x1])).length) Slot.unset).toArray = ls at hl ⊢
  have hl : lv_has ls 2 [(0, .ref (ad 12 0 0)), (1, .int x1)] := hl
  generalize hargs : ([.ref (ad 12 0 0), .int x1] : List Value).toArray = args at S hts ⊢
  clear hargs
  have hK0 : ∀ (H : Heap) (locs : List Loc) (ls : Array Slot), zG D aC A nl ad σ s H → va_S A s.heap H locs → lv_has ls 2 [(0, .ref (ad 12 0 0)), (1, .int x1)] → f_X12_takesSign σ x1 = some (r, σ') → zWk p l e ({ frames := 1, cells := 0, slots := 0, locals := 20 } : Room) s m args below meth c A (some (.int r)) (fun t => zG D aC A nl ad σ' t t.heap ∧ (r = 0 ∨ r = 1)) H locs (F0 m 0 ls []) := by
    intro H locs ls hG hS hl hf
    unfold f_X12_takesSign at hf
    refine lv_aload_n hx hb dX12_takesSign_0 rfl (lv_at hl 0 rfl) ?_
    obtain ⟨σ1, eσ1, hf⟩ := zbi hf
    refine z_callV (n := 0) (rest := []) (st1 := []) (c0 := 12) (i0 := 0) (hZ.2.1 (12, 0) (by decide)) (by rfl) S hG hS hZ (fun _ _ h => h) (c_X12_blanks l D aC zs A nl ad σ σ1 eσ1) zw_521 zw_522 zw_523 zw_5 zw_524 (by decide +kernel) ⟨rfl, rfl⟩ ⟨(Nat.le_of_ble_eq_true rfl), (Nat.le_of_ble_eq_true rfl)⟩ hl.1 rfl (by rfl) (by rfl) (Nat.le_of_ble_eq_true rfl) dX12_takesSign_1 ⟨Nat.zero_le _, Nat.zero_le _⟩ (fun H locs hz2 hG hS => ?_)
    refine lv_aload_n hx hb dX12_takesSign_4 rfl (lv_at hl 0 rfl) ?_
    refine z_get (c0 := 12) (i0 := 0) (k0 := 21) (T := TX12) (v := .int (zI σ1 12 0 21)) S hG (hZ.2.1 (12, 0) (by decide)) rfl inlX12 (by decide) rfl zw_512 rfl dX12_takesSign_5 ?_
    refine lv_aload_n hx hb dX12_takesSign_8 rfl (lv_at hl 0 rfl) ?_
    refine z_get (c0 := 12) (i0 := 0) (k0 := 20) (T := TX12) (v := .int (zI σ1 12 0 20)) S hG (hZ.2.1 (12, 0) (by decide)) rfl inlX12 (by decide) rfl zw_513 rfl dX12_takesSign_9 ?_
    refine lv_icmp_eq (tgt := 28) hx hb dX12_takesSign_12 (by decide) (fun c3 => ?_) (fun c3 => ?_)
    · have hf := zif_p c3 hf
      refine lv_iconst (v := 0) hx hb dX12_takesSign_28 (by decide) ?_
      obtain ⟨hq1, hq2⟩ := Prod.mk.inj (Option.some.inj hf)
      subst hq1
      subst hq2
      exact z_zret S hG hS hlocks (Or.inl rfl) hr dX12_takesSign_29
    · have hf := zif_n c3 hf
      refine lv_aload_n hx hb dX12_takesSign_15 rfl (lv_at hl 0 rfl) ?_
      refine z_get (c0 := 12) (i0 := 0) (k0 := 39) (T := TX12) (v := .ref (ad 12 0 40)) S hG (hZ.2.1 (12, 0) (by decide)) rfl inlX12 (by decide) rfl zw_252 rfl dX12_takesSign_16 ?_
      refine lv_aload_n hx hb dX12_takesSign_19 rfl (lv_at hl 0 rfl) ?_
      refine z_get (c0 := 12) (i0 := 0) (k0 := 21) (T := TX12) (v := .int (zI σ1 12 0 21)) S hG (hZ.2.1 (12, 0) (by decide)) rfl inlX12 (by decide) rfl zw_512 rfl dX12_takesSign_20 ?_
      obtain ⟨i4, hi4, hf⟩ := zbi hf
      refine z_bald (c0 := 12) (i0 := 0) (k0 := 39) S hG (hZ.2.1 (12, 0) (by decide)) (by decide) rfl hi4 dX12_takesSign_23 ?_
      refine lv_iload_n hx hb dX12_takesSign_24 rfl (lv_at hl 1 rfl) ?_
      refine lv_icmp_eq (tgt := 30) hx hb dX12_takesSign_25 (by decide) (fun c5 => ?_) (fun c5 => ?_)
      · have hf := zif_p c5 hf
        refine lv_aload_n hx hb dX12_takesSign_30 rfl (lv_at hl 0 rfl) ?_
        refine lv_dup hx hb dX12_takesSign_31 rfl ?_
        refine z_get (c0 := 12) (i0 := 0) (k0 := 21) (T := TX12) (v := .int (zI σ1 12 0 21)) S hG (hZ.2.1 (12, 0) (by decide)) rfl inlX12 (by decide) rfl zw_512 rfl dX12_takesSign_32 ?_
        refine lv_iconst (v := 1) hx hb dX12_takesSign_35 (by decide) ?_
        refine lv_iadd hx hb dX12_takesSign_36 ?_
        refine z_putI (c0 := 12) (i0 := 0) (k0 := 21) (T := TX12) S hG hS tyX12 tyX12_ok nmX12 (hZ.2.1 (12, 0) (by decide)) rfl inlX12 (by decide) rfl rfl zw_512 (by decide +kernel) rfl dX12_takesSign_37 (fun H locs hG hS => ?_)
        obtain ⟨σ6, eσ6, hf⟩ := zlt_s hf
        rw [← eσ6] at hG
        refine lv_iconst (v := 1) hx hb dX12_takesSign_40 (by decide) ?_
        obtain ⟨hq1, hq2⟩ := Prod.mk.inj (Option.some.inj hf)
        subst hq1
        subst hq2
        exact z_zret S hG hS hlocks (Or.inr rfl) hr dX12_takesSign_41
      · have hf := zif_n c5 hf
        refine lv_iconst (v := 0) hx hb dX12_takesSign_28 (by decide) ?_
        obtain ⟨hq1, hq2⟩ := Prod.mk.inj (Option.some.inj hf)
        subst hq1
        subst hq2
        exact z_zret S hG hS hlocks (Or.inl rfl) hr dX12_takesSign_29
  exact hK0 _ _ ls hG hS hl hf
set_option maxRecDepth 100000 in
set_option maxHeartbeats 4000000 in
theorem c_X12_takesNumber (l : Launch) (D : va_G) (aC : Nat → ClassId) (zs : Nat × Nat) (A : Nat → Prop) (nl : zNL) (ad : Nat → Nat → Nat → Nat) (σ : zM) (x1 : Int32) (x2 : Int32) (r : Int32) (σ' : zM)  (hf : f_X12_takesNumber σ x1 x2 = some (r, σ')) : Met l yX12_takesNumber (Cond.code yX12_takesNumber cX12_takesNumber 4 (some .boolean) :: wsL_law) ({ frames := 1, cells := 0, slots := 0, locals := 22 } : Room) (zP D aC zs zfM A nl ad σ [.ref (ad 12 0 0), .int x1, .int x2]) (zQ (some (.int r)) (fun t => zG D aC A nl ad σ' t t.heap ∧ (r = 0 ∨ r = 1)) A) 0 0 A := by
  refine Met.ofW (cc := cX12_takesNumber) (maxL := 4) (ret := (some .boolean)) (by decide) rfl ?_
  intro p e s m args below meth c s₁ B hml hv
  obtain ⟨rfl, hG, hZ⟩ := hv
  have hx := B.exec
  have hb := B.bytes
  have hr := B.returns
  have hts : ∀ w ∈ wsL_law, w.before ([.ref (ad 12 0 0), .int x1, .int x2] : List Value).toArray s = true := fun w h => (atoms_spec B.pre) w (List.mem_cons_of_mem _ h)
  have hown : s.vm.findClass RX12 = some m.cls := findClass_of_methodNamed B.named
  have hlocks := B.notSynchronized
  have S : zS p m c cX12_takesNumber 4 s ([.ref (ad 12 0 0), .int x1, .int x2] : List Value).toArray RX12 := ⟨hx, hb, hml, hown, hts⟩
  have hS : va_S A s.heap s.heap [] := va_S.rf
  have hl := lv_entry ([.ref (ad 12 0 0), .int x1, .int x2]) (n := 4) (Nat.le_of_ble_eq_true rfl)
  rw [lg_entry_eq]
  generalize (lg_sl ([.ref (ad 12 0 0), .int x1, .int x2]) ++ List.replicate (4 - (lg_sl ([.ref (ad 12 0 0), .int x1, .int x2])).length) Slot.unset).toArray = ls at hl ⊢
  have hl : lv_has ls 4 [(0, .ref (ad 12 0 0)), (1, .int x1), (2, .int x2)] := hl
  generalize hargs : ([.ref (ad 12 0 0), .int x1, .int x2] : List Value).toArray = args at S hts ⊢
  clear hargs
  have KJ82 : ∀ (y3b82 : Int32)  (σb82 : zM) (H : Heap) (locs : List Loc) (ls : Array Slot), zG D aC A nl ad σb82 s H → va_S A s.heap H locs → lv_has ls 4 [(0, .ref (ad 12 0 0)), (1, .int x1), (2, .int x2), (3, .int y3b82)] → (f_X12_takesNumber_B82 σb82 x1 x2 y3b82) = some (r, σ') → zWk p l e ({ frames := 1, cells := 0, slots := 0, locals := 22 } : Room) s m args below meth c A (some (.int r)) (fun t => zG D aC A nl ad σ' t t.heap ∧ (r = 0 ∨ r = 1)) H locs (F0 m 82 ls []) := by
    intro y3b82  σb82 H locs ls hG hS hl hf
    unfold f_X12_takesNumber_B82 at hf
    refine lv_iload_n hx hb dX12_takesNumber_82 rfl (lv_at hl 3 rfl) ?_
    refine lv_aload_n hx hb dX12_takesNumber_83 rfl (lv_at hl 0 rfl) ?_
    refine z_get (c0 := 12) (i0 := 0) (k0 := 21) (T := TX12) (v := .int (zI σb82 12 0 21)) S hG (hZ.2.1 (12, 0) (by decide)) rfl inlX12 (by decide) rfl zw_512 rfl dX12_takesNumber_84 ?_
    refine lv_icmp_eq (tgt := 113) hx hb dX12_takesNumber_87 (by decide) (fun c5 => ?_) (fun c5 => ?_)
    · have hf := zif_p c5 hf
      refine lv_iconst (v := 0) hx hb dX12_takesNumber_113 (by decide) ?_
      obtain ⟨hq1, hq2⟩ := Prod.mk.inj (Option.some.inj hf)
      subst hq1
      subst hq2
      exact z_zret S hG hS hlocks (Or.inl rfl) hr dX12_takesNumber_114
    · have hf := zif_n c5 hf
      refine lv_iload_n hx hb dX12_takesNumber_90 rfl (lv_at hl 3 rfl) ?_
      refine lv_aload_n hx hb dX12_takesNumber_91 rfl (lv_at hl 0 rfl) ?_
      refine z_get (c0 := 12) (i0 := 0) (k0 := 21) (T := TX12) (v := .int (zI σb82 12 0 21)) S hG (hZ.2.1 (12, 0) (by decide)) rfl inlX12 (by decide) rfl zw_512 rfl dX12_takesNumber_92 ?_
      refine lv_isub hx hb dX12_takesNumber_95 ?_
      refine lv_bipush (v := 6) hx hb dX12_takesNumber_96 (by decide) ?_
      refine lv_icmp_gt (tgt := 113) hx hb dX12_takesNumber_98 (by decide) (fun c6 => ?_) (fun c6 => ?_)
      · have hf := zif_p c6 hf
        refine lv_iconst (v := 0) hx hb dX12_takesNumber_113 (by decide) ?_
        obtain ⟨hq1, hq2⟩ := Prod.mk.inj (Option.some.inj hf)
        subst hq1
        subst hq2
        exact z_zret S hG hS hlocks (Or.inl rfl) hr dX12_takesNumber_114
      · have hf := zif_n c6 hf
        refine lv_aload_n hx hb dX12_takesNumber_101 rfl (lv_at hl 0 rfl) ?_
        refine z_get (c0 := 12) (i0 := 0) (k0 := 41) (T := TX12) (v := .int (zI σb82 12 0 41)) S hG (hZ.2.1 (12, 0) (by decide)) rfl inlX12 (by decide) rfl zw_559 rfl dX12_takesNumber_102 ?_
        refine lv_iload_n hx hb dX12_takesNumber_105 rfl (lv_at hl 1 rfl) ?_
        refine lv_iload_n hx hb dX12_takesNumber_106 rfl (lv_at hl 2 rfl) ?_
        refine z_callS (n := 3) (rest := []) (st1 := [.int (f_X12_isIn (zI σb82 12 0 41) x1 x2)]) S hG hS hZ (fun _ _ h => h) (c_X12_isIn l D aC zs A nl ad σb82 (zI σb82 12 0 41) x1 x2 (f_X12_isIn (zI σb82 12 0 41) x1 x2) rfl) zw_514 zw_515 zw_5 zw_516 (by decide +kernel) ⟨rfl, rfl⟩ ⟨(Nat.le_of_ble_eq_true rfl), (Nat.le_of_ble_eq_true rfl)⟩ hl.1 rfl (by rfl) (by rfl) (Nat.le_of_ble_eq_true rfl) dX12_takesNumber_107 ⟨Nat.zero_le _, Nat.zero_le _⟩ (fun H locs hz7 hG hS => ?_)
        refine lv_if_ne (tgt := 115) hx hb dX12_takesNumber_110 (by decide) (fun c8 => ?_) (fun c8 => ?_)
        · have hf := zif_n c8 hf
          refine lv_aload_n hx hb dX12_takesNumber_115 rfl (lv_at hl 0 rfl) ?_
          refine lv_iload_n hx hb dX12_takesNumber_116 rfl (lv_at hl 3 rfl) ?_
          refine z_putI (c0 := 12) (i0 := 0) (k0 := 21) (T := TX12) S hG hS tyX12 tyX12_ok nmX12 (hZ.2.1 (12, 0) (by decide)) rfl inlX12 (by decide) rfl rfl zw_512 (by decide +kernel) rfl dX12_takesNumber_117 (fun H locs hG hS => ?_)
          obtain ⟨σ9, eσ9, hf⟩ := zlt_s hf
          rw [← eσ9] at hG
          refine lv_iconst (v := 1) hx hb dX12_takesNumber_120 (by decide) ?_
          obtain ⟨hq1, hq2⟩ := Prod.mk.inj (Option.some.inj hf)
          subst hq1
          subst hq2
          exact z_zret S hG hS hlocks (Or.inr rfl) hr dX12_takesNumber_121
        · have hf := zif_p c8 hf
          refine lv_iconst (v := 0) hx hb dX12_takesNumber_113 (by decide) ?_
          obtain ⟨hq1, hq2⟩ := Prod.mk.inj (Option.some.inj hf)
          subst hq1
          subst hq2
          exact z_zret S hG hS hlocks (Or.inl rfl) hr dX12_takesNumber_114
  have hK0 : ∀ (H : Heap) (locs : List Loc) (ls : Array Slot), zG D aC A nl ad σ s H → va_S A s.heap H locs → lv_has ls 4 [(0, .ref (ad 12 0 0)), (1, .int x1), (2, .int x2)] → f_X12_takesNumber σ x1 x2 = some (r, σ') → zWk p l e ({ frames := 1, cells := 0, slots := 0, locals := 22 } : Room) s m args below meth c A (some (.int r)) (fun t => zG D aC A nl ad σ' t t.heap ∧ (r = 0 ∨ r = 1)) H locs (F0 m 0 ls []) := by
    intro H locs ls hG hS hl hf
    unfold f_X12_takesNumber at hf
    refine lv_aload_n hx hb dX12_takesNumber_0 rfl (lv_at hl 0 rfl) ?_
    obtain ⟨σ1, eσ1, hf⟩ := zbi hf
    refine z_callV (n := 0) (rest := []) (st1 := []) (c0 := 12) (i0 := 0) (hZ.2.1 (12, 0) (by decide)) (by rfl) S hG hS hZ (fun _ _ h => h) (c_X12_blanks l D aC zs A nl ad σ σ1 eσ1) zw_521 zw_522 zw_523 zw_5 zw_524 (by decide +kernel) ⟨rfl, rfl⟩ ⟨(Nat.le_of_ble_eq_true rfl), (Nat.le_of_ble_eq_true rfl)⟩ hl.1 rfl (by rfl) (by rfl) (Nat.le_of_ble_eq_true rfl) dX12_takesNumber_1 ⟨Nat.zero_le _, Nat.zero_le _⟩ (fun H locs hz2 hG hS => ?_)
    refine lv_aload_n hx hb dX12_takesNumber_4 rfl (lv_at hl 0 rfl) ?_
    refine z_get (c0 := 12) (i0 := 0) (k0 := 21) (T := TX12) (v := .int (zI σ1 12 0 21)) S hG (hZ.2.1 (12, 0) (by decide)) rfl inlX12 (by decide) rfl zw_512 rfl dX12_takesNumber_5 ?_
    refine lv_istore_n (lv' := [(3, .int (zI σ1 12 0 21)), (0, .ref (ad 12 0 0)), (1, .int x1), (2, .int x2)]) hx hb dX12_takesNumber_8 rfl hl (by decide) rfl (fun ls hl => ?_)
    refine lv_aload_n hx hb dX12_takesNumber_9 rfl (lv_at hl 1 rfl) ?_
    refine lv_iconst (v := 0) hx hb dX12_takesNumber_10 (by decide) ?_
    refine z_putI (c0 := 12) (i0 := 0) (k0 := 41) (T := TX12) S hG hS tyX12 tyX12_ok nmX12 (hZ.2.1 (12, 0) (by decide)) rfl inlX12 (by decide) rfl rfl zw_559 (by decide +kernel) rfl dX12_takesNumber_11 (fun H locs hG hS => ?_)
    obtain ⟨σ3, eσ3, hf⟩ := zlt_s hf
    rw [← eσ3] at hG
    obtain ⟨t14, hw14, hfo14⟩ := zbi hf
    have KL14 : ∀ (n : Nat) (y3l14 : Int32) (σl14 : zM) (H : Heap) (locs : List Loc) (ls : Array Slot), zG D aC A nl ad σl14 s H → va_S A s.heap H locs → lv_has ls 4 [(0, .ref (ad 12 0 0)), (1, .int x1), (2, .int x2), (3, .int y3l14)] → zwh (fun (q : (Int32 × zM)) => f_X12_takesNumber_L14 x1 x2 q.1 q.2) n (y3l14, σl14) = some t14 → zWk p l e ({ frames := 1, cells := 0, slots := 0, locals := 22 } : Room) s m args below meth c A (some (.int r)) (fun t => zG D aC A nl ad σ' t t.heap ∧ (r = 0 ∨ r = 1)) H locs (F0 m 14 ls []) := by
      intro n
      induction n with
      | zero =>
        intro y3l14 σl14 H locs ls hG hS hl hw
        exact (zwh_0 hw).elim
      | succ n ih14 =>
        intro y3l14 σl14 H locs ls hG hS hl hw
        obtain ⟨rr14, hf, hk14⟩ := zwh_u hw
        have hf : f_X12_takesNumber_L14 x1 x2 y3l14 σl14 = some rr14 := hf
        unfold f_X12_takesNumber_L14 at hf
        have KJ76_14 : ∀ (y3b76 : Int32)  (σb76_14 : zM) (H : Heap) (locs : List Loc) (ls : Array Slot), zG D aC A nl ad σb76_14 s H → va_S A s.heap H locs → lv_has ls 4 [(0, .ref (ad 12 0 0)), (1, .int x1), (2, .int x2), (3, .int y3b76)] → (f_X12_takesNumber_B76_14 σb76_14 x1 x2 y3b76) = some rr14 → zWk p l e ({ frames := 1, cells := 0, slots := 0, locals := 22 } : Room) s m args below meth c A (some (.int r)) (fun t => zG D aC A nl ad σ' t t.heap ∧ (r = 0 ∨ r = 1)) H locs (F0 m 76 ls []) := by
          intro y3b76  σb76_14 H locs ls hG hS hl hf
          unfold f_X12_takesNumber_B76_14 at hf
          refine lv_iinc (v := (y3b76 + 1)) (lv' := [(3, .int (y3b76 + 1)), (0, .ref (ad 12 0 0)), (1, .int x1), (2, .int x2)]) hx hb dX12_takesNumber_76 hl (k := 3) rfl rfl (by decide) rfl (fun ls hl => ?_)
          refine lv_goto (tgt := 14) hx hb dX12_takesNumber_79 (by decide) ?_
          cases hf
          exact ih14 (y3b76 + 1) σb76_14 H locs ls hG hS (lv_sub hl [1, 2, 3, 0] rfl) hk14
        refine lv_iload_n hx hb dX12_takesNumber_14 rfl (lv_at hl 3 rfl) ?_
        refine lv_aload_n hx hb dX12_takesNumber_15 rfl (lv_at hl 0 rfl) ?_
        refine z_get (c0 := 12) (i0 := 0) (k0 := 20) (T := TX12) (v := .int (zI σl14 12 0 20)) S hG (hZ.2.1 (12, 0) (by decide)) rfl inlX12 (by decide) rfl zw_513 rfl dX12_takesNumber_16 ?_
        refine lv_icmp_ge (tgt := 82) hx hb dX12_takesNumber_19 (by decide) (fun c17 => ?_) (fun c17 => ?_)
        · have hf := zif_p c17 hf
          cases hf
          have hk14 : ((y3l14, σl14) : (Int32 × zM)) = t14 := hk14
          have hf := hfo14
          rw [← hk14] at hf
          have hf : (f_X12_takesNumber_B82 σl14 x1 x2 y3l14) = some (r, σ') := hf
          exact KJ82 y3l14 σl14 H locs ls hG hS (lv_sub hl [0, 1, 2, 3] rfl) hf
        · have hf := zif_n c17 hf
          refine lv_aload_n hx hb dX12_takesNumber_22 rfl (lv_at hl 0 rfl) ?_
          refine z_get (c0 := 12) (i0 := 0) (k0 := 39) (T := TX12) (v := .ref (ad 12 0 40)) S hG (hZ.2.1 (12, 0) (by decide)) rfl inlX12 (by decide) rfl zw_252 rfl dX12_takesNumber_23 ?_
          refine lv_iload_n hx hb dX12_takesNumber_26 rfl (lv_at hl 3 rfl) ?_
          obtain ⟨i18, hi18, hf⟩ := zbi hf
          refine z_bald (c0 := 12) (i0 := 0) (k0 := 39) S hG (hZ.2.1 (12, 0) (by decide)) (by decide) rfl hi18 dX12_takesNumber_27 ?_
          refine lv_bipush (v := 48) hx hb dX12_takesNumber_28 (by decide) ?_
          refine lv_icmp_lt (tgt := 82) hx hb dX12_takesNumber_30 (by decide) (fun c19 => ?_) (fun c19 => ?_)
          · have hf := zif_p c19 hf
            cases hf
            have hk14 : ((y3l14, σl14) : (Int32 × zM)) = t14 := hk14
            have hf := hfo14
            rw [← hk14] at hf
            have hf : (f_X12_takesNumber_B82 σl14 x1 x2 y3l14) = some (r, σ') := hf
            exact KJ82 y3l14 σl14 H locs ls hG hS (lv_sub hl [0, 1, 2, 3] rfl) hf
          · have hf := zif_n c19 hf
            refine lv_aload_n hx hb dX12_takesNumber_33 rfl (lv_at hl 0 rfl) ?_
            refine z_get (c0 := 12) (i0 := 0) (k0 := 39) (T := TX12) (v := .ref (ad 12 0 40)) S hG (hZ.2.1 (12, 0) (by decide)) rfl inlX12 (by decide) rfl zw_252 rfl dX12_takesNumber_34 ?_
            refine lv_iload_n hx hb dX12_takesNumber_37 rfl (lv_at hl 3 rfl) ?_
            obtain ⟨i20, hi20, hf⟩ := zbi hf
            refine z_bald (c0 := 12) (i0 := 0) (k0 := 39) S hG (hZ.2.1 (12, 0) (by decide)) (by decide) rfl hi20 dX12_takesNumber_38 ?_
            refine lv_bipush (v := 57) hx hb dX12_takesNumber_39 (by decide) ?_
            refine lv_icmp_gt (tgt := 82) hx hb dX12_takesNumber_41 (by decide) (fun c21 => ?_) (fun c21 => ?_)
            · have hf := zif_p c21 hf
              cases hf
              have hk14 : ((y3l14, σl14) : (Int32 × zM)) = t14 := hk14
              have hf := hfo14
              rw [← hk14] at hf
              have hf : (f_X12_takesNumber_B82 σl14 x1 x2 y3l14) = some (r, σ') := hf
              exact KJ82 y3l14 σl14 H locs ls hG hS (lv_sub hl [0, 1, 2, 3] rfl) hf
            · have hf := zif_n c21 hf
              refine lv_iload_n hx hb dX12_takesNumber_44 rfl (lv_at hl 3 rfl) ?_
              refine lv_aload_n hx hb dX12_takesNumber_45 rfl (lv_at hl 0 rfl) ?_
              refine z_get (c0 := 12) (i0 := 0) (k0 := 21) (T := TX12) (v := .int (zI σl14 12 0 21)) S hG (hZ.2.1 (12, 0) (by decide)) rfl inlX12 (by decide) rfl zw_512 rfl dX12_takesNumber_46 ?_
              refine lv_isub hx hb dX12_takesNumber_49 ?_
              refine lv_bipush (v := 6) hx hb dX12_takesNumber_50 (by decide) ?_
              refine lv_icmp_ge (tgt := 76) hx hb dX12_takesNumber_52 (by decide) (fun c22 => ?_) (fun c22 => ?_)
              · have hf := zif_p c22 hf
                exact KJ76_14 y3l14 σl14 H locs ls hG hS (lv_sub hl [0, 1, 2, 3] rfl) hf
              · have hf := zif_n c22 hf
                refine lv_aload_n hx hb dX12_takesNumber_55 rfl (lv_at hl 0 rfl) ?_
                refine lv_bipush (v := 10) hx hb dX12_takesNumber_56 (by decide) ?_
                refine lv_aload_n hx hb dX12_takesNumber_58 rfl (lv_at hl 0 rfl) ?_
                refine z_get (c0 := 12) (i0 := 0) (k0 := 41) (T := TX12) (v := .int (zI σl14 12 0 41)) S hG (hZ.2.1 (12, 0) (by decide)) rfl inlX12 (by decide) rfl zw_559 rfl dX12_takesNumber_59 ?_
                refine lv_imul hx hb dX12_takesNumber_62 ?_
                refine lv_aload_n hx hb dX12_takesNumber_63 rfl (lv_at hl 0 rfl) ?_
                refine z_get (c0 := 12) (i0 := 0) (k0 := 39) (T := TX12) (v := .ref (ad 12 0 40)) S hG (hZ.2.1 (12, 0) (by decide)) rfl inlX12 (by decide) rfl zw_252 rfl dX12_takesNumber_64 ?_
                refine lv_iload_n hx hb dX12_takesNumber_67 rfl (lv_at hl 3 rfl) ?_
                obtain ⟨i23, hi23, hf⟩ := zbi hf
                refine z_bald (c0 := 12) (i0 := 0) (k0 := 39) S hG (hZ.2.1 (12, 0) (by decide)) (by decide) rfl hi23 dX12_takesNumber_68 ?_
                refine lv_iadd hx hb dX12_takesNumber_69 ?_
                refine lv_bipush (v := 48) hx hb dX12_takesNumber_70 (by decide) ?_
                refine lv_isub hx hb dX12_takesNumber_72 ?_
                refine z_putI (c0 := 12) (i0 := 0) (k0 := 41) (T := TX12) S hG hS tyX12 tyX12_ok nmX12 (hZ.2.1 (12, 0) (by decide)) rfl inlX12 (by decide) rfl rfl zw_559 (by decide +kernel) rfl dX12_takesNumber_73 (fun H locs hG hS => ?_)
                obtain ⟨σ24, eσ24, hf⟩ := zlt_s hf
                rw [← eσ24] at hG
                exact KJ76_14 y3l14 σ24 H locs ls hG hS (lv_sub hl [0, 1, 2, 3] rfl) hf
    exact KL14 zFu (zI σ1 12 0 21) σ3 H locs ls hG hS (lv_sub hl [1, 2, 3, 0] rfl) hw14
  exact hK0 _ _ ls hG hS hl hf
set_option maxRecDepth 100000 in
set_option maxHeartbeats 4000000 in
theorem c_X12_takesPlain (l : Launch) (D : va_G) (aC : Nat → ClassId) (zs : Nat × Nat) (A : Nat → Prop) (nl : zNL) (ad : Nat → Nat → Nat → Nat) (σ : zM)  (r : Int32) (σ' : zM)  (hf : f_X12_takesPlain σ = some (r, σ')) : Met l yX12_takesPlain (Cond.code yX12_takesPlain cX12_takesPlain 1 (some .boolean) :: wsL_law) ({ frames := 2, cells := 0, slots := 0, locals := 45 } : Room) (zP D aC zs zfM A nl ad σ [.ref (ad 12 0 0)]) (zQ (some (.int r)) (fun t => zG D aC A nl ad σ' t t.heap ∧ (r = 0 ∨ r = 1)) A) 0 0 A := by
  refine Met.ofW (cc := cX12_takesPlain) (maxL := 1) (ret := (some .boolean)) (by decide) rfl ?_
  intro p e s m args below meth c s₁ B hml hv
  obtain ⟨rfl, hG, hZ⟩ := hv
  have hx := B.exec
  have hb := B.bytes
  have hr := B.returns
  have hts : ∀ w ∈ wsL_law, w.before ([.ref (ad 12 0 0)] : List Value).toArray s = true := fun w h => (atoms_spec B.pre) w (List.mem_cons_of_mem _ h)
  have hown : s.vm.findClass RX12 = some m.cls := findClass_of_methodNamed B.named
  have hlocks := B.notSynchronized
  have S : zS p m c cX12_takesPlain 1 s ([.ref (ad 12 0 0)] : List Value).toArray RX12 := ⟨hx, hb, hml, hown, hts⟩
  have hS : va_S A s.heap s.heap [] := va_S.rf
  have hl := lv_entry ([.ref (ad 12 0 0)]) (n := 1) (Nat.le_of_ble_eq_true rfl)
  rw [lg_entry_eq]
  generalize (lg_sl ([.ref (ad 12 0 0)]) ++ List.replicate (1 - (lg_sl ([.ref (ad 12 0 0)])).length) Slot.unset).toArray = ls at hl ⊢
  have hl : lv_has ls 1 [(0, .ref (ad 12 0 0))] := hl
  generalize hargs : ([.ref (ad 12 0 0)] : List Value).toArray = args at S hts ⊢
  clear hargs
  have hK0 : ∀ (H : Heap) (locs : List Loc) (ls : Array Slot), zG D aC A nl ad σ s H → va_S A s.heap H locs → lv_has ls 1 [(0, .ref (ad 12 0 0))] → f_X12_takesPlain σ = some (r, σ') → zWk p l e ({ frames := 2, cells := 0, slots := 0, locals := 45 } : Room) s m args below meth c A (some (.int r)) (fun t => zG D aC A nl ad σ' t t.heap ∧ (r = 0 ∨ r = 1)) H locs (F0 m 0 ls []) := by
    intro H locs ls hG hS hl hf
    unfold f_X12_takesPlain at hf
    refine lv_aload_n hx hb dX12_takesPlain_0 rfl (lv_at hl 0 rfl) ?_
    refine lv_iconst (v := 0) hx hb dX12_takesPlain_1 (by decide) ?_
    refine lv_ldcw (v := 999999) hx hb hown (hts _ zw_541) dX12_takesPlain_2 ?_
    obtain ⟨q1, eq1, hf⟩ := zbi hf
    refine z_callV (n := 2) (rest := []) (st1 := [.int q1.1]) (c0 := 12) (i0 := 0) (hZ.2.1 (12, 0) (by decide)) (by rfl) S hG hS hZ (fun _ _ h => h) (c_X12_takesNumber l D aC zs A nl ad σ 0 999999 q1.1 q1.2 eq1) zw_598 zw_599 zw_600 zw_5 zw_601 (by decide +kernel) ⟨rfl, rfl⟩ ⟨(Nat.le_of_ble_eq_true rfl), (Nat.le_of_ble_eq_true rfl)⟩ hl.1 rfl (by rfl) (by rfl) (Nat.le_of_ble_eq_true rfl) dX12_takesPlain_5 ⟨Nat.zero_le _, Nat.zero_le _⟩ (fun H locs hz2 hG hS => ?_)
    obtain ⟨hq1, hq2⟩ := Prod.mk.inj (Option.some.inj hf)
    subst hq1
    subst hq2
    exact z_zret S hG hS hlocks hz2 hr dX12_takesPlain_8
  exact hK0 _ _ ls hG hS hl hf
set_option maxRecDepth 100000 in
set_option maxHeartbeats 4000000 in
theorem c_X12_named (l : Launch) (D : va_G) (aC : Nat → ClassId) (zs : Nat × Nat) (A : Nat → Prop) (nl : zNL) (ad : Nat → Nat → Nat → Nat) (σ : zM) (x1 : Int64) (r : Int32)  (hf : f_X12_named σ x1 = some r) : Met l yX12_named (Cond.code yX12_named cX12_named 4 (some .int) :: wsL_law) ({ frames := 0, cells := 0, slots := 0, locals := 0 } : Room) (zP D aC zs zfM A nl ad σ [.ref (ad 12 0 0), .long x1]) (zQ (some (.int r)) (fun t => zG D aC A nl ad σ t t.heap ∧ True) A) 0 0 A := by
  refine Met.ofW (cc := cX12_named) (maxL := 4) (ret := (some .int)) (by decide) rfl ?_
  intro p e s m args below meth c s₁ B hml hv
  obtain ⟨rfl, hG, hZ⟩ := hv
  have hx := B.exec
  have hb := B.bytes
  have hr := B.returns
  have hts : ∀ w ∈ wsL_law, w.before ([.ref (ad 12 0 0), .long x1] : List Value).toArray s = true := fun w h => (atoms_spec B.pre) w (List.mem_cons_of_mem _ h)
  have hown : s.vm.findClass RX12 = some m.cls := findClass_of_methodNamed B.named
  have hlocks := B.notSynchronized
  have S : zS p m c cX12_named 4 s ([.ref (ad 12 0 0), .long x1] : List Value).toArray RX12 := ⟨hx, hb, hml, hown, hts⟩
  have hS : va_S A s.heap s.heap [] := va_S.rf
  have hl := lv_entry ([.ref (ad 12 0 0), .long x1]) (n := 4) (Nat.le_of_ble_eq_true rfl)
  rw [lg_entry_eq]
  generalize (lg_sl ([.ref (ad 12 0 0), .long x1]) ++ List.replicate (4 - (lg_sl ([.ref (ad 12 0 0), .long x1])).length) Slot.unset).toArray = ls at hl ⊢
  have hl : lv_has ls 4 [(0, .ref (ad 12 0 0)), (1, .long x1)] := hl
  generalize hargs : ([.ref (ad 12 0 0), .long x1] : List Value).toArray = args at S hts ⊢
  clear hargs
  have hK0 : ∀ (H : Heap) (locs : List Loc) (ls : Array Slot), zG D aC A nl ad σ s H → va_S A s.heap H locs → lv_has ls 4 [(0, .ref (ad 12 0 0)), (1, .long x1)] → f_X12_named σ x1 = some r → zWk p l e ({ frames := 0, cells := 0, slots := 0, locals := 0 } : Room) s m args below meth c A (some (.int r)) (fun t => zG D aC A nl ad σ t t.heap ∧ True) H locs (F0 m 0 ls []) := by
    intro H locs ls hG hS hl hf
    unfold f_X12_named at hf
    refine lv_iconst (v := 1) hx hb dX12_named_0 (by decide) ?_
    refine lv_istore_n (lv' := [(3, .int 1), (0, .ref (ad 12 0 0)), (1, .long x1)]) hx hb dX12_named_1 rfl hl (by decide) rfl (fun ls hl => ?_)
    obtain ⟨t2, hw2, hfo2⟩ := zbi hf
    have KL2 : ∀ (n : Nat) (y3l2 : Int32) (H : Heap) (locs : List Loc) (ls : Array Slot), zG D aC A nl ad σ s H → va_S A s.heap H locs → lv_has ls 4 [(0, .ref (ad 12 0 0)), (1, .long x1), (3, .int y3l2)] → zwh (fun (q : Int32) => f_X12_named_L2 σ x1 q) n y3l2 = some t2 → zWk p l e ({ frames := 0, cells := 0, slots := 0, locals := 0 } : Room) s m args below meth c A (some (.int r)) (fun t => zG D aC A nl ad σ t t.heap ∧ True) H locs (F0 m 2 ls []) := by
      intro n
      induction n with
      | zero =>
        intro y3l2 H locs ls hG hS hl hw
        exact (zwh_0 hw).elim
      | succ n ih2 =>
        intro y3l2 H locs ls hG hS hl hw
        obtain ⟨rr2, hf, hk2⟩ := zwh_u hw
        have hf : f_X12_named_L2 σ x1 y3l2 = some rr2 := hf
        unfold f_X12_named_L2 at hf
        refine lv_iload_n hx hb dX12_named_2 rfl (lv_at hl 2 rfl) ?_
        refine lv_aload_n hx hb dX12_named_3 rfl (lv_at hl 0 rfl) ?_
        refine z_get (c0 := 12) (i0 := 0) (k0 := 17) (T := TX12) (v := .int (zI σ 12 0 17)) S hG (hZ.2.1 (12, 0) (by decide)) rfl inlX12 (by decide) rfl zw_510 rfl dX12_named_4 ?_
        refine lv_icmp_gt (tgt := 29) hx hb dX12_named_7 (by decide) (fun c4 => ?_) (fun c4 => ?_)
        · have hf := zif_p c4 hf
          cases hf
          have hk2 : ((.inr ()) : (Int32 ⊕ Unit)) = t2 := hk2
          have hf := hfo2
          rw [← hk2] at hf
          have hf : (some (-1)) = some r := hf
          refine lv_iconst (v := (-1)) hx hb dX12_named_29 (by decide) ?_
          have hq := (Option.some.inj hf)
          subst hq
          exact z_iret S hG hS hlocks trivial hr dX12_named_30
        · have hf := zif_n c4 hf
          refine lv_aload_n hx hb dX12_named_10 rfl (lv_at hl 0 rfl) ?_
          refine z_get (c0 := 12) (i0 := 0) (k0 := 37) (T := TX12) (v := .ref (ad 12 0 38)) S hG (hZ.2.1 (12, 0) (by decide)) rfl inlX12 (by decide) rfl zw_249 rfl dX12_named_11 ?_
          refine lv_iload_n hx hb dX12_named_14 rfl (lv_at hl 2 rfl) ?_
          obtain ⟨i5, hi5, hf⟩ := zbi hf
          refine z_lald (c0 := 12) (i0 := 0) (k0 := 37) S hG (hZ.2.1 (12, 0) (by decide)) (by decide) rfl hi5 dX12_named_15 ?_
          refine lv_lload_n hx hb dX12_named_16 rfl (lv_at hl 1 rfl) ?_
          refine W.lcmp hx hb dX12_named_17 ?_
          refine lv_if_ne (tgt := 23) hx hb dX12_named_18 (by decide) (fun c6 => ?_) (fun c6 => ?_)
          · have hf := zif_n (fun h => c6 ((lg_cmp_eq (zL σ 12 0 37 i5) x1).mpr h)) hf
            refine lv_iinc (v := (y3l2 + 1)) (lv' := [(3, .int (y3l2 + 1)), (0, .ref (ad 12 0 0)), (1, .long x1)]) hx hb dX12_named_23 hl (k := 2) rfl rfl (by decide) rfl (fun ls hl => ?_)
            refine lv_goto (tgt := 2) hx hb dX12_named_26 (by decide) ?_
            cases hf
            exact ih2 (y3l2 + 1) H locs ls hG hS (lv_sub hl [1, 2, 0] rfl) hk2
          · have hf := zif_p ((lg_cmp_eq (zL σ 12 0 37 i5) x1).mp  c6) hf
            cases hf
            have hk2 : ((.inl y3l2) : (Int32 ⊕ Unit)) = t2 := hk2
            have hf := hfo2
            rw [← hk2] at hf
            have hf : (some y3l2) = some r := hf
            refine lv_iload_n hx hb dX12_named_21 rfl (lv_at hl 2 rfl) ?_
            have hq := (Option.some.inj hf)
            subst hq
            exact z_iret S hG hS hlocks trivial hr dX12_named_22
    exact KL2 zFu 1 H locs ls hG hS (lv_sub hl [1, 2, 0] rfl) hw2
  exact hK0 _ _ ls hG hS hl hf
set_option maxRecDepth 100000 in
set_option maxHeartbeats 4000000 in
theorem c_X12_asked (l : Launch) (D : va_G) (aC : Nat → ClassId) (zs : Nat × Nat) (A : Nat → Prop) (nl : zNL) (ad : Nat → Nat → Nat → Nat) (σ : zM) (x0 : Int64) (r : Int32)  (hf : f_X12_asked x0 = r) : Met l yX12_asked (Cond.code yX12_asked cX12_asked 2 (some .int) :: wsL_law) ({ frames := 0, cells := 0, slots := 0, locals := 0 } : Room) (zP D aC zs zfM A nl ad σ [.long x0]) (zQ (some (.int r)) (fun t => zG D aC A nl ad σ t t.heap ∧ True) A) 0 0 A := by
  refine Met.ofW (cc := cX12_asked) (maxL := 2) (ret := (some .int)) (by decide) rfl ?_
  intro p e s m args below meth c s₁ B hml hv
  obtain ⟨rfl, hG, hZ⟩ := hv
  have hx := B.exec
  have hb := B.bytes
  have hr := B.returns
  have hts : ∀ w ∈ wsL_law, w.before ([.long x0] : List Value).toArray s = true := fun w h => (atoms_spec B.pre) w (List.mem_cons_of_mem _ h)
  have hown : s.vm.findClass RX12 = some m.cls := findClass_of_methodNamed B.named
  have hlocks := B.notSynchronized
  have S : zS p m c cX12_asked 2 s ([.long x0] : List Value).toArray RX12 := ⟨hx, hb, hml, hown, hts⟩
  have hS : va_S A s.heap s.heap [] := va_S.rf
  have hl := lv_entry ([.long x0]) (n := 2) (Nat.le_of_ble_eq_true rfl)
  rw [lg_entry_eq]
  generalize (lg_sl ([.long x0]) ++ List.replicate (2 - (lg_sl ([.long x0])).length) Slot.unset).toArray = ls at hl ⊢
  have hl : lv_has ls 2 [(0, .long x0)] := hl
  generalize hargs : ([.long x0] : List Value).toArray = args at S hts ⊢
  clear hargs
  have hK0 : ∀ (H : Heap) (locs : List Loc) (ls : Array Slot), zG D aC A nl ad σ s H → va_S A s.heap H locs → lv_has ls 2 [(0, .long x0)] → f_X12_asked x0 = r → zWk p l e ({ frames := 0, cells := 0, slots := 0, locals := 0 } : Room) s m args below meth c A (some (.int r)) (fun t => zG D aC A nl ad σ t t.heap ∧ True) H locs (F0 m 0 ls []) := by
    intro H locs ls hG hS hl hf
    unfold f_X12_asked at hf
    refine lv_lload_n hx hb dX12_asked_0 rfl (lv_at hl 0 rfl) ?_
    refine lv_ldc2 (v := 426903366771) hx hb hown (hts _ zw_583) dX12_asked_1 ?_
    refine W.lcmp hx hb dX12_asked_4 ?_
    refine lv_if_ne (tgt := 12) hx hb dX12_asked_5 (by decide) (fun c1 => ?_) (fun c1 => ?_)
    · have hf := zif_n (fun h => c1 ((lg_cmp_eq x0 426903366771).mpr h)) hf
      refine lv_lload_n hx hb dX12_asked_12 rfl (lv_at hl 0 rfl) ?_
      refine lv_ldc2 (v := 1668248436) hx hb hown (hts _ zw_538) dX12_asked_13 ?_
      refine W.lcmp hx hb dX12_asked_16 ?_
      refine lv_if_ne (tgt := 24) hx hb dX12_asked_17 (by decide) (fun c2 => ?_) (fun c2 => ?_)
      · have hf := zif_n (fun h => c2 ((lg_cmp_eq x0 1668248436).mpr h)) hf
        refine lv_lload_n hx hb dX12_asked_24 rfl (lv_at hl 0 rfl) ?_
        refine lv_ldc2 (v := 2002876787) hx hb hown (hts _ zw_584) dX12_asked_25 ?_
        refine W.lcmp hx hb dX12_asked_28 ?_
        refine lv_if_ne (tgt := 36) hx hb dX12_asked_29 (by decide) (fun c3 => ?_) (fun c3 => ?_)
        · have hf := zif_n (fun h => c3 ((lg_cmp_eq x0 2002876787).mpr h)) hf
          refine lv_lload_n hx hb dX12_asked_36 rfl (lv_at hl 0 rfl) ?_
          refine lv_ldc2 (v := 126943687701107) hx hb hown (hts _ zw_585) dX12_asked_37 ?_
          refine W.lcmp hx hb dX12_asked_40 ?_
          refine lv_if_ne (tgt := 48) hx hb dX12_asked_41 (by decide) (fun c4 => ?_) (fun c4 => ?_)
          · have hf := zif_n (fun h => c4 ((lg_cmp_eq x0 126943687701107).mpr h)) hf
            refine lv_lload_n hx hb dX12_asked_48 rfl (lv_at hl 0 rfl) ?_
            refine lv_ldc2 (v := 491495845235) hx hb hown (hts _ zw_586) dX12_asked_49 ?_
            refine W.lcmp hx hb dX12_asked_52 ?_
            refine lv_if_ne (tgt := 60) hx hb dX12_asked_53 (by decide) (fun c5 => ?_) (fun c5 => ?_)
            · have hf := zif_n (fun h => c5 ((lg_cmp_eq x0 491495845235).mpr h)) hf
              refine lv_lload_n hx hb dX12_asked_60 rfl (lv_at hl 0 rfl) ?_
              refine lv_ldc2 (v := 1684107883) hx hb hown (hts _ zw_587) dX12_asked_61 ?_
              refine W.lcmp hx hb dX12_asked_64 ?_
              refine lv_if_ne (tgt := 72) hx hb dX12_asked_65 (by decide) (fun c6 => ?_) (fun c6 => ?_)
              · have hf := zif_n (fun h => c6 ((lg_cmp_eq x0 1684107883).mpr h)) hf
                refine lv_lload_n hx hb dX12_asked_72 rfl (lv_at hl 0 rfl) ?_
                refine lv_ldc2 (v := 1818326117) hx hb hown (hts _ zw_588) dX12_asked_73 ?_
                refine W.lcmp hx hb dX12_asked_76 ?_
                refine lv_if_ne (tgt := 85) hx hb dX12_asked_77 (by decide) (fun c7 => ?_) (fun c7 => ?_)
                · have hf := zif_n (fun h => c7 ((lg_cmp_eq x0 1818326117).mpr h)) hf
                  refine lv_lload_n hx hb dX12_asked_85 rfl (lv_at hl 0 rfl) ?_
                  refine lv_ldc2 (v := 32497644331170163) hx hb hown (hts _ zw_589) dX12_asked_86 ?_
                  refine W.lcmp hx hb dX12_asked_89 ?_
                  refine lv_if_ne (tgt := 98) hx hb dX12_asked_90 (by decide) (fun c8 => ?_) (fun c8 => ?_)
                  · have hf := zif_n (fun h => c8 ((lg_cmp_eq x0 32497644331170163).mpr h)) hf
                    refine lv_iconst (v := (-1)) hx hb dX12_asked_98 (by decide) ?_
                    have hq := hf
                    subst hq
                    exact z_iret S hG hS hlocks trivial hr dX12_asked_99
                  · have hf := zif_p ((lg_cmp_eq x0 32497644331170163).mp  c8) hf
                    refine lv_bipush (v := 7) hx hb dX12_asked_93 (by decide) ?_
                    refine lv_goto (tgt := 99) hx hb dX12_asked_95 (by decide) ?_
                    have hq := hf
                    subst hq
                    exact z_iret S hG hS hlocks trivial hr dX12_asked_99
                · have hf := zif_p ((lg_cmp_eq x0 1818326117).mp  c7) hf
                  refine lv_bipush (v := 6) hx hb dX12_asked_80 (by decide) ?_
                  refine lv_goto (tgt := 99) hx hb dX12_asked_82 (by decide) ?_
                  have hq := hf
                  subst hq
                  exact z_iret S hG hS hlocks trivial hr dX12_asked_99
              · have hf := zif_p ((lg_cmp_eq x0 1684107883).mp  c6) hf
                refine lv_iconst (v := 5) hx hb dX12_asked_68 (by decide) ?_
                refine lv_goto (tgt := 99) hx hb dX12_asked_69 (by decide) ?_
                have hq := hf
                subst hq
                exact z_iret S hG hS hlocks trivial hr dX12_asked_99
            · have hf := zif_p ((lg_cmp_eq x0 491495845235).mp  c5) hf
              refine lv_iconst (v := 4) hx hb dX12_asked_56 (by decide) ?_
              refine lv_goto (tgt := 99) hx hb dX12_asked_57 (by decide) ?_
              have hq := hf
              subst hq
              exact z_iret S hG hS hlocks trivial hr dX12_asked_99
          · have hf := zif_p ((lg_cmp_eq x0 126943687701107).mp  c4) hf
            refine lv_iconst (v := 3) hx hb dX12_asked_44 (by decide) ?_
            refine lv_goto (tgt := 99) hx hb dX12_asked_45 (by decide) ?_
            have hq := hf
            subst hq
            exact z_iret S hG hS hlocks trivial hr dX12_asked_99
        · have hf := zif_p ((lg_cmp_eq x0 2002876787).mp  c3) hf
          refine lv_iconst (v := 2) hx hb dX12_asked_32 (by decide) ?_
          refine lv_goto (tgt := 99) hx hb dX12_asked_33 (by decide) ?_
          have hq := hf
          subst hq
          exact z_iret S hG hS hlocks trivial hr dX12_asked_99
      · have hf := zif_p ((lg_cmp_eq x0 1668248436).mp  c2) hf
        refine lv_iconst (v := 1) hx hb dX12_asked_20 (by decide) ?_
        refine lv_goto (tgt := 99) hx hb dX12_asked_21 (by decide) ?_
        have hq := hf
        subst hq
        exact z_iret S hG hS hlocks trivial hr dX12_asked_99
    · have hf := zif_p ((lg_cmp_eq x0 426903366771).mp  c1) hf
      refine lv_iconst (v := 0) hx hb dX12_asked_8 (by decide) ?_
      refine lv_goto (tgt := 99) hx hb dX12_asked_9 (by decide) ?_
      have hq := hf
      subst hq
      exact z_iret S hG hS hlocks trivial hr dX12_asked_99
  exact hK0 _ _ ls hG hS hl hf
set_option maxRecDepth 100000 in
set_option maxHeartbeats 4000000 in
theorem c_X12_isKept (l : Launch) (D : va_G) (aC : Nat → ClassId) (zs : Nat × Nat) (A : Nat → Prop) (nl : zNL) (ad : Nat → Nat → Nat → Nat) (σ : zM) (x0 : Int64) (r : Int32)  (hf : f_X12_isKept x0 = r) : Met l yX12_isKept (Cond.code yX12_isKept cX12_isKept 3 (some .boolean) :: wsL_law) ({ frames := 1, cells := 0, slots := 0, locals := 21 } : Room) (zP D aC zs zfM A nl ad σ [.long x0]) (zQ (some (.int r)) (fun t => zG D aC A nl ad σ t t.heap ∧ (r = 0 ∨ r = 1)) A) 0 0 A := by
  refine Met.ofW (cc := cX12_isKept) (maxL := 3) (ret := (some .boolean)) (by decide) rfl ?_
  intro p e s m args below meth c s₁ B hml hv
  obtain ⟨rfl, hG, hZ⟩ := hv
  have hx := B.exec
  have hb := B.bytes
  have hr := B.returns
  have hts : ∀ w ∈ wsL_law, w.before ([.long x0] : List Value).toArray s = true := fun w h => (atoms_spec B.pre) w (List.mem_cons_of_mem _ h)
  have hown : s.vm.findClass RX12 = some m.cls := findClass_of_methodNamed B.named
  have hlocks := B.notSynchronized
  have S : zS p m c cX12_isKept 3 s ([.long x0] : List Value).toArray RX12 := ⟨hx, hb, hml, hown, hts⟩
  have hS : va_S A s.heap s.heap [] := va_S.rf
  have hl := lv_entry ([.long x0]) (n := 3) (Nat.le_of_ble_eq_true rfl)
  rw [lg_entry_eq]
  generalize (lg_sl ([.long x0]) ++ List.replicate (3 - (lg_sl ([.long x0])).length) Slot.unset).toArray = ls at hl ⊢
  have hl : lv_has ls 3 [(0, .long x0)] := hl
  generalize hargs : ([.long x0] : List Value).toArray = args at S hts ⊢
  clear hargs
  have KJ260 : ∀ (H : Heap) (locs : List Loc) (ls : Array Slot), zG D aC A nl ad σ s H → va_S A s.heap H locs → lv_has ls 3 [(0, .long x0)] → (f_X12_isKept_B260 x0) = r → zWk p l e ({ frames := 1, cells := 0, slots := 0, locals := 21 } : Room) s m args below meth c A (some (.int r)) (fun t => zG D aC A nl ad σ t t.heap ∧ (r = 0 ∨ r = 1)) H locs (F0 m 260 ls []) := by
    intro    H locs ls hG hS hl hf
    unfold f_X12_isKept_B260 at hf
    refine lv_iconst (v := 1) hx hb dX12_isKept_260 (by decide) ?_
    refine lv_goto (tgt := 265) hx hb dX12_isKept_261 (by decide) ?_
    have hq := hf
    subst hq
    exact z_zret S hG hS hlocks (Or.inr rfl) hr dX12_isKept_265
  have hK0 : ∀ (H : Heap) (locs : List Loc) (ls : Array Slot), zG D aC A nl ad σ s H → va_S A s.heap H locs → lv_has ls 3 [(0, .long x0)] → f_X12_isKept x0 = r → zWk p l e ({ frames := 1, cells := 0, slots := 0, locals := 21 } : Room) s m args below meth c A (some (.int r)) (fun t => zG D aC A nl ad σ t t.heap ∧ (r = 0 ∨ r = 1)) H locs (F0 m 0 ls []) := by
    intro H locs ls hG hS hl hf
    unfold f_X12_isKept at hf
    refine lv_lload_n hx hb dX12_isKept_0 rfl (lv_at hl 0 rfl) ?_
    refine lv_ldc2 (v := 1919905645) hx hb hown (hts _ zw_529) dX12_isKept_1 ?_
    refine W.lcmp hx hb dX12_isKept_4 ?_
    have Kv17 : ∀ (v17 : Int32) (ls : Array Slot), lv_has ls 3 [(0, .long x0)] → (if (if v17 = 0 then (if x0 = 26982 then 1 else (if x0 = 427021005669 then 1 else (if x0 = 1801807216 then 1 else (if x0 = 1987015781 then 1 else (if x0 = 439855772532 then 1 else (if x0 = 1918987883 then 1 else (if x0 = 1885432178 then 1 else (if x0 = 7629157 then 1 else (if x0 = 1751474532 then 1 else (if x0 = 121450625394034 then 1 else (if x0 = 6710629 then 1 else (if x0 = 28530 then 1 else (if x0 = 6385252 then 1 else (if x0 = 7237492 then 1 else 0)))))))))))))) else 1 : Int32) = 0 then (if (f_X12_asked x0) = (-1) then 0 else (f_X12_isKept_B260 x0)) else (f_X12_isKept_B260 x0)) = r → zWk p l e ({ frames := 1, cells := 0, slots := 0, locals := 21 } : Room) s m args below meth c A (some (.int r)) (fun t => zG D aC A nl ad σ t t.heap ∧ (r = 0 ∨ r = 1)) H locs (F0 m 125 ls [.int v17]) := by
      intro v17 ls hl hf
      refine lv_istore_n (lv' := [(2, .int v17), (0, .long x0)]) hx hb dX12_isKept_125 rfl hl (by decide) rfl (fun ls hl => ?_)
      refine lv_iload_n hx hb dX12_isKept_126 rfl (lv_at hl 0 rfl) ?_
      have Kv57 : ∀ (v57 : Int32) (ls : Array Slot), lv_has ls 3 [(2, .int v17), (0, .long x0)] → (if v57 = 0 then (if (f_X12_asked x0) = (-1) then 0 else (f_X12_isKept_B260 x0)) else (f_X12_isKept_B260 x0)) = r → zWk p l e ({ frames := 1, cells := 0, slots := 0, locals := 21 } : Room) s m args below meth c A (some (.int r)) (fun t => zG D aC A nl ad σ t t.heap ∧ (r = 0 ∨ r = 1)) H locs (F0 m 247 ls [.int v57]) := by
        intro v57 ls hl hf
        refine lv_istore_n (lv' := [(2, .int v57), (0, .long x0)]) hx hb dX12_isKept_247 rfl hl (by decide) rfl (fun ls hl => ?_)
        refine lv_iload_n hx hb dX12_isKept_248 rfl (lv_at hl 0 rfl) ?_
        refine lv_if_ne (tgt := 260) hx hb dX12_isKept_249 (by decide) (fun c61 => ?_) (fun c61 => ?_)
        · have hf := zif_n c61 hf
          exact KJ260 H locs ls hG hS (lv_sub hl [1] rfl) hf
        · have hf := zif_p c61 hf
          refine lv_lload_n hx hb dX12_isKept_252 rfl (lv_at hl 1 rfl) ?_
          refine z_callS (n := 1) (rest := []) (st1 := [.int (f_X12_asked x0)]) S hG hS hZ (fun _ _ h => h) (c_X12_asked l D aC zs A nl ad σ x0 (f_X12_asked x0) rfl) zw_580 zw_581 zw_5 zw_582 (by decide +kernel) ⟨rfl, rfl⟩ ⟨(Nat.le_of_ble_eq_true rfl), (Nat.le_of_ble_eq_true rfl)⟩ hl.1 rfl (by rfl) (by rfl) (Nat.le_of_ble_eq_true rfl) dX12_isKept_253 ⟨Nat.zero_le _, Nat.zero_le _⟩ (fun H locs hz62 hG hS => ?_)
          refine lv_iconst (v := (-1)) hx hb dX12_isKept_256 (by decide) ?_
          refine lv_icmp_eq (tgt := 264) hx hb dX12_isKept_257 (by decide) (fun c63 => ?_) (fun c63 => ?_)
          · have hf := zif_p c63 hf
            refine lv_iconst (v := 0) hx hb dX12_isKept_264 (by decide) ?_
            have hq := hf
            subst hq
            exact z_zret S hG hS hlocks (Or.inl rfl) hr dX12_isKept_265
          · have hf := zif_n c63 hf
            exact KJ260 H locs ls hG hS (lv_sub hl [1] rfl) hf
      refine lv_if_ne (tgt := 242) hx hb dX12_isKept_127 (by decide) (fun c42 => ?_) (fun c42 => ?_)
      · rw [if_neg c42] at hf
        refine lv_iconst (v := 1) hx hb dX12_isKept_242 (by decide) ?_
        refine lv_goto (tgt := 247) hx hb dX12_isKept_243 (by decide) ?_
        exact Kv57 _ ls hl hf
      · rw [if_pos c42] at hf
        refine lv_lload_n hx hb dX12_isKept_130 rfl (lv_at hl 1 rfl) ?_
        refine lv_ldc2 (v := 26982) hx hb hown (hts _ zw_571) dX12_isKept_131 ?_
        refine W.lcmp hx hb dX12_isKept_134 ?_
        refine lv_if_eq (tgt := 242) hx hb dX12_isKept_135 (by decide) (fun c43 => ?_) (fun c43 => ?_)
        · rw [if_pos ((lg_cmp_eq x0 26982).mp c43)] at hf
          refine lv_iconst (v := 1) hx hb dX12_isKept_242 (by decide) ?_
          refine lv_goto (tgt := 247) hx hb dX12_isKept_243 (by decide) ?_
          exact Kv57 _ ls hl hf
        · rw [if_neg (fun h => c43 ((lg_cmp_eq x0 26982).mpr h))] at hf
          refine lv_lload_n hx hb dX12_isKept_138 rfl (lv_at hl 1 rfl) ?_
          refine lv_ldc2 (v := 427021005669) hx hb hown (hts _ zw_540) dX12_isKept_139 ?_
          refine W.lcmp hx hb dX12_isKept_142 ?_
          refine lv_if_eq (tgt := 242) hx hb dX12_isKept_143 (by decide) (fun c44 => ?_) (fun c44 => ?_)
          · rw [if_pos ((lg_cmp_eq x0 427021005669).mp c44)] at hf
            refine lv_iconst (v := 1) hx hb dX12_isKept_242 (by decide) ?_
            refine lv_goto (tgt := 247) hx hb dX12_isKept_243 (by decide) ?_
            exact Kv57 _ ls hl hf
          · rw [if_neg (fun h => c44 ((lg_cmp_eq x0 427021005669).mpr h))] at hf
            refine lv_lload_n hx hb dX12_isKept_146 rfl (lv_at hl 1 rfl) ?_
            refine lv_ldc2 (v := 1801807216) hx hb hown (hts _ zw_542) dX12_isKept_147 ?_
            refine W.lcmp hx hb dX12_isKept_150 ?_
            refine lv_if_eq (tgt := 242) hx hb dX12_isKept_151 (by decide) (fun c45 => ?_) (fun c45 => ?_)
            · rw [if_pos ((lg_cmp_eq x0 1801807216).mp c45)] at hf
              refine lv_iconst (v := 1) hx hb dX12_isKept_242 (by decide) ?_
              refine lv_goto (tgt := 247) hx hb dX12_isKept_243 (by decide) ?_
              exact Kv57 _ ls hl hf
            · rw [if_neg (fun h => c45 ((lg_cmp_eq x0 1801807216).mpr h))] at hf
              refine lv_lload_n hx hb dX12_isKept_154 rfl (lv_at hl 1 rfl) ?_
              refine lv_ldc2 (v := 1987015781) hx hb hown (hts _ zw_543) dX12_isKept_155 ?_
              refine W.lcmp hx hb dX12_isKept_158 ?_
              refine lv_if_eq (tgt := 242) hx hb dX12_isKept_159 (by decide) (fun c46 => ?_) (fun c46 => ?_)
              · rw [if_pos ((lg_cmp_eq x0 1987015781).mp c46)] at hf
                refine lv_iconst (v := 1) hx hb dX12_isKept_242 (by decide) ?_
                refine lv_goto (tgt := 247) hx hb dX12_isKept_243 (by decide) ?_
                exact Kv57 _ ls hl hf
              · rw [if_neg (fun h => c46 ((lg_cmp_eq x0 1987015781).mpr h))] at hf
                refine lv_lload_n hx hb dX12_isKept_162 rfl (lv_at hl 1 rfl) ?_
                refine lv_ldc2 (v := 439855772532) hx hb hown (hts _ zw_572) dX12_isKept_163 ?_
                refine W.lcmp hx hb dX12_isKept_166 ?_
                refine lv_if_eq (tgt := 242) hx hb dX12_isKept_167 (by decide) (fun c47 => ?_) (fun c47 => ?_)
                · rw [if_pos ((lg_cmp_eq x0 439855772532).mp c47)] at hf
                  refine lv_iconst (v := 1) hx hb dX12_isKept_242 (by decide) ?_
                  refine lv_goto (tgt := 247) hx hb dX12_isKept_243 (by decide) ?_
                  exact Kv57 _ ls hl hf
                · rw [if_neg (fun h => c47 ((lg_cmp_eq x0 439855772532).mpr h))] at hf
                  refine lv_lload_n hx hb dX12_isKept_170 rfl (lv_at hl 1 rfl) ?_
                  refine lv_ldc2 (v := 1918987883) hx hb hown (hts _ zw_573) dX12_isKept_171 ?_
                  refine W.lcmp hx hb dX12_isKept_174 ?_
                  refine lv_if_eq (tgt := 242) hx hb dX12_isKept_175 (by decide) (fun c48 => ?_) (fun c48 => ?_)
                  · rw [if_pos ((lg_cmp_eq x0 1918987883).mp c48)] at hf
                    refine lv_iconst (v := 1) hx hb dX12_isKept_242 (by decide) ?_
                    refine lv_goto (tgt := 247) hx hb dX12_isKept_243 (by decide) ?_
                    exact Kv57 _ ls hl hf
                  · rw [if_neg (fun h => c48 ((lg_cmp_eq x0 1918987883).mpr h))] at hf
                    refine lv_lload_n hx hb dX12_isKept_178 rfl (lv_at hl 1 rfl) ?_
                    refine lv_ldc2 (v := 1885432178) hx hb hown (hts _ zw_574) dX12_isKept_179 ?_
                    refine W.lcmp hx hb dX12_isKept_182 ?_
                    refine lv_if_eq (tgt := 242) hx hb dX12_isKept_183 (by decide) (fun c49 => ?_) (fun c49 => ?_)
                    · rw [if_pos ((lg_cmp_eq x0 1885432178).mp c49)] at hf
                      refine lv_iconst (v := 1) hx hb dX12_isKept_242 (by decide) ?_
                      refine lv_goto (tgt := 247) hx hb dX12_isKept_243 (by decide) ?_
                      exact Kv57 _ ls hl hf
                    · rw [if_neg (fun h => c49 ((lg_cmp_eq x0 1885432178).mpr h))] at hf
                      refine lv_lload_n hx hb dX12_isKept_186 rfl (lv_at hl 1 rfl) ?_
                      refine lv_ldc2 (v := 7629157) hx hb hown (hts _ zw_544) dX12_isKept_187 ?_
                      refine W.lcmp hx hb dX12_isKept_190 ?_
                      refine lv_if_eq (tgt := 242) hx hb dX12_isKept_191 (by decide) (fun c50 => ?_) (fun c50 => ?_)
                      · rw [if_pos ((lg_cmp_eq x0 7629157).mp c50)] at hf
                        refine lv_iconst (v := 1) hx hb dX12_isKept_242 (by decide) ?_
                        refine lv_goto (tgt := 247) hx hb dX12_isKept_243 (by decide) ?_
                        exact Kv57 _ ls hl hf
                      · rw [if_neg (fun h => c50 ((lg_cmp_eq x0 7629157).mpr h))] at hf
                        refine lv_lload_n hx hb dX12_isKept_194 rfl (lv_at hl 1 rfl) ?_
                        refine lv_ldc2 (v := 1751474532) hx hb hown (hts _ zw_575) dX12_isKept_195 ?_
                        refine W.lcmp hx hb dX12_isKept_198 ?_
                        refine lv_if_eq (tgt := 242) hx hb dX12_isKept_199 (by decide) (fun c51 => ?_) (fun c51 => ?_)
                        · rw [if_pos ((lg_cmp_eq x0 1751474532).mp c51)] at hf
                          refine lv_iconst (v := 1) hx hb dX12_isKept_242 (by decide) ?_
                          refine lv_goto (tgt := 247) hx hb dX12_isKept_243 (by decide) ?_
                          exact Kv57 _ ls hl hf
                        · rw [if_neg (fun h => c51 ((lg_cmp_eq x0 1751474532).mpr h))] at hf
                          refine lv_lload_n hx hb dX12_isKept_202 rfl (lv_at hl 1 rfl) ?_
                          refine lv_ldc2 (v := 121450625394034) hx hb hown (hts _ zw_576) dX12_isKept_203 ?_
                          refine W.lcmp hx hb dX12_isKept_206 ?_
                          refine lv_if_eq (tgt := 242) hx hb dX12_isKept_207 (by decide) (fun c52 => ?_) (fun c52 => ?_)
                          · rw [if_pos ((lg_cmp_eq x0 121450625394034).mp c52)] at hf
                            refine lv_iconst (v := 1) hx hb dX12_isKept_242 (by decide) ?_
                            refine lv_goto (tgt := 247) hx hb dX12_isKept_243 (by decide) ?_
                            exact Kv57 _ ls hl hf
                          · rw [if_neg (fun h => c52 ((lg_cmp_eq x0 121450625394034).mpr h))] at hf
                            refine lv_lload_n hx hb dX12_isKept_210 rfl (lv_at hl 1 rfl) ?_
                            refine lv_ldc2 (v := 6710629) hx hb hown (hts _ zw_545) dX12_isKept_211 ?_
                            refine W.lcmp hx hb dX12_isKept_214 ?_
                            refine lv_if_eq (tgt := 242) hx hb dX12_isKept_215 (by decide) (fun c53 => ?_) (fun c53 => ?_)
                            · rw [if_pos ((lg_cmp_eq x0 6710629).mp c53)] at hf
                              refine lv_iconst (v := 1) hx hb dX12_isKept_242 (by decide) ?_
                              refine lv_goto (tgt := 247) hx hb dX12_isKept_243 (by decide) ?_
                              exact Kv57 _ ls hl hf
                            · rw [if_neg (fun h => c53 ((lg_cmp_eq x0 6710629).mpr h))] at hf
                              refine lv_lload_n hx hb dX12_isKept_218 rfl (lv_at hl 1 rfl) ?_
                              refine lv_ldc2 (v := 28530) hx hb hown (hts _ zw_577) dX12_isKept_219 ?_
                              refine W.lcmp hx hb dX12_isKept_222 ?_
                              refine lv_if_eq (tgt := 242) hx hb dX12_isKept_223 (by decide) (fun c54 => ?_) (fun c54 => ?_)
                              · rw [if_pos ((lg_cmp_eq x0 28530).mp c54)] at hf
                                refine lv_iconst (v := 1) hx hb dX12_isKept_242 (by decide) ?_
                                refine lv_goto (tgt := 247) hx hb dX12_isKept_243 (by decide) ?_
                                exact Kv57 _ ls hl hf
                              · rw [if_neg (fun h => c54 ((lg_cmp_eq x0 28530).mpr h))] at hf
                                refine lv_lload_n hx hb dX12_isKept_226 rfl (lv_at hl 1 rfl) ?_
                                refine lv_ldc2 (v := 6385252) hx hb hown (hts _ zw_578) dX12_isKept_227 ?_
                                refine W.lcmp hx hb dX12_isKept_230 ?_
                                refine lv_if_eq (tgt := 242) hx hb dX12_isKept_231 (by decide) (fun c55 => ?_) (fun c55 => ?_)
                                · rw [if_pos ((lg_cmp_eq x0 6385252).mp c55)] at hf
                                  refine lv_iconst (v := 1) hx hb dX12_isKept_242 (by decide) ?_
                                  refine lv_goto (tgt := 247) hx hb dX12_isKept_243 (by decide) ?_
                                  exact Kv57 _ ls hl hf
                                · rw [if_neg (fun h => c55 ((lg_cmp_eq x0 6385252).mpr h))] at hf
                                  refine lv_lload_n hx hb dX12_isKept_234 rfl (lv_at hl 1 rfl) ?_
                                  refine lv_ldc2 (v := 7237492) hx hb hown (hts _ zw_579) dX12_isKept_235 ?_
                                  refine W.lcmp hx hb dX12_isKept_238 ?_
                                  refine lv_if_ne (tgt := 246) hx hb dX12_isKept_239 (by decide) (fun c56 => ?_) (fun c56 => ?_)
                                  · rw [if_neg (fun h => c56 ((lg_cmp_eq x0 7237492).mpr h))] at hf
                                    refine lv_iconst (v := 0) hx hb dX12_isKept_246 (by decide) ?_
                                    exact Kv57 _ ls hl hf
                                  · rw [if_pos ((lg_cmp_eq x0 7237492).mp  c56)] at hf
                                    refine lv_iconst (v := 1) hx hb dX12_isKept_242 (by decide) ?_
                                    refine lv_goto (tgt := 247) hx hb dX12_isKept_243 (by decide) ?_
                                    exact Kv57 _ ls hl hf
    refine lv_if_eq (tgt := 120) hx hb dX12_isKept_5 (by decide) (fun c2 => ?_) (fun c2 => ?_)
    · rw [if_pos ((lg_cmp_eq x0 1919905645).mp c2)] at hf
      refine lv_iconst (v := 1) hx hb dX12_isKept_120 (by decide) ?_
      refine lv_goto (tgt := 125) hx hb dX12_isKept_121 (by decide) ?_
      exact Kv17 _ ls hl hf
    · rw [if_neg (fun h => c2 ((lg_cmp_eq x0 1919905645).mpr h))] at hf
      refine lv_lload_n hx hb dX12_isKept_8 rfl (lv_at hl 0 rfl) ?_
      refine lv_ldc2 (v := 465557353332) hx hb hown (hts _ zw_560) dX12_isKept_9 ?_
      refine W.lcmp hx hb dX12_isKept_12 ?_
      refine lv_if_eq (tgt := 120) hx hb dX12_isKept_13 (by decide) (fun c3 => ?_) (fun c3 => ?_)
      · rw [if_pos ((lg_cmp_eq x0 465557353332).mp c3)] at hf
        refine lv_iconst (v := 1) hx hb dX12_isKept_120 (by decide) ?_
        refine lv_goto (tgt := 125) hx hb dX12_isKept_121 (by decide) ?_
        exact Kv17 _ ls hl hf
      · rw [if_neg (fun h => c3 ((lg_cmp_eq x0 465557353332).mpr h))] at hf
        refine lv_lload_n hx hb dX12_isKept_16 rfl (lv_at hl 0 rfl) ?_
        refine lv_ldc2 (v := 465624852596) hx hb hown (hts _ zw_561) dX12_isKept_17 ?_
        refine W.lcmp hx hb dX12_isKept_20 ?_
        refine lv_if_eq (tgt := 120) hx hb dX12_isKept_21 (by decide) (fun c4 => ?_) (fun c4 => ?_)
        · rw [if_pos ((lg_cmp_eq x0 465624852596).mp c4)] at hf
          refine lv_iconst (v := 1) hx hb dX12_isKept_120 (by decide) ?_
          refine lv_goto (tgt := 125) hx hb dX12_isKept_121 (by decide) ?_
          exact Kv17 _ ls hl hf
        · rw [if_neg (fun h => c4 ((lg_cmp_eq x0 465624852596).mpr h))] at hf
          refine lv_lload_n hx hb dX12_isKept_24 rfl (lv_at hl 0 rfl) ?_
          refine lv_ldc2 (v := 1852137842) hx hb hown (hts _ zw_530) dX12_isKept_25 ?_
          refine W.lcmp hx hb dX12_isKept_28 ?_
          refine lv_if_eq (tgt := 120) hx hb dX12_isKept_29 (by decide) (fun c5 => ?_) (fun c5 => ?_)
          · rw [if_pos ((lg_cmp_eq x0 1852137842).mp c5)] at hf
            refine lv_iconst (v := 1) hx hb dX12_isKept_120 (by decide) ?_
            refine lv_goto (tgt := 125) hx hb dX12_isKept_121 (by decide) ?_
            exact Kv17 _ ls hl hf
          · rw [if_neg (fun h => c5 ((lg_cmp_eq x0 1852137842).mpr h))] at hf
            refine lv_lload_n hx hb dX12_isKept_32 rfl (lv_at hl 0 rfl) ?_
            refine lv_ldc2 (v := 131294808271214) hx hb hown (hts _ zw_531) dX12_isKept_33 ?_
            refine W.lcmp hx hb dX12_isKept_36 ?_
            refine lv_if_eq (tgt := 120) hx hb dX12_isKept_37 (by decide) (fun c6 => ?_) (fun c6 => ?_)
            · rw [if_pos ((lg_cmp_eq x0 131294808271214).mp c6)] at hf
              refine lv_iconst (v := 1) hx hb dX12_isKept_120 (by decide) ?_
              refine lv_goto (tgt := 125) hx hb dX12_isKept_121 (by decide) ?_
              exact Kv17 _ ls hl hf
            · rw [if_neg (fun h => c6 ((lg_cmp_eq x0 131294808271214).mpr h))] at hf
              refine lv_lload_n hx hb dX12_isKept_40 rfl (lv_at hl 0 rfl) ?_
              refine lv_ldc2 (v := 418497262196) hx hb hown (hts _ zw_532) dX12_isKept_41 ?_
              refine W.lcmp hx hb dX12_isKept_44 ?_
              refine lv_if_eq (tgt := 120) hx hb dX12_isKept_45 (by decide) (fun c7 => ?_) (fun c7 => ?_)
              · rw [if_pos ((lg_cmp_eq x0 418497262196).mp c7)] at hf
                refine lv_iconst (v := 1) hx hb dX12_isKept_120 (by decide) ?_
                refine lv_goto (tgt := 125) hx hb dX12_isKept_121 (by decide) ?_
                exact Kv17 _ ls hl hf
              · rw [if_neg (fun h => c7 ((lg_cmp_eq x0 418497262196).mpr h))] at hf
                refine lv_lload_n hx hb dX12_isKept_48 rfl (lv_at hl 0 rfl) ?_
                refine lv_ldc2 (v := 25209) hx hb hown (hts _ zw_533) dX12_isKept_49 ?_
                refine W.lcmp hx hb dX12_isKept_52 ?_
                refine lv_if_eq (tgt := 120) hx hb dX12_isKept_53 (by decide) (fun c8 => ?_) (fun c8 => ?_)
                · rw [if_pos ((lg_cmp_eq x0 25209).mp c8)] at hf
                  refine lv_iconst (v := 1) hx hb dX12_isKept_120 (by decide) ?_
                  refine lv_goto (tgt := 125) hx hb dX12_isKept_121 (by decide) ?_
                  exact Kv17 _ ls hl hf
                · rw [if_neg (fun h => c8 ((lg_cmp_eq x0 25209).mpr h))] at hf
                  refine lv_lload_n hx hb dX12_isKept_56 rfl (lv_at hl 0 rfl) ?_
                  refine lv_ldc2 (v := 1918989413) hx hb hown (hts _ zw_534) dX12_isKept_57 ?_
                  refine W.lcmp hx hb dX12_isKept_60 ?_
                  refine lv_if_eq (tgt := 120) hx hb dX12_isKept_61 (by decide) (fun c9 => ?_) (fun c9 => ?_)
                  · rw [if_pos ((lg_cmp_eq x0 1918989413).mp c9)] at hf
                    refine lv_iconst (v := 1) hx hb dX12_isKept_120 (by decide) ?_
                    refine lv_goto (tgt := 125) hx hb dX12_isKept_121 (by decide) ?_
                    exact Kv17 _ ls hl hf
                  · rw [if_neg (fun h => c9 ((lg_cmp_eq x0 1918989413).mpr h))] at hf
                    refine lv_lload_n hx hb dX12_isKept_64 rfl (lv_at hl 0 rfl) ?_
                    refine lv_ldc2 (v := 2002873452) hx hb hown (hts _ zw_535) dX12_isKept_65 ?_
                    refine W.lcmp hx hb dX12_isKept_68 ?_
                    refine lv_if_eq (tgt := 120) hx hb dX12_isKept_69 (by decide) (fun c10 => ?_) (fun c10 => ?_)
                    · rw [if_pos ((lg_cmp_eq x0 2002873452).mp c10)] at hf
                      refine lv_iconst (v := 1) hx hb dX12_isKept_120 (by decide) ?_
                      refine lv_goto (tgt := 125) hx hb dX12_isKept_121 (by decide) ?_
                      exact Kv17 _ ls hl hf
                    · rw [if_neg (fun h => c10 ((lg_cmp_eq x0 2002873452).mpr h))] at hf
                      refine lv_lload_n hx hb dX12_isKept_72 rfl (lv_at hl 0 rfl) ?_
                      refine lv_ldc2 (v := 7823737) hx hb hown (hts _ zw_536) dX12_isKept_73 ?_
                      refine W.lcmp hx hb dX12_isKept_76 ?_
                      refine lv_if_eq (tgt := 120) hx hb dX12_isKept_77 (by decide) (fun c11 => ?_) (fun c11 => ?_)
                      · rw [if_pos ((lg_cmp_eq x0 7823737).mp c11)] at hf
                        refine lv_iconst (v := 1) hx hb dX12_isKept_120 (by decide) ?_
                        refine lv_goto (tgt := 125) hx hb dX12_isKept_121 (by decide) ?_
                        exact Kv17 _ ls hl hf
                      · rw [if_neg (fun h => c11 ((lg_cmp_eq x0 7823737).mpr h))] at hf
                        refine lv_lload_n hx hb dX12_isKept_80 rfl (lv_at hl 0 rfl) ?_
                        refine lv_ldc2 (v := 495873780082) hx hb hown (hts _ zw_537) dX12_isKept_81 ?_
                        refine W.lcmp hx hb dX12_isKept_84 ?_
                        refine lv_if_eq (tgt := 120) hx hb dX12_isKept_85 (by decide) (fun c12 => ?_) (fun c12 => ?_)
                        · rw [if_pos ((lg_cmp_eq x0 495873780082).mp c12)] at hf
                          refine lv_iconst (v := 1) hx hb dX12_isKept_120 (by decide) ?_
                          refine lv_goto (tgt := 125) hx hb dX12_isKept_121 (by decide) ?_
                          exact Kv17 _ ls hl hf
                        · rw [if_neg (fun h => c12 ((lg_cmp_eq x0 495873780082).mpr h))] at hf
                          refine lv_lload_n hx hb dX12_isKept_88 rfl (lv_at hl 0 rfl) ?_
                          refine lv_ldc2 (v := 1668248436) hx hb hown (hts _ zw_538) dX12_isKept_89 ?_
                          refine W.lcmp hx hb dX12_isKept_92 ?_
                          refine lv_if_eq (tgt := 120) hx hb dX12_isKept_93 (by decide) (fun c13 => ?_) (fun c13 => ?_)
                          · rw [if_pos ((lg_cmp_eq x0 1668248436).mp c13)] at hf
                            refine lv_iconst (v := 1) hx hb dX12_isKept_120 (by decide) ?_
                            refine lv_goto (tgt := 125) hx hb dX12_isKept_121 (by decide) ?_
                            exact Kv17 _ ls hl hf
                          · rw [if_neg (fun h => c13 ((lg_cmp_eq x0 1668248436).mpr h))] at hf
                            refine lv_lload_n hx hb dX12_isKept_96 rfl (lv_at hl 0 rfl) ?_
                            refine lv_ldc2 (v := 1836020596) hx hb hown (hts _ zw_569) dX12_isKept_97 ?_
                            refine W.lcmp hx hb dX12_isKept_100 ?_
                            refine lv_if_eq (tgt := 120) hx hb dX12_isKept_101 (by decide) (fun c14 => ?_) (fun c14 => ?_)
                            · rw [if_pos ((lg_cmp_eq x0 1836020596).mp c14)] at hf
                              refine lv_iconst (v := 1) hx hb dX12_isKept_120 (by decide) ?_
                              refine lv_goto (tgt := 125) hx hb dX12_isKept_121 (by decide) ?_
                              exact Kv17 _ ls hl hf
                            · rw [if_neg (fun h => c14 ((lg_cmp_eq x0 1836020596).mpr h))] at hf
                              refine lv_lload_n hx hb dX12_isKept_104 rfl (lv_at hl 0 rfl) ?_
                              refine lv_ldc2 (v := 1936744814) hx hb hown (hts _ zw_570) dX12_isKept_105 ?_
                              refine W.lcmp hx hb dX12_isKept_108 ?_
                              refine lv_if_eq (tgt := 120) hx hb dX12_isKept_109 (by decide) (fun c15 => ?_) (fun c15 => ?_)
                              · rw [if_pos ((lg_cmp_eq x0 1936744814).mp c15)] at hf
                                refine lv_iconst (v := 1) hx hb dX12_isKept_120 (by decide) ?_
                                refine lv_goto (tgt := 125) hx hb dX12_isKept_121 (by decide) ?_
                                exact Kv17 _ ls hl hf
                              · rw [if_neg (fun h => c15 ((lg_cmp_eq x0 1936744814).mpr h))] at hf
                                refine lv_lload_n hx hb dX12_isKept_112 rfl (lv_at hl 0 rfl) ?_
                                refine lv_ldc2 (v := 7304564) hx hb hown (hts _ zw_539) dX12_isKept_113 ?_
                                refine W.lcmp hx hb dX12_isKept_116 ?_
                                refine lv_if_ne (tgt := 124) hx hb dX12_isKept_117 (by decide) (fun c16 => ?_) (fun c16 => ?_)
                                · rw [if_neg (fun h => c16 ((lg_cmp_eq x0 7304564).mpr h))] at hf
                                  refine lv_iconst (v := 0) hx hb dX12_isKept_124 (by decide) ?_
                                  exact Kv17 _ ls hl hf
                                · rw [if_pos ((lg_cmp_eq x0 7304564).mp  c16)] at hf
                                  refine lv_iconst (v := 1) hx hb dX12_isKept_120 (by decide) ?_
                                  refine lv_goto (tgt := 125) hx hb dX12_isKept_121 (by decide) ?_
                                  exact Kv17 _ ls hl hf
  exact hK0 _ _ ls hG hS hl hf
