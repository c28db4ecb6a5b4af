set_option maxRecDepth 100000 in
set_option maxHeartbeats 4000000 in
theorem c_X11_most (l : Launch) (D : va_G) (aC : Nat → ClassId) (zs : Nat × Nat) (A : Nat → Prop) (nl : zNL) (ad : Nat → Nat → Nat → Nat) (σ : zM) (x1 : Int32) (r : Int32) (σ' : zM)  (hf : f_X11_most σ x1 = some (r, σ')) : Met l yX11_most (Cond.code yX11_most cX11_most 8 (some .int) :: wsL_law) ({ frames := 4, cells := 0, slots := 0, locals := 98 } : Room) (zP D aC zs zfX A nl ad σ [.ref (ad 11 0 0), .int x1]) (zQ (some (.int r)) (fun t => zG D aC A nl ad σ' t t.heap ∧ True) A) 0 0 A := by
  refine Met.ofW (cc := cX11_most) (maxL := 8) (ret := (some .int)) (by decide) rfl ?_
  intro p e s m args below meth c s₁ B hml hv
  obtain ⟨rfl, hG, hZ⟩ := hv
  have hx := B.exec
  have hb := B.bytes
  have hr := B.returns
  have hts : ∀ w ∈ wsL_law, w.before ([.ref (ad 11 0 0), .int x1] : List Value).toArray s = true := fun w h => (atoms_spec B.pre) w (List.mem_cons_of_mem _ h)
  have hown : s.vm.findClass RX11 = some m.cls := findClass_of_methodNamed B.named
  have hlocks := B.notSynchronized
  have S : zS p m c cX11_most 8 s ([.ref (ad 11 0 0), .int x1] : List Value).toArray RX11 := ⟨hx, hb, hml, hown, hts⟩
  have hS : va_S A s.heap s.heap [] := va_S.rf
  have hl := lv_entry ([.ref (ad 11 0 0), .int x1]) (n := 8) (Nat.le_of_ble_eq_true rfl)
  rw [lg_entry_eq]
  generalize (lg_sl ([.ref (ad 11 0 0), .int x1]) ++ List.replicate (8 - (lg_sl ([.ref (ad 11 0 0), .int x1])).length) Slot.unset).toArray = ls at hl ⊢
  have hl : lv_has ls 8 [(0, .ref (ad 11 0 0)), (1, .int x1)] := hl
  generalize hargs : ([.ref (ad 11 0 0), .int x1] : List Value).toArray = args at S hts ⊢
  clear hargs
  have KJ91 : ∀ (y2b91 : Int32) (y3b91 : Int32) (y4b91 : Int32)  (σb91 : zM) (H : Heap) (locs : List Loc) (ls : Array Slot), zG D aC A nl ad σb91 s H → va_S A s.heap H locs → lv_has ls 8 [(0, .ref (ad 11 0 0)), (1, .int x1), (2, .int y2b91), (3, .int y3b91), (4, .int y4b91)] → (f_X11_most_B91 σb91 x1 y2b91 y3b91 y4b91) = some (r, σ') → zWk p l e ({ frames := 4, cells := 0, slots := 0, locals := 98 } : Room) s m args below meth c A (some (.int r)) (fun t => zG D aC A nl ad σ' t t.heap ∧ True) H locs (F0 m 91 ls []) := by
    intro y2b91 y3b91 y4b91  σb91 H locs ls hG hS hl hf
    unfold f_X11_most_B91 at hf
    refine lv_iload_n hx hb dX11_most_91 rfl (lv_at hl 1 rfl) ?_
    refine lv_if_ne (tgt := 97) hx hb dX11_most_92 (by decide) (fun c5 => ?_) (fun c5 => ?_)
    · have hf := zif_n c5 hf
      refine lv_iload_n hx hb dX11_most_97 rfl (lv_at hl 1 rfl) ?_
      refine lv_iconst (v := 1) hx hb dX11_most_98 (by decide) ?_
      refine lv_icmp_ne (tgt := 106) hx hb dX11_most_99 (by decide) (fun c6 => ?_) (fun c6 => ?_)
      · have hf := zif_n c6 hf
        refine lv_iload hx hb dX11_most_106 (lv_at hl 4 rfl) ?_
        obtain ⟨hq1, hq2⟩ := Prod.mk.inj (Option.some.inj hf)
        subst hq1
        subst hq2
        exact z_iret S hG hS hlocks trivial hr dX11_most_108
      · have hf := zif_p c6 hf
        refine lv_iload_n hx hb dX11_most_102 rfl (lv_at hl 3 rfl) ?_
        refine lv_goto (tgt := 108) hx hb dX11_most_103 (by decide) ?_
        obtain ⟨hq1, hq2⟩ := Prod.mk.inj (Option.some.inj hf)
        subst hq1
        subst hq2
        exact z_iret S hG hS hlocks trivial hr dX11_most_108
    · have hf := zif_p c5 hf
      refine lv_iload_n hx hb dX11_most_95 rfl (lv_at hl 2 rfl) ?_
      obtain ⟨hq1, hq2⟩ := Prod.mk.inj (Option.some.inj hf)
      subst hq1
      subst hq2
      exact z_iret S hG hS hlocks trivial hr dX11_most_96
  have hK0 : ∀ (H : Heap) (locs : List Loc) (ls : Array Slot), zG D aC A nl ad σ s H → va_S A s.heap H locs → lv_has ls 8 [(0, .ref (ad 11 0 0)), (1, .int x1)] → f_X11_most σ x1 = some (r, σ') → zWk p l e ({ frames := 4, cells := 0, slots := 0, locals := 98 } : Room) s m args below meth c A (some (.int r)) (fun t => zG D aC A nl ad σ' t t.heap ∧ True) H locs (F0 m 0 ls []) := by
    intro H locs ls hG hS hl hf
    unfold f_X11_most at hf
    refine lv_aload_n hx hb dX11_most_0 rfl (lv_at hl 0 rfl) ?_
    refine z_get (c0 := 11) (i0 := 0) (k0 := 12) (T := TX11) (v := .int (zI σ 11 0 12)) S hG (hZ.2.1 (11, 0) (by decide)) rfl inlX11 (by decide) rfl zw_50 rfl dX11_most_1 ?_
    refine lv_iconst (v := 2) hx hb dX11_most_4 (by decide) ?_
    refine lv_icmp_lt (tgt := 17) hx hb dX11_most_5 (by decide) (fun c1 => ?_) (fun c1 => ?_)
    · have hf := zif_p c1 hf
      refine lv_iconst (v := (-1)) hx hb dX11_most_17 (by decide) ?_
      obtain ⟨hq1, hq2⟩ := Prod.mk.inj (Option.some.inj hf)
      subst hq1
      subst hq2
      exact z_iret S hG hS hlocks trivial hr dX11_most_18
    · have hf := zif_n c1 hf
      refine lv_iload_n hx hb dX11_most_8 rfl (lv_at hl 1 rfl) ?_
      refine lv_if_lt (tgt := 17) hx hb dX11_most_9 (by decide) (fun c2 => ?_) (fun c2 => ?_)
      · have hf := zif_p c2 hf
        refine lv_iconst (v := (-1)) hx hb dX11_most_17 (by decide) ?_
        obtain ⟨hq1, hq2⟩ := Prod.mk.inj (Option.some.inj hf)
        subst hq1
        subst hq2
        exact z_iret S hG hS hlocks trivial hr dX11_most_18
      · have hf := zif_n c2 hf
        refine lv_iload_n hx hb dX11_most_12 rfl (lv_at hl 1 rfl) ?_
        refine lv_iconst (v := 2) hx hb dX11_most_13 (by decide) ?_
        refine lv_icmp_le (tgt := 19) hx hb dX11_most_14 (by decide) (fun c3 => ?_) (fun c3 => ?_)
        · have hf := zif_p c3 hf
          refine lv_iconst (v := (-1)) hx hb dX11_most_19 (by decide) ?_
          refine lv_istore_n (lv' := [(2, .int (-1)), (0, .ref (ad 11 0 0)), (1, .int x1)]) hx hb dX11_most_20 rfl hl (by decide) rfl (fun ls hl => ?_)
          refine lv_iconst (v := (-1)) hx hb dX11_most_21 (by decide) ?_
          refine lv_istore_n (lv' := [(3, .int (-1)), (2, .int (-1)), (0, .ref (ad 11 0 0)), (1, .int x1)]) hx hb dX11_most_22 rfl hl (by decide) rfl (fun ls hl => ?_)
          refine lv_iconst (v := (-1)) hx hb dX11_most_23 (by decide) ?_
          refine lv_istore (lv' := [(4, .int (-1)), (3, .int (-1)), (2, .int (-1)), (0, .ref (ad 11 0 0)), (1, .int x1)]) hx hb dX11_most_24 hl (by decide) rfl (fun ls hl => ?_)
          refine lv_iconst (v := 0) hx hb dX11_most_26 (by decide) ?_
          refine lv_istore (lv' := [(5, .int 0), (4, .int (-1)), (3, .int (-1)), (2, .int (-1)), (0, .ref (ad 11 0 0)), (1, .int x1)]) hx hb dX11_most_27 hl (by decide) rfl (fun ls hl => ?_)
          obtain ⟨t29, hw29, hfo29⟩ := zbi hf
          have KL29 : ∀ (n : Nat) (y2l29 : Int32) (y3l29 : Int32) (y4l29 : Int32) (y5l29 : Int32) (σl29 : zM) (H : Heap) (locs : List Loc) (ls : Array Slot), zG D aC A nl ad σl29 s H → va_S A s.heap H locs → lv_has ls 8 [(0, .ref (ad 11 0 0)), (1, .int x1), (2, .int y2l29), (3, .int y3l29), (4, .int y4l29), (5, .int y5l29)] → zwh (fun (q : (Int32 × Int32 × Int32 × Int32 × zM)) => f_X11_most_L29 x1 q.1 q.2.1 q.2.2.1 q.2.2.2.1 q.2.2.2.2) n (y2l29, y3l29, y4l29, y5l29, σl29) = some t29 → zWk p l e ({ frames := 4, cells := 0, slots := 0, locals := 98 } : Room) s m args below meth c A (some (.int r)) (fun t => zG D aC A nl ad σ' t t.heap ∧ True) H locs (F0 m 29 ls []) := by
            intro n
            induction n with
            | zero =>
              intro y2l29 y3l29 y4l29 y5l29 σl29 H locs ls hG hS hl hw
              exact (zwh_0 hw).elim
            | succ n ih29 =>
              intro y2l29 y3l29 y4l29 y5l29 σl29 H locs ls hG hS hl hw
              obtain ⟨rr29, hf, hk29⟩ := zwh_u hw
              have hf : f_X11_most_L29 x1 y2l29 y3l29 y4l29 y5l29 σl29 = some rr29 := hf
              unfold f_X11_most_L29 at hf
              have KJ85_29 : ∀ (y2b85 : Int32) (y3b85 : Int32) (y4b85 : Int32) (y5b85 : Int32)  (σb85_29 : zM) (H : Heap) (locs : List Loc) (ls : Array Slot), zG D aC A nl ad σb85_29 s H → va_S A s.heap H locs → lv_has ls 8 [(0, .ref (ad 11 0 0)), (1, .int x1), (2, .int y2b85), (3, .int y3b85), (4, .int y4b85), (5, .int y5b85)] → (f_X11_most_B85_29 σb85_29 x1 y2b85 y3b85 y4b85 y5b85) = some rr29 → zWk p l e ({ frames := 4, cells := 0, slots := 0, locals := 98 } : Room) s m args below meth c A (some (.int r)) (fun t => zG D aC A nl ad σ' t t.heap ∧ True) H locs (F0 m 85 ls []) := by
                intro y2b85 y3b85 y4b85 y5b85  σb85_29 H locs ls hG hS hl hf
                unfold f_X11_most_B85_29 at hf
                refine lv_iinc (v := (y5b85 + 1)) (lv' := [(5, .int (y5b85 + 1)), (0, .ref (ad 11 0 0)), (1, .int x1), (2, .int y2b85), (3, .int y3b85), (4, .int y4b85)]) hx hb dX11_most_85 hl (k := 5) rfl rfl (by decide) rfl (fun ls hl => ?_)
                refine lv_goto (tgt := 29) hx hb dX11_most_88 (by decide) ?_
                cases hf
                exact ih29 y2b85 y3b85 y4b85 (y5b85 + 1) σb85_29 H locs ls hG hS (lv_sub hl [1, 2, 3, 4, 5, 0] rfl) hk29
              refine lv_iload hx hb dX11_most_29 (lv_at hl 5 rfl) ?_
              refine lv_aload_n hx hb dX11_most_31 rfl (lv_at hl 0 rfl) ?_
              refine z_get (c0 := 11) (i0 := 0) (k0 := 12) (T := TX11) (v := .int (zI σl29 11 0 12)) S hG (hZ.2.1 (11, 0) (by decide)) rfl inlX11 (by decide) rfl zw_50 rfl dX11_most_32 ?_
              refine lv_icmp_ge (tgt := 91) hx hb dX11_most_35 (by decide) (fun c15 => ?_) (fun c15 => ?_)
              · have hf := zif_p c15 hf
                cases hf
                have hk29 : ((y2l29, y3l29, y4l29, σl29) : (Int32 × Int32 × Int32 × zM)) = t29 := hk29
                have hf := hfo29
                rw [← hk29] at hf
                have hf : (f_X11_most_B91 σl29 x1 y2l29 y3l29 y4l29) = some (r, σ') := hf
                exact KJ91 y2l29 y3l29 y4l29 σl29 H locs ls hG hS (lv_sub hl [0, 1, 2, 3, 4] rfl) hf
              · have hf := zif_n c15 hf
                refine lv_iload hx hb dX11_most_38 (lv_at hl 5 rfl) ?_
                refine lv_iconst (v := 1) hx hb dX11_most_40 (by decide) ?_
                refine lv_iadd hx hb dX11_most_41 ?_
                refine lv_istore (lv' := [(6, .int (y5l29 + 1)), (0, .ref (ad 11 0 0)), (1, .int x1), (2, .int y2l29), (3, .int y3l29), (4, .int y4l29), (5, .int y5l29)]) hx hb dX11_most_42 hl (by decide) rfl (fun ls hl => ?_)
                obtain ⟨t44, hw44, hfo44⟩ := zbi hf
                have KL44 : ∀ (n : Nat) (y2l44 : Int32) (y3l44 : Int32) (y4l44 : Int32) (y6l44 : Int32) (σl44 : zM) (H : Heap) (locs : List Loc) (ls : Array Slot), zG D aC A nl ad σl44 s H → va_S A s.heap H locs → lv_has ls 8 [(0, .ref (ad 11 0 0)), (1, .int x1), (5, .int y5l29), (2, .int y2l44), (3, .int y3l44), (4, .int y4l44), (6, .int y6l44)] → zwh (fun (q : (Int32 × Int32 × Int32 × Int32 × zM)) => f_X11_most_L44 x1 y5l29 q.1 q.2.1 q.2.2.1 q.2.2.2.1 q.2.2.2.2) n (y2l44, y3l44, y4l44, y6l44, σl44) = some t44 → zWk p l e ({ frames := 4, cells := 0, slots := 0, locals := 98 } : Room) s m args below meth c A (some (.int r)) (fun t => zG D aC A nl ad σ' t t.heap ∧ True) H locs (F0 m 44 ls []) := by
                  intro n
                  induction n with
                  | zero =>
                    intro y2l44 y3l44 y4l44 y6l44 σl44 H locs ls hG hS hl hw
                    exact (zwh_0 hw).elim
                  | succ n ih44 =>
                    intro y2l44 y3l44 y4l44 y6l44 σl44 H locs ls hG hS hl hw
                    obtain ⟨rr44, hf, hk44⟩ := zwh_u hw
                    have hf : f_X11_most_L44 x1 y5l29 y2l44 y3l44 y4l44 y6l44 σl44 = some rr44 := hf
                    unfold f_X11_most_L44 at hf
                    have KJ79_44 : ∀ (y2b79 : Int32) (y3b79 : Int32) (y4b79 : Int32) (y6b79 : Int32)  (σb79_44 : zM) (H : Heap) (locs : List Loc) (ls : Array Slot), zG D aC A nl ad σb79_44 s H → va_S A s.heap H locs → lv_has ls 8 [(0, .ref (ad 11 0 0)), (1, .int x1), (2, .int y2b79), (3, .int y3b79), (4, .int y4b79), (5, .int y5l29), (6, .int y6b79)] → (f_X11_most_B79_44 σb79_44 x1 y2b79 y3b79 y4b79 y5l29 y6b79) = some rr44 → zWk p l e ({ frames := 4, cells := 0, slots := 0, locals := 98 } : Room) s m args below meth c A (some (.int r)) (fun t => zG D aC A nl ad σ' t t.heap ∧ True) H locs (F0 m 79 ls []) := by
                      intro y2b79 y3b79 y4b79 y6b79  σb79_44 H locs ls hG hS hl hf
                      unfold f_X11_most_B79_44 at hf
                      refine lv_iinc (v := (y6b79 + 1)) (lv' := [(6, .int (y6b79 + 1)), (0, .ref (ad 11 0 0)), (1, .int x1), (2, .int y2b79), (3, .int y3b79), (4, .int y4b79), (5, .int y5l29)]) hx hb dX11_most_79 hl (k := 6) rfl rfl (by decide) rfl (fun ls hl => ?_)
                      refine lv_goto (tgt := 44) hx hb dX11_most_82 (by decide) ?_
                      cases hf
                      exact ih44 y2b79 y3b79 y4b79 (y6b79 + 1) σb79_44 H locs ls hG hS (lv_sub hl [1, 2, 6, 3, 4, 5, 0] rfl) hk44
                    refine lv_iload hx hb dX11_most_44 (lv_at hl 6 rfl) ?_
                    refine lv_aload_n hx hb dX11_most_46 rfl (lv_at hl 0 rfl) ?_
                    refine z_get (c0 := 11) (i0 := 0) (k0 := 12) (T := TX11) (v := .int (zI σl44 11 0 12)) S hG (hZ.2.1 (11, 0) (by decide)) rfl inlX11 (by decide) rfl zw_50 rfl dX11_most_47 ?_
                    refine lv_icmp_ge (tgt := 85) hx hb dX11_most_50 (by decide) (fun c20 => ?_) (fun c20 => ?_)
                    · have hf := zif_p c20 hf
                      cases hf
                      have hk44 : ((y2l44, y3l44, y4l44, σl44) : (Int32 × Int32 × Int32 × zM)) = t44 := hk44
                      have hf := hfo44
                      rw [← hk44] at hf
                      have hf : (f_X11_most_B85_29 σl44 x1 y2l44 y3l44 y4l44 y5l29) = some rr29 := hf
                      exact KJ85_29 y2l44 y3l44 y4l44 y5l29 σl44 H locs ls hG hS (lv_sub hl [0, 1, 3, 4, 5, 2] rfl) hf
                    · have hf := zif_n c20 hf
                      refine lv_aload_n hx hb dX11_most_53 rfl (lv_at hl 0 rfl) ?_
                      refine lv_iload hx hb dX11_most_54 (lv_at hl 2 rfl) ?_
                      refine lv_iload hx hb dX11_most_56 (lv_at hl 6 rfl) ?_
                      obtain ⟨q21, eq21, hf⟩ := zbi hf
                      refine z_callV (n := 2) (rest := []) (st1 := [.int q21.1]) (c0 := 11) (i0 := 0) (hZ.2.1 (11, 0) (by decide)) (by rfl) S hG hS hZ (fun _ _ h => h) (c_X11_lookAt l D aC zs A nl ad σl44 y5l29 y6l44 q21.1 q21.2 eq21) zw_1095 zw_1096 zw_1097 zw_2 zw_1098 (by decide +kernel) ⟨rfl, rfl⟩ ⟨(Nat.le_of_ble_eq_true rfl), (Nat.le_of_ble_eq_true rfl)⟩ hl.1 rfl (by rfl) (by rfl) (Nat.le_of_ble_eq_true rfl) dX11_most_58 ⟨Nat.zero_le _, Nat.zero_le _⟩ (fun H locs hz22 hG hS => ?_)
                      refine lv_istore (lv' := [(7, .int q21.1), (0, .ref (ad 11 0 0)), (1, .int x1), (5, .int y5l29), (2, .int y2l44), (3, .int y3l44), (4, .int y4l44), (6, .int y6l44)]) hx hb dX11_most_61 hl (by decide) rfl (fun ls hl => ?_)
                      refine lv_iload hx hb dX11_most_63 (lv_at hl 0 rfl) ?_
                      refine lv_iload_n hx hb dX11_most_65 rfl (lv_at hl 4 rfl) ?_
                      refine lv_icmp_le (tgt := 79) hx hb dX11_most_66 (by decide) (fun c23 => ?_) (fun c23 => ?_)
                      · have hf := zif_p c23 hf
                        exact KJ79_44 y2l44 y3l44 y4l44 y6l44 q21.2 H locs ls hG hS (lv_sub hl [1, 2, 4, 5, 6, 3, 7] rfl) hf
                      · have hf := zif_n c23 hf
                        refine lv_iload hx hb dX11_most_69 (lv_at hl 0 rfl) ?_
                        refine lv_istore_n (lv' := [(2, .int q21.1), (7, .int q21.1), (0, .ref (ad 11 0 0)), (1, .int x1), (5, .int y5l29), (3, .int y3l44), (4, .int y4l44), (6, .int y6l44)]) hx hb dX11_most_71 rfl hl (by decide) rfl (fun ls hl => ?_)
                        refine lv_iload hx hb dX11_most_72 (lv_at hl 4 rfl) ?_
                        refine lv_istore_n (lv' := [(3, .int y5l29), (2, .int q21.1), (7, .int q21.1), (0, .ref (ad 11 0 0)), (1, .int x1), (5, .int y5l29), (4, .int y4l44), (6, .int y6l44)]) hx hb dX11_most_74 rfl hl (by decide) rfl (fun ls hl => ?_)
                        refine lv_iload hx hb dX11_most_75 (lv_at hl 7 rfl) ?_
                        refine lv_istore (lv' := [(4, .int y6l44), (3, .int y5l29), (2, .int q21.1), (7, .int q21.1), (0, .ref (ad 11 0 0)), (1, .int x1), (5, .int y5l29), (6, .int y6l44)]) hx hb dX11_most_77 hl (by decide) rfl (fun ls hl => ?_)
                        exact KJ79_44 q21.1 y5l29 y6l44 y6l44 q21.2 H locs ls hG hS (lv_sub hl [4, 5, 2, 1, 0, 6, 7] rfl) hf
                exact KL44 zFu y2l29 y3l29 y4l29 (y5l29 + 1) σl29 H locs ls hG hS (lv_sub hl [1, 2, 6, 3, 4, 5, 0] rfl) hw44
          exact KL29 zFu (-1) (-1) (-1) 0 σ H locs ls hG hS (lv_sub hl [4, 5, 3, 2, 1, 0] rfl) hw29
        · have hf := zif_n c3 hf
          refine lv_iconst (v := (-1)) hx hb dX11_most_17 (by decide) ?_
          obtain ⟨hq1, hq2⟩ := Prod.mk.inj (Option.some.inj hf)
          subst hq1
          subst hq2
          exact z_iret S hG hS hlocks trivial hr dX11_most_18
  exact hK0 _ _ ls hG hS hl hf
set_option maxRecDepth 100000 in
set_option maxHeartbeats 4000000 in
theorem c_X11_calls (l : Launch) (D : va_G) (aC : Nat → ClassId) (zs : Nat × Nat) (A : Nat → Prop) (nl : zNL) (ad : Nat → Nat → Nat → Nat) (σ : zM) (x1 : Int32) (x2 : Int32) (r : Int32) (σ' : zM)  (hf : f_X11_calls σ x1 x2 = some (r, σ')) : Met l yX11_calls (Cond.code yX11_calls cX11_calls 5 (some .boolean) :: wsL_law) ({ frames := 2, cells := 0, slots := 0, locals := 47 } : Room) (zP D aC zs zfX A nl ad σ [.ref (ad 11 0 0), .int x1, .int x2]) (zQ (some (.int r)) (fun t => zG D aC A nl ad σ' t t.heap ∧ (r = 0 ∨ r = 1)) A) 0 0 A := by
  refine Met.ofW (cc := cX11_calls) (maxL := 5) (ret := (some .boolean)) (by decide) rfl ?_
  intro p e s m args below meth c s₁ B hml hv
  obtain ⟨rfl, hG, hZ⟩ := hv
  have hx := B.exec
  have hb := B.bytes
  have hr := B.returns
  have hts : ∀ w ∈ wsL_law, w.before ([.ref (ad 11 0 0), .int x1, .int x2] : List Value).toArray s = true := fun w h => (atoms_spec B.pre) w (List.mem_cons_of_mem _ h)
  have hown : s.vm.findClass RX11 = some m.cls := findClass_of_methodNamed B.named
  have hlocks := B.notSynchronized
  have S : zS p m c cX11_calls 5 s ([.ref (ad 11 0 0), .int x1, .int x2] : List Value).toArray RX11 := ⟨hx, hb, hml, hown, hts⟩
  have hS : va_S A s.heap s.heap [] := va_S.rf
  have hl := lv_entry ([.ref (ad 11 0 0), .int x1, .int x2]) (n := 5) (Nat.le_of_ble_eq_true rfl)
  rw [lg_entry_eq]
  generalize (lg_sl ([.ref (ad 11 0 0), .int x1, .int x2]) ++ List.replicate (5 - (lg_sl ([.ref (ad 11 0 0), .int x1, .int x2])).length) Slot.unset).toArray = ls at hl ⊢
  have hl : lv_has ls 5 [(0, .ref (ad 11 0 0)), (1, .int x1), (2, .int x2)] := hl
  generalize hargs : ([.ref (ad 11 0 0), .int x1, .int x2] : List Value).toArray = args at S hts ⊢
  clear hargs
  have hK0 : ∀ (H : Heap) (locs : List Loc) (ls : Array Slot), zG D aC A nl ad σ s H → va_S A s.heap H locs → lv_has ls 5 [(0, .ref (ad 11 0 0)), (1, .int x1), (2, .int x2)] → f_X11_calls σ x1 x2 = some (r, σ') → zWk p l e ({ frames := 2, cells := 0, slots := 0, locals := 47 } : Room) s m args below meth c A (some (.int r)) (fun t => zG D aC A nl ad σ' t t.heap ∧ (r = 0 ∨ r = 1)) H locs (F0 m 0 ls []) := by
    intro H locs ls hG hS hl hf
    unfold f_X11_calls at hf
    refine lv_iload_n hx hb dX11_calls_0 rfl (lv_at hl 1 rfl) ?_
    refine z_callS (n := 1) (rest := []) (st1 := [.int (f_X11_isAuthor x1)]) S hG hS hZ (fun _ _ h => h) (c_X11_isAuthor l D aC zs A nl ad σ x1 (f_X11_isAuthor x1) rfl) zw_784 zw_785 zw_2 zw_786 (by decide +kernel) ⟨rfl, rfl⟩ ⟨(Nat.le_of_ble_eq_true rfl), (Nat.le_of_ble_eq_true rfl)⟩ hl.1 rfl (by rfl) (by rfl) (Nat.le_of_ble_eq_true rfl) dX11_calls_1 ⟨Nat.zero_le _, Nat.zero_le _⟩ (fun H locs hz1 hG hS => ?_)
    refine lv_if_eq (tgt := 18) hx hb dX11_calls_4 (by decide) (fun c2 => ?_) (fun c2 => ?_)
    · have hf := zif_p c2 hf
      refine lv_iconst (v := 0) hx hb dX11_calls_18 (by decide) ?_
      obtain ⟨hq1, hq2⟩ := Prod.mk.inj (Option.some.inj hf)
      subst hq1
      subst hq2
      exact z_zret S hG hS hlocks (Or.inl rfl) hr dX11_calls_19
    · have hf := zif_n c2 hf
      refine lv_aload_n hx hb dX11_calls_7 rfl (lv_at hl 0 rfl) ?_
      refine z_get (c0 := 11) (i0 := 0) (k0 := 0) (T := TX11) (v := .ref (ad 9 0 0)) S hG (hZ.2.1 (11, 0) (by decide)) rfl inlX11 (by decide) rfl zw_16 rfl dX11_calls_8 ?_
      refine lv_iload_n hx hb dX11_calls_11 rfl (lv_at hl 2 rfl) ?_
      refine z_callV (n := 1) (rest := []) (st1 := [.int (f_X9_holds σ x2)]) (c0 := 9) (i0 := 0) (hZ.2.1 (9, 0) (by decide)) (by rfl) S hG hS hZ (fun _ _ h => h) (c_X9_holds l D aC zs A nl ad σ x2 (f_X9_holds σ x2) rfl) zw_305 zw_306 zw_307 zw_15 zw_308 (by decide +kernel) ⟨rfl, rfl⟩ ⟨(Nat.le_of_ble_eq_true rfl), (Nat.le_of_ble_eq_true rfl)⟩ hl.1 rfl (by rfl) (by rfl) (Nat.le_of_ble_eq_true rfl) dX11_calls_12 ⟨Nat.zero_le _, Nat.zero_le _⟩ (fun H locs hz3 hG hS => ?_)
      refine lv_if_ne (tgt := 20) hx hb dX11_calls_15 (by decide) (fun c4 => ?_) (fun c4 => ?_)
      · have hf := zif_n c4 hf
        refine lv_aload_n hx hb dX11_calls_20 rfl (lv_at hl 0 rfl) ?_
        refine z_get (c0 := 11) (i0 := 0) (k0 := 0) (T := TX11) (v := .ref (ad 9 0 0)) S hG (hZ.2.1 (11, 0) (by decide)) rfl inlX11 (by decide) rfl zw_16 rfl dX11_calls_21 ?_
        refine lv_iload_n hx hb dX11_calls_24 rfl (lv_at hl 2 rfl) ?_
        obtain ⟨r5, er5, hf⟩ := zbi hf
        refine z_callV (n := 1) (rest := []) (st1 := [.long r5]) (c0 := 9) (i0 := 0) (hZ.2.1 (9, 0) (by decide)) (by rfl) S hG hS hZ (fun _ _ h => h) (c_X9_wordOf l D aC zs A nl ad σ x2 r5 er5) zw_1130 zw_1131 zw_1132 zw_15 zw_1133 (by decide +kernel) ⟨rfl, rfl⟩ ⟨(Nat.le_of_ble_eq_true rfl), (Nat.le_of_ble_eq_true rfl)⟩ hl.1 rfl (by rfl) (by rfl) (Nat.le_of_ble_eq_true rfl) dX11_calls_25 ⟨Nat.zero_le _, Nat.zero_le _⟩ (fun H locs hz6 hG hS => ?_)
        refine lv_lstore_n (lv' := [(3, .long r5), (0, .ref (ad 11 0 0)), (1, .int x1), (2, .int x2)]) hx hb dX11_calls_28 rfl hl (by decide) rfl (fun ls hl => ?_)
        refine lv_aload_n hx hb dX11_calls_29 rfl (lv_at hl 1 rfl) ?_
        refine z_get (c0 := 11) (i0 := 0) (k0 := 0) (T := TX11) (v := .ref (ad 9 0 0)) S hG (hZ.2.1 (11, 0) (by decide)) rfl inlX11 (by decide) rfl zw_16 rfl dX11_calls_30 ?_
        obtain ⟨σ7, eσ7, hf⟩ := zlt_s hf
        refine z_callV (n := 0) (rest := []) (st1 := []) (c0 := 9) (i0 := 0) (hZ.2.1 (9, 0) (by decide)) (by rfl) S hG hS hZ (fun _ _ h => h) (c_X9_clear l D aC zs A nl ad σ σ7 eσ7.symm) zw_491 zw_492 zw_493 zw_15 zw_494 (by decide +kernel) ⟨rfl, rfl⟩ ⟨(Nat.le_of_ble_eq_true rfl), (Nat.le_of_ble_eq_true rfl)⟩ hl.1 rfl (by rfl) (by rfl) (Nat.le_of_ble_eq_true rfl) dX11_calls_33 ⟨Nat.zero_le _, Nat.zero_le _⟩ (fun H locs hz8 hG hS => ?_)
        refine lv_lload_n hx hb dX11_calls_36 rfl (lv_at hl 0 rfl) ?_
        refine lv_lconst (v := 0) hx hb dX11_calls_37 (by decide) ?_
        refine W.lcmp hx hb dX11_calls_38 ?_
        refine lv_if_ne (tgt := 44) hx hb dX11_calls_39 (by decide) (fun c9 => ?_) (fun c9 => ?_)
        · have hf := zif_n (fun h => c9 ((lg_cmp_eq r5 0).mpr h)) hf
          refine lv_aload_n hx hb dX11_calls_44 rfl (lv_at hl 1 rfl) ?_
          refine z_get (c0 := 11) (i0 := 0) (k0 := 5) (T := TX11) (v := .ref (ad 3 0 0)) S hG (hZ.2.1 (11, 0) (by decide)) rfl inlX11 (by decide) rfl zw_36 rfl dX11_calls_45 ?_
          refine lv_iload_n hx hb dX11_calls_48 rfl (lv_at hl 2 rfl) ?_
          refine lv_lload_n hx hb dX11_calls_49 rfl (lv_at hl 0 rfl) ?_
          obtain ⟨σ10, eσ10, hf⟩ := zbi hf
          refine z_callV (n := 2) (rest := []) (st1 := []) (c0 := 3) (i0 := 0) (hZ.2.1 (3, 0) (by decide)) (by rfl) S hG hS hZ (fun _ _ h => h) (c_X3_nameAuthor l D aC zs A nl ad σ7 x1 r5 σ10 eσ10) zw_1137 zw_1138 zw_1139 zw_35 zw_1140 (by decide +kernel) ⟨rfl, rfl⟩ ⟨(Nat.le_of_ble_eq_true rfl), (Nat.le_of_ble_eq_true rfl)⟩ hl.1 rfl (by rfl) (by rfl) (Nat.le_of_ble_eq_true rfl) dX11_calls_50 ⟨Nat.zero_le _, Nat.zero_le _⟩ (fun H locs hz11 hG hS => ?_)
          refine lv_iconst (v := 1) hx hb dX11_calls_53 (by decide) ?_
          obtain ⟨hq1, hq2⟩ := Prod.mk.inj (Option.some.inj hf)
          subst hq1
          subst hq2
          exact z_zret S hG hS hlocks (Or.inr rfl) hr dX11_calls_54
        · have hf := zif_p ((lg_cmp_eq r5 0).mp  c9) hf
          refine lv_iconst (v := 0) hx hb dX11_calls_42 (by decide) ?_
          obtain ⟨hq1, hq2⟩ := Prod.mk.inj (Option.some.inj hf)
          subst hq1
          subst hq2
          exact z_zret S hG hS hlocks (Or.inl rfl) hr dX11_calls_43
      · have hf := zif_p c4 hf
        refine lv_iconst (v := 0) hx hb dX11_calls_18 (by decide) ?_
        obtain ⟨hq1, hq2⟩ := Prod.mk.inj (Option.some.inj hf)
        subst hq1
        subst hq2
        exact z_zret S hG hS hlocks (Or.inl rfl) hr dX11_calls_19
  exact hK0 _ _ ls hG hS hl hf
set_option maxRecDepth 100000 in
set_option maxHeartbeats 4000000 in
theorem c_X11_ask (l : Launch) (D : va_G) (aC : Nat → ClassId) (zs : Nat × Nat) (A : Nat → Prop) (nl : zNL) (ad : Nat → Nat → Nat → Nat) (σ : zM) (x1 : Int32) (x2 : Int32) (r : Int32) (σ' : zM)  (hf : f_X11_ask σ x1 x2 = some (r, σ')) : Met l yX11_ask (Cond.code yX11_ask cX11_ask 4 (some .int) :: wsL_law) ({ frames := 2, cells := 0, slots := 0, locals := 54 } : Room) (zP D aC zs zfX A nl ad σ [.ref (ad 11 0 0), .int x1, .int x2]) (zQ (some (.int r)) (fun t => zG D aC A nl ad σ' t t.heap ∧ True) A) 0 0 A := by
  refine Met.ofW (cc := cX11_ask) (maxL := 4) (ret := (some .int)) (by decide) rfl ?_
  intro p e s m args below meth c s₁ B hml hv
  obtain ⟨rfl, hG, hZ⟩ := hv
  have hx := B.exec
  have hb := B.bytes
  have hr := B.returns
  have hts : ∀ w ∈ wsL_law, w.before ([.ref (ad 11 0 0), .int x1, .int x2] : List Value).toArray s = true := fun w h => (atoms_spec B.pre) w (List.mem_cons_of_mem _ h)
  have hown : s.vm.findClass RX11 = some m.cls := findClass_of_methodNamed B.named
  have hlocks := B.notSynchronized
  have S : zS p m c cX11_ask 4 s ([.ref (ad 11 0 0), .int x1, .int x2] : List Value).toArray RX11 := ⟨hx, hb, hml, hown, hts⟩
  have hS : va_S A s.heap s.heap [] := va_S.rf
  have hl := lv_entry ([.ref (ad 11 0 0), .int x1, .int x2]) (n := 4) (Nat.le_of_ble_eq_true rfl)
  rw [lg_entry_eq]
  generalize (lg_sl ([.ref (ad 11 0 0), .int x1, .int x2]) ++ List.replicate (4 - (lg_sl ([.ref (ad 11 0 0), .int x1, .int x2])).length) Slot.unset).toArray = ls at hl ⊢
  have hl : lv_has ls 4 [(0, .ref (ad 11 0 0)), (1, .int x1), (2, .int x2)] := hl
  generalize hargs : ([.ref (ad 11 0 0), .int x1, .int x2] : List Value).toArray = args at S hts ⊢
  clear hargs
  have hK0 : ∀ (H : Heap) (locs : List Loc) (ls : Array Slot), zG D aC A nl ad σ s H → va_S A s.heap H locs → lv_has ls 4 [(0, .ref (ad 11 0 0)), (1, .int x1), (2, .int x2)] → f_X11_ask σ x1 x2 = some (r, σ') → zWk p l e ({ frames := 2, cells := 0, slots := 0, locals := 54 } : Room) s m args below meth c A (some (.int r)) (fun t => zG D aC A nl ad σ' t t.heap ∧ True) H locs (F0 m 0 ls []) := by
    intro H locs ls hG hS hl hf
    unfold f_X11_ask at hf
    refine lv_aload_n hx hb dX11_ask_0 rfl (lv_at hl 0 rfl) ?_
    refine z_get (c0 := 11) (i0 := 0) (k0 := 0) (T := TX11) (v := .ref (ad 9 0 0)) S hG (hZ.2.1 (11, 0) (by decide)) rfl inlX11 (by decide) rfl zw_16 rfl dX11_ask_1 ?_
    refine lv_iload_n hx hb dX11_ask_4 rfl (lv_at hl 1 rfl) ?_
    refine z_callV (n := 1) (rest := []) (st1 := [.int (f_X9_holds σ x1)]) (c0 := 9) (i0 := 0) (hZ.2.1 (9, 0) (by decide)) (by rfl) S hG hS hZ (fun _ _ h => h) (c_X9_holds l D aC zs A nl ad σ x1 (f_X9_holds σ x1) rfl) zw_305 zw_306 zw_307 zw_15 zw_308 (by decide +kernel) ⟨rfl, rfl⟩ ⟨(Nat.le_of_ble_eq_true rfl), (Nat.le_of_ble_eq_true rfl)⟩ hl.1 rfl (by rfl) (by rfl) (Nat.le_of_ble_eq_true rfl) dX11_ask_5 ⟨Nat.zero_le _, Nat.zero_le _⟩ (fun H locs hz1 hG hS => ?_)
    refine lv_if_eq (tgt := 21) hx hb dX11_ask_8 (by decide) (fun c2 => ?_) (fun c2 => ?_)
    · have hf := zif_p c2 hf
      refine lv_bipush (v := (-2)) hx hb dX11_ask_21 (by decide) ?_
      obtain ⟨hq1, hq2⟩ := Prod.mk.inj (Option.some.inj hf)
      subst hq1
      subst hq2
      exact z_iret S hG hS hlocks trivial hr dX11_ask_23
    · have hf := zif_n c2 hf
      refine lv_aload_n hx hb dX11_ask_11 rfl (lv_at hl 0 rfl) ?_
      refine z_get (c0 := 11) (i0 := 0) (k0 := 5) (T := TX11) (v := .ref (ad 3 0 0)) S hG (hZ.2.1 (11, 0) (by decide)) rfl inlX11 (by decide) rfl zw_36 rfl dX11_ask_12 ?_
      refine z_callV (n := 0) (rest := []) (st1 := [.int (f_X3_isFull σ)]) (c0 := 3) (i0 := 0) (hZ.2.1 (3, 0) (by decide)) (by rfl) S hG hS hZ (fun _ _ h => h) (c_X3_isFull l D aC zs A nl ad σ (f_X3_isFull σ) rfl) zw_1149 zw_1150 zw_1151 zw_35 zw_1152 (by decide +kernel) ⟨rfl, rfl⟩ ⟨(Nat.le_of_ble_eq_true rfl), (Nat.le_of_ble_eq_true rfl)⟩ hl.1 rfl (by rfl) (by rfl) (Nat.le_of_ble_eq_true rfl) dX11_ask_15 ⟨Nat.zero_le _, Nat.zero_le _⟩ (fun H locs hz3 hG hS => ?_)
      refine lv_if_eq (tgt := 24) hx hb dX11_ask_18 (by decide) (fun c4 => ?_) (fun c4 => ?_)
      · have hf := zif_p c4 hf
        refine lv_aload_n hx hb dX11_ask_24 rfl (lv_at hl 0 rfl) ?_
        refine z_get (c0 := 11) (i0 := 0) (k0 := 5) (T := TX11) (v := .ref (ad 3 0 0)) S hG (hZ.2.1 (11, 0) (by decide)) rfl inlX11 (by decide) rfl zw_36 rfl dX11_ask_25 ?_
        refine lv_aload_n hx hb dX11_ask_28 rfl (lv_at hl 0 rfl) ?_
        refine z_get (c0 := 11) (i0 := 0) (k0 := 0) (T := TX11) (v := .ref (ad 9 0 0)) S hG (hZ.2.1 (11, 0) (by decide)) rfl inlX11 (by decide) rfl zw_16 rfl dX11_ask_29 ?_
        refine lv_iload_n hx hb dX11_ask_32 rfl (lv_at hl 1 rfl) ?_
        refine lv_iload_n hx hb dX11_ask_33 rfl (lv_at hl 2 rfl) ?_
        refine lv_aload_n hx hb dX11_ask_34 rfl (lv_at hl 0 rfl) ?_
        refine z_get (c0 := 11) (i0 := 0) (k0 := 10) (T := TX11) (v := .int (zI σ 11 0 10)) S hG (hZ.2.1 (11, 0) (by decide)) rfl inlX11 (by decide) rfl zw_48 rfl dX11_ask_35 ?_
        obtain ⟨q5, eq5, hf⟩ := zbi hf
        refine z_callV (n := 4) (rest := []) (st1 := [.int q5.1]) (c0 := 3) (i0 := 0) (hZ.2.1 (3, 0) (by decide)) (by rfl) S hG hS hZ (fun _ _ h => h) (c_X3_put l D aC zs A nl ad σ x1 x2 (zI σ 11 0 10) q5.1 q5.2 eq5) zw_1153 zw_1154 zw_1155 zw_35 zw_1156 (by decide +kernel) ⟨rfl, rfl⟩ ⟨(Nat.le_of_ble_eq_true rfl), (Nat.le_of_ble_eq_true rfl)⟩ hl.1 rfl (by rfl) (by rfl) (Nat.le_of_ble_eq_true rfl) dX11_ask_38 ⟨Nat.zero_le _, Nat.zero_le _⟩ (fun H locs hz6 hG hS => ?_)
        refine lv_istore_n (lv' := [(3, .int q5.1), (0, .ref (ad 11 0 0)), (1, .int x1), (2, .int x2)]) hx hb dX11_ask_41 rfl hl (by decide) rfl (fun ls hl => ?_)
        refine lv_aload_n hx hb dX11_ask_42 rfl (lv_at hl 1 rfl) ?_
        refine z_get (c0 := 11) (i0 := 0) (k0 := 0) (T := TX11) (v := .ref (ad 9 0 0)) S hG (hZ.2.1 (11, 0) (by decide)) rfl inlX11 (by decide) rfl zw_16 rfl dX11_ask_43 ?_
        obtain ⟨σ7, eσ7, hf⟩ := zlt_s hf
        refine z_callV (n := 0) (rest := []) (st1 := []) (c0 := 9) (i0 := 0) (hZ.2.1 (9, 0) (by decide)) (by rfl) S hG hS hZ (fun _ _ h => h) (c_X9_clear l D aC zs A nl ad q5.2 σ7 eσ7.symm) zw_491 zw_492 zw_493 zw_15 zw_494 (by decide +kernel) ⟨rfl, rfl⟩ ⟨(Nat.le_of_ble_eq_true rfl), (Nat.le_of_ble_eq_true rfl)⟩ hl.1 rfl (by rfl) (by rfl) (Nat.le_of_ble_eq_true rfl) dX11_ask_46 ⟨Nat.zero_le _, Nat.zero_le _⟩ (fun H locs hz8 hG hS => ?_)
        refine lv_iload_n hx hb dX11_ask_49 rfl (lv_at hl 0 rfl) ?_
        obtain ⟨hq1, hq2⟩ := Prod.mk.inj (Option.some.inj hf)
        subst hq1
        subst hq2
        exact z_iret S hG hS hlocks trivial hr dX11_ask_50
      · have hf := zif_n c4 hf
        refine lv_bipush (v := (-2)) hx hb dX11_ask_21 (by decide) ?_
        obtain ⟨hq1, hq2⟩ := Prod.mk.inj (Option.some.inj hf)
        subst hq1
        subst hq2
        exact z_iret S hG hS hlocks trivial hr dX11_ask_23
  exact hK0 _ _ ls hG hS hl hf
set_option maxRecDepth 100000 in
set_option maxHeartbeats 4000000 in
theorem c_X11_answered (l : Launch) (D : va_G) (aC : Nat → ClassId) (zs : Nat × Nat) (A : Nat → Prop) (nl : zNL) (ad : Nat → Nat → Nat → Nat) (σ : zM) (x1 : Int32) (x2 : Int32) (r : Int32)  (hf : f_X11_answered σ x1 x2 = some r) : Met l yX11_answered (Cond.code yX11_answered cX11_answered 3 (some .int) :: wsL_law) ({ frames := 1, cells := 0, slots := 0, locals := 22 } : Room) (zP D aC zs zfX A nl ad σ [.ref (ad 11 0 0), .int x1, .int x2]) (zQ (some (.int r)) (fun t => zG D aC A nl ad σ t t.heap ∧ True) A) 0 0 A := by
  refine Met.ofW (cc := cX11_answered) (maxL := 3) (ret := (some .int)) (by decide) rfl ?_
  intro p e s m args below meth c s₁ B hml hv
  obtain ⟨rfl, hG, hZ⟩ := hv
  have hx := B.exec
  have hb := B.bytes
  have hr := B.returns
  have hts : ∀ w ∈ wsL_law, w.before ([.ref (ad 11 0 0), .int x1, .int x2] : List Value).toArray s = true := fun w h => (atoms_spec B.pre) w (List.mem_cons_of_mem _ h)
  have hown : s.vm.findClass RX11 = some m.cls := findClass_of_methodNamed B.named
  have hlocks := B.notSynchronized
  have S : zS p m c cX11_answered 3 s ([.ref (ad 11 0 0), .int x1, .int x2] : List Value).toArray RX11 := ⟨hx, hb, hml, hown, hts⟩
  have hS : va_S A s.heap s.heap [] := va_S.rf
  have hl := lv_entry ([.ref (ad 11 0 0), .int x1, .int x2]) (n := 3) (Nat.le_of_ble_eq_true rfl)
  rw [lg_entry_eq]
  generalize (lg_sl ([.ref (ad 11 0 0), .int x1, .int x2]) ++ List.replicate (3 - (lg_sl ([.ref (ad 11 0 0), .int x1, .int x2])).length) Slot.unset).toArray = ls at hl ⊢
  have hl : lv_has ls 3 [(0, .ref (ad 11 0 0)), (1, .int x1), (2, .int x2)] := hl
  generalize hargs : ([.ref (ad 11 0 0), .int x1, .int x2] : List Value).toArray = args at S hts ⊢
  clear hargs
  have hK0 : ∀ (H : Heap) (locs : List Loc) (ls : Array Slot), zG D aC A nl ad σ s H → va_S A s.heap H locs → lv_has ls 3 [(0, .ref (ad 11 0 0)), (1, .int x1), (2, .int x2)] → f_X11_answered σ x1 x2 = some r → zWk p l e ({ frames := 1, cells := 0, slots := 0, locals := 22 } : Room) s m args below meth c A (some (.int r)) (fun t => zG D aC A nl ad σ t t.heap ∧ True) H locs (F0 m 0 ls []) := by
    intro H locs ls hG hS hl hf
    unfold f_X11_answered at hf
    refine lv_aload_n hx hb dX11_answered_0 rfl (lv_at hl 0 rfl) ?_
    refine z_get (c0 := 11) (i0 := 0) (k0 := 5) (T := TX11) (v := .ref (ad 3 0 0)) S hG (hZ.2.1 (11, 0) (by decide)) rfl inlX11 (by decide) rfl zw_36 rfl dX11_answered_1 ?_
    refine lv_iload_n hx hb dX11_answered_4 rfl (lv_at hl 1 rfl) ?_
    refine lv_iload_n hx hb dX11_answered_5 rfl (lv_at hl 2 rfl) ?_
    obtain ⟨r1, er1, hf⟩ := zbi hf
    refine z_callV (n := 2) (rest := []) (st1 := [.int r1]) (c0 := 3) (i0 := 0) (hZ.2.1 (3, 0) (by decide)) (by rfl) S hG hS hZ (fun _ _ h => h) (c_X3_part l D aC zs A nl ad σ x1 x2 r1 er1) zw_1182 zw_1183 zw_1184 zw_35 zw_1185 (by decide +kernel) ⟨rfl, rfl⟩ ⟨(Nat.le_of_ble_eq_true rfl), (Nat.le_of_ble_eq_true rfl)⟩ hl.1 rfl (by rfl) (by rfl) (Nat.le_of_ble_eq_true rfl) dX11_answered_6 ⟨Nat.zero_le _, Nat.zero_le _⟩ (fun H locs hz2 hG hS => ?_)
    have hq := (Option.some.inj hf)
    subst hq
    exact z_iret S hG hS hlocks trivial hr dX11_answered_9
  exact hK0 _ _ ls hG hS hl hf
set_option maxRecDepth 100000 in
set_option maxHeartbeats 4000000 in
theorem c_X11_juror (l : Launch) (D : va_G) (aC : Nat → ClassId) (zs : Nat × Nat) (A : Nat → Prop) (nl : zNL) (ad : Nat → Nat → Nat → Nat) (σ : zM)  (r : Int32) (σ' : zM)  (hf : f_X11_juror σ = (r, σ')) : Met l yX11_juror (Cond.code yX11_juror cX11_juror 1 (some .int) :: wsL_law) ({ frames := 1, cells := 0, slots := 0, locals := 20 } : Room) (zP D aC zs zfX A nl ad σ [.ref (ad 11 0 0)]) (zQ (some (.int r)) (fun t => zG D aC A nl ad σ' t t.heap ∧ True) A) 0 0 A := by
  refine Met.ofW (cc := cX11_juror) (maxL := 1) (ret := (some .int)) (by decide) rfl ?_
  intro p e s m args below meth c s₁ B hml hv
  obtain ⟨rfl, hG, hZ⟩ := hv
  have hx := B.exec
  have hb := B.bytes
  have hr := B.returns
  have hts : ∀ w ∈ wsL_law, w.before ([.ref (ad 11 0 0)] : List Value).toArray s = true := fun w h => (atoms_spec B.pre) w (List.mem_cons_of_mem _ h)
  have hown : s.vm.findClass RX11 = some m.cls := findClass_of_methodNamed B.named
  have hlocks := B.notSynchronized
  have S : zS p m c cX11_juror 1 s ([.ref (ad 11 0 0)] : List Value).toArray RX11 := ⟨hx, hb, hml, hown, hts⟩
  have hS : va_S A s.heap s.heap [] := va_S.rf
  have hl := lv_entry ([.ref (ad 11 0 0)]) (n := 1) (Nat.le_of_ble_eq_true rfl)
  rw [lg_entry_eq]
  generalize (lg_sl ([.ref (ad 11 0 0)]) ++ List.replicate (1 - (lg_sl ([.ref (ad 11 0 0)])).length) Slot.unset).toArray = ls at hl ⊢
  have hl : lv_has ls 1 [(0, .ref (ad 11 0 0))] := hl
  generalize hargs : ([.ref (ad 11 0 0)] : List Value).toArray = args at S hts ⊢
  clear hargs
  have hK0 : ∀ (H : Heap) (locs : List Loc) (ls : Array Slot), zG D aC A nl ad σ s H → va_S A s.heap H locs → lv_has ls 1 [(0, .ref (ad 11 0 0))] → f_X11_juror σ = (r, σ') → zWk p l e ({ frames := 1, cells := 0, slots := 0, locals := 20 } : Room) s m args below meth c A (some (.int r)) (fun t => zG D aC A nl ad σ' t t.heap ∧ True) H locs (F0 m 0 ls []) := by
    intro H locs ls hG hS hl hf
    unfold f_X11_juror at hf
    refine lv_aload_n hx hb dX11_juror_0 rfl (lv_at hl 0 rfl) ?_
    refine z_get (c0 := 11) (i0 := 0) (k0 := 6) (T := TX11) (v := .ref (ad 2 0 0)) S hG (hZ.2.1 (11, 0) (by decide)) rfl inlX11 (by decide) rfl zw_40 rfl dX11_juror_1 ?_
    obtain ⟨q1, eq1, hf⟩ := zlt_s hf
    refine z_callV (n := 0) (rest := []) (st1 := [.int q1.1]) (c0 := 2) (i0 := 0) (hZ.2.1 (2, 0) (by decide)) (by rfl) S hG hS hZ (fun _ _ h => h) (c_X2_add l D aC zs A nl ad σ q1.1 q1.2 eq1.symm) zw_1194 zw_1195 zw_1196 zw_39 zw_1197 (by decide +kernel) ⟨rfl, rfl⟩ ⟨(Nat.le_of_ble_eq_true rfl), (Nat.le_of_ble_eq_true rfl)⟩ hl.1 rfl (by rfl) (by rfl) (Nat.le_of_ble_eq_true rfl) dX11_juror_4 ⟨Nat.zero_le _, Nat.zero_le _⟩ (fun H locs hz2 hG hS => ?_)
    obtain ⟨hq1, hq2⟩ := Prod.mk.inj hf
    subst hq1
    subst hq2
    exact z_iret S hG hS hlocks trivial hr dX11_juror_7
  exact hK0 _ _ ls hG hS hl hf
set_option maxRecDepth 100000 in
set_option maxHeartbeats 4000000 in
theorem c_X11_knows (l : Launch) (D : va_G) (aC : Nat → ClassId) (zs : Nat × Nat) (A : Nat → Prop) (nl : zNL) (ad : Nat → Nat → Nat → Nat) (σ : zM) (x1 : Int32) (x2 : Int32) (x3 : Int32) (r : Int32) (σ' : zM)  (hf : f_X11_knows σ x1 x2 x3 = some (r, σ')) : Met l yX11_knows (Cond.code yX11_knows cX11_knows 4 (some .boolean) :: wsL_law) ({ frames := 2, cells := 0, slots := 0, locals := 45 } : Room) (zP D aC zs zfX A nl ad σ [.ref (ad 11 0 0), .int x1, .int x2, .int x3]) (zQ (some (.int r)) (fun t => zG D aC A nl ad σ' t t.heap ∧ (r = 0 ∨ r = 1)) A) 0 0 A := by
  refine Met.ofW (cc := cX11_knows) (maxL := 4) (ret := (some .boolean)) (by decide) rfl ?_
  intro p e s m args below meth c s₁ B hml hv
  obtain ⟨rfl, hG, hZ⟩ := hv
  have hx := B.exec
  have hb := B.bytes
  have hr := B.returns
  have hts : ∀ w ∈ wsL_law, w.before ([.ref (ad 11 0 0), .int x1, .int x2, .int x3] : List Value).toArray s = true := fun w h => (atoms_spec B.pre) w (List.mem_cons_of_mem _ h)
  have hown : s.vm.findClass RX11 = some m.cls := findClass_of_methodNamed B.named
  have hlocks := B.notSynchronized
  have S : zS p m c cX11_knows 4 s ([.ref (ad 11 0 0), .int x1, .int x2, .int x3] : List Value).toArray RX11 := ⟨hx, hb, hml, hown, hts⟩
  have hS : va_S A s.heap s.heap [] := va_S.rf
  have hl := lv_entry ([.ref (ad 11 0 0), .int x1, .int x2, .int x3]) (n := 4) (Nat.le_of_ble_eq_true rfl)
  rw [lg_entry_eq]
  generalize (lg_sl ([.ref (ad 11 0 0), .int x1, .int x2, .int x3]) ++ List.replicate (4 - (lg_sl ([.ref (ad 11 0 0), .int x1, .int x2, .int x3])).length) Slot.unset).toArray = ls at hl ⊢
  have hl : lv_has ls 4 [(0, .ref (ad 11 0 0)), (1, .int x1), (2, .int x2), (3, .int x3)] := hl
  generalize hargs : ([.ref (ad 11 0 0), .int x1, .int x2, .int x3] : List Value).toArray = args at S hts ⊢
  clear hargs
  have hK0 : ∀ (H : Heap) (locs : List Loc) (ls : Array Slot), zG D aC A nl ad σ s H → va_S A s.heap H locs → lv_has ls 4 [(0, .ref (ad 11 0 0)), (1, .int x1), (2, .int x2), (3, .int x3)] → f_X11_knows σ x1 x2 x3 = some (r, σ') → zWk p l e ({ frames := 2, cells := 0, slots := 0, locals := 45 } : Room) s m args below meth c A (some (.int r)) (fun t => zG D aC A nl ad σ' t t.heap ∧ (r = 0 ∨ r = 1)) H locs (F0 m 0 ls []) := by
    intro H locs ls hG hS hl hf
    unfold f_X11_knows at hf
    refine lv_aload_n hx hb dX11_knows_0 rfl (lv_at hl 0 rfl) ?_
    refine z_get (c0 := 11) (i0 := 0) (k0 := 6) (T := TX11) (v := .ref (ad 2 0 0)) S hG (hZ.2.1 (11, 0) (by decide)) rfl inlX11 (by decide) rfl zw_40 rfl dX11_knows_1 ?_
    refine lv_iload_n hx hb dX11_knows_4 rfl (lv_at hl 1 rfl) ?_
    refine z_callV (n := 1) (rest := []) (st1 := [.int (f_X2_has σ x1)]) (c0 := 2) (i0 := 0) (hZ.2.1 (2, 0) (by decide)) (by rfl) S hG hS hZ (fun _ _ h => h) (c_X2_has l D aC zs A nl ad σ x1 (f_X2_has σ x1) rfl) zw_1207 zw_1208 zw_1209 zw_39 zw_1210 (by decide +kernel) ⟨rfl, rfl⟩ ⟨(Nat.le_of_ble_eq_true rfl), (Nat.le_of_ble_eq_true rfl)⟩ hl.1 rfl (by rfl) (by rfl) (Nat.le_of_ble_eq_true rfl) dX11_knows_5 ⟨Nat.zero_le _, Nat.zero_le _⟩ (fun H locs hz1 hG hS => ?_)
    refine lv_if_eq (tgt := 25) hx hb dX11_knows_8 (by decide) (fun c2 => ?_) (fun c2 => ?_)
    · have hf := zif_p c2 hf
      refine lv_iconst (v := 0) hx hb dX11_knows_25 (by decide) ?_
      obtain ⟨hq1, hq2⟩ := Prod.mk.inj (Option.some.inj hf)
      subst hq1
      subst hq2
      exact z_zret S hG hS hlocks (Or.inl rfl) hr dX11_knows_26
    · have hf := zif_n c2 hf
      refine lv_iload_n hx hb dX11_knows_11 rfl (lv_at hl 2 rfl) ?_
      refine z_callS (n := 1) (rest := []) (st1 := [.int (f_X11_isAuthor x2)]) S hG hS hZ (fun _ _ h => h) (c_X11_isAuthor l D aC zs A nl ad σ x2 (f_X11_isAuthor x2) rfl) zw_784 zw_785 zw_2 zw_786 (by decide +kernel) ⟨rfl, rfl⟩ ⟨(Nat.le_of_ble_eq_true rfl), (Nat.le_of_ble_eq_true rfl)⟩ hl.1 rfl (by rfl) (by rfl) (Nat.le_of_ble_eq_true rfl) dX11_knows_12 ⟨Nat.zero_le _, Nat.zero_le _⟩ (fun H locs hz3 hG hS => ?_)
      refine lv_if_eq (tgt := 25) hx hb dX11_knows_15 (by decide) (fun c4 => ?_) (fun c4 => ?_)
      · have hf := zif_p c4 hf
        refine lv_iconst (v := 0) hx hb dX11_knows_25 (by decide) ?_
        obtain ⟨hq1, hq2⟩ := Prod.mk.inj (Option.some.inj hf)
        subst hq1
        subst hq2
        exact z_zret S hG hS hlocks (Or.inl rfl) hr dX11_knows_26
      · have hf := zif_n c4 hf
        refine lv_iload_n hx hb dX11_knows_18 rfl (lv_at hl 3 rfl) ?_
        refine z_callS (n := 1) (rest := []) (st1 := [.int (f_X11_isDay x3)]) S hG hS hZ (fun _ _ h => h) (c_X11_isDay l D aC zs A nl ad σ x3 (f_X11_isDay x3) rfl) zw_671 zw_672 zw_2 zw_673 (by decide +kernel) ⟨rfl, rfl⟩ ⟨(Nat.le_of_ble_eq_true rfl), (Nat.le_of_ble_eq_true rfl)⟩ hl.1 rfl (by rfl) (by rfl) (Nat.le_of_ble_eq_true rfl) dX11_knows_19 ⟨Nat.zero_le _, Nat.zero_le _⟩ (fun H locs hz5 hG hS => ?_)
        refine lv_if_ne (tgt := 27) hx hb dX11_knows_22 (by decide) (fun c6 => ?_) (fun c6 => ?_)
        · have hf := zif_n c6 hf
          refine lv_aload_n hx hb dX11_knows_27 rfl (lv_at hl 0 rfl) ?_
          refine z_get (c0 := 11) (i0 := 0) (k0 := 6) (T := TX11) (v := .ref (ad 2 0 0)) S hG (hZ.2.1 (11, 0) (by decide)) rfl inlX11 (by decide) rfl zw_40 rfl dX11_knows_28 ?_
          refine lv_iload_n hx hb dX11_knows_31 rfl (lv_at hl 1 rfl) ?_
          refine lv_iload_n hx hb dX11_knows_32 rfl (lv_at hl 2 rfl) ?_
          refine lv_iload_n hx hb dX11_knows_33 rfl (lv_at hl 3 rfl) ?_
          obtain ⟨σ7, eσ7, hf⟩ := zbi hf
          refine z_callV (n := 3) (rest := []) (st1 := []) (c0 := 2) (i0 := 0) (hZ.2.1 (2, 0) (by decide)) (by rfl) S hG hS hZ (fun _ _ h => h) (c_X2_tell l D aC zs A nl ad σ x1 x2 x3 σ7 eσ7) zw_1211 zw_1212 zw_1213 zw_39 zw_1214 (by decide +kernel) ⟨rfl, rfl⟩ ⟨(Nat.le_of_ble_eq_true rfl), (Nat.le_of_ble_eq_true rfl)⟩ hl.1 rfl (by rfl) (by rfl) (Nat.le_of_ble_eq_true rfl) dX11_knows_34 ⟨Nat.zero_le _, Nat.zero_le _⟩ (fun H locs hz8 hG hS => ?_)
          refine lv_iconst (v := 1) hx hb dX11_knows_37 (by decide) ?_
          obtain ⟨hq1, hq2⟩ := Prod.mk.inj (Option.some.inj hf)
          subst hq1
          subst hq2
          exact z_zret S hG hS hlocks (Or.inr rfl) hr dX11_knows_38
        · have hf := zif_p c6 hf
          refine lv_iconst (v := 0) hx hb dX11_knows_25 (by decide) ?_
          obtain ⟨hq1, hq2⟩ := Prod.mk.inj (Option.some.inj hf)
          subst hq1
          subst hq2
          exact z_zret S hG hS hlocks (Or.inl rfl) hr dX11_knows_26
  exact hK0 _ _ ls hG hS hl hf
set_option maxRecDepth 100000 in
set_option maxHeartbeats 4000000 in
theorem c_X11_roundAt (l : Launch) (D : va_G) (aC : Nat → ClassId) (zs : Nat × Nat) (A : Nat → Prop) (nl : zNL) (ad : Nat → Nat → Nat → Nat) (σ : zM) (x1 : Int32) (r : Option Nat) (σ' : zM)  (hf : f_X11_roundAt σ x1 = some (r, σ')) : Met l yX11_roundAt (Cond.code yX11_roundAt cX11_roundAt 3 (some (.object "BuildingJury$Round")) :: wsL_law) ({ frames := 3, cells := 0, slots := 0, locals := 75 } : Room) (zP D aC zs zfX A nl ad σ [.ref (ad 11 0 0), .int x1]) (zQ (some (va_rf (Option.map (fun j => ad 6 j 0) r))) (fun t => zG D aC A nl ad σ' t t.heap ∧ (∀ j, r = some j → zin nl 6 j)) A) 0 0 A := by
  refine Met.ofW (cc := cX11_roundAt) (maxL := 3) (ret := (some (.object "BuildingJury$Round"))) (by decide) rfl ?_
  intro p e s m args below meth c s₁ B hml hv
  obtain ⟨rfl, hG, hZ⟩ := hv
  have hx := B.exec
  have hb := B.bytes
  have hr := B.returns
  have hts : ∀ w ∈ wsL_law, w.before ([.ref (ad 11 0 0), .int x1] : List Value).toArray s = true := fun w h => (atoms_spec B.pre) w (List.mem_cons_of_mem _ h)
  have hown : s.vm.findClass RX11 = some m.cls := findClass_of_methodNamed B.named
  have hlocks := B.notSynchronized
  have S : zS p m c cX11_roundAt 3 s ([.ref (ad 11 0 0), .int x1] : List Value).toArray RX11 := ⟨hx, hb, hml, hown, hts⟩
  have hS : va_S A s.heap s.heap [] := va_S.rf
  have hl := lv_entry ([.ref (ad 11 0 0), .int x1]) (n := 3) (Nat.le_of_ble_eq_true rfl)
  rw [lg_entry_eq]
  generalize (lg_sl ([.ref (ad 11 0 0), .int x1]) ++ List.replicate (3 - (lg_sl ([.ref (ad 11 0 0), .int x1])).length) Slot.unset).toArray = ls at hl ⊢
  have hl : lv_has ls 3 [(0, .ref (ad 11 0 0)), (1, .int x1)] := hl
  generalize hargs : ([.ref (ad 11 0 0), .int x1] : List Value).toArray = args at S hts ⊢
  clear hargs
  have KJ44 : ∀ (t0b44 : Nat) (h_t0b44 : zin nl 6 t0b44) (σb44 : zM) (H : Heap) (locs : List Loc) (ls : Array Slot), zG D aC A nl ad σb44 s H → va_S A s.heap H locs → lv_has ls 3 [(0, .ref (ad 11 0 0)), (1, .int x1)] → (f_X11_roundAt_B44 σb44 x1 t0b44) = some (r, σ') → zWk p l e ({ frames := 3, cells := 0, slots := 0, locals := 75 } : Room) s m args below meth c A (some (va_rf (Option.map (fun j => ad 6 j 0) r))) (fun t => zG D aC A nl ad σ' t t.heap ∧ (∀ j, r = some j → zin nl 6 j)) H locs (F0 m 44 ls [.ref (ad 6 t0b44 0)]) := by
    intro t0b44 h_t0b44 σb44 H locs ls hG hS hl hf
    unfold f_X11_roundAt_B44 at hf
    refine lv_astore_n (lv' := [(2, .ref (ad 6 t0b44 0)), (0, .ref (ad 11 0 0)), (1, .int x1)]) hx hb dX11_roundAt_44 rfl hl (by decide) rfl (fun ls hl => ?_)
    refine lv_iload_n hx hb dX11_roundAt_45 rfl (lv_at hl 2 rfl) ?_
    refine lv_aload_n hx hb dX11_roundAt_46 rfl (lv_at hl 1 rfl) ?_
    refine z_get (c0 := 11) (i0 := 0) (k0 := 14) (T := TX11) (v := .int (zI σb44 11 0 14)) S hG (hZ.2.1 (11, 0) (by decide)) rfl inlX11 (by decide) rfl zw_52 rfl dX11_roundAt_47 ?_
    refine lv_icmp_ne (tgt := 69) hx hb dX11_roundAt_50 (by decide) (fun c5 => ?_) (fun c5 => ?_)
    · have hf := zif_n c5 hf
      refine lv_aload_n hx hb dX11_roundAt_69 rfl (lv_at hl 0 rfl) ?_
      obtain ⟨hq1, hq2⟩ := Prod.mk.inj (Option.some.inj hf)
      subst hq1
      subst hq2
      exact z_aret S hG hS hlocks (by exact (fun _ h => by cases h; exact h_t0b44)) hr (Or.inl ⟨_, rfl⟩) (Or.inr ⟨_, rfl⟩) dX11_roundAt_70
    · have hf := zif_p c5 hf
      refine lv_aload_n hx hb dX11_roundAt_53 rfl (lv_at hl 0 rfl) ?_
      refine lv_aload_n hx hb dX11_roundAt_54 rfl (lv_at hl 1 rfl) ?_
      refine z_get (c0 := 11) (i0 := 0) (k0 := 6) (T := TX11) (v := .ref (ad 2 0 0)) S hG (hZ.2.1 (11, 0) (by decide)) rfl inlX11 (by decide) rfl zw_40 rfl dX11_roundAt_55 ?_
      refine lv_aload_n hx hb dX11_roundAt_58 rfl (lv_at hl 1 rfl) ?_
      refine z_get (c0 := 11) (i0 := 0) (k0 := 7) (T := TX11) (v := .ref (ad 11 0 8)) S hG (hZ.2.1 (11, 0) (by decide)) rfl inlX11 (by decide) rfl zw_42 rfl dX11_roundAt_59 ?_
      refine lv_aload_n hx hb dX11_roundAt_62 rfl (lv_at hl 1 rfl) ?_
      refine z_get (c0 := 11) (i0 := 0) (k0 := 10) (T := TX11) (v := .int (zI σb44 11 0 10)) S hG (hZ.2.1 (11, 0) (by decide)) rfl inlX11 (by decide) rfl zw_48 rfl dX11_roundAt_63 ?_
      obtain ⟨σ6, eσ6, hf⟩ := zbi hf
      refine z_callV (n := 3) (rest := []) (st1 := []) (c0 := 6) (i0 := t0b44) h_t0b44 (by rfl) S hG hS hZ (fun _ _ h => h) (c_X6_weighVoices l D aC zs A nl ad σb44 t0b44 (zI σb44 11 0 10) σ6 h_t0b44 eσ6) zw_1232 zw_1233 zw_1234 zw_45 zw_1235 (by decide +kernel) ⟨rfl, rfl⟩ ⟨(Nat.le_of_ble_eq_true rfl), (Nat.le_of_ble_eq_true rfl)⟩ hl.1 rfl (by rfl) (by rfl) (Nat.le_of_ble_eq_true rfl) dX11_roundAt_66 ⟨Nat.zero_le _, Nat.zero_le _⟩ (fun H locs hz7 hG hS => ?_)
      refine lv_aload_n hx hb dX11_roundAt_69 rfl (lv_at hl 0 rfl) ?_
      obtain ⟨hq1, hq2⟩ := Prod.mk.inj (Option.some.inj hf)
      subst hq1
      subst hq2
      exact z_aret S hG hS hlocks (by exact (fun _ h => by cases h; exact h_t0b44)) hr (Or.inl ⟨_, rfl⟩) (Or.inr ⟨_, rfl⟩) dX11_roundAt_70
  have KJ28 : ∀ (σb28 : zM) (H : Heap) (locs : List Loc) (ls : Array Slot), zG D aC A nl ad σb28 s H → va_S A s.heap H locs → lv_has ls 3 [(0, .ref (ad 11 0 0)), (1, .int x1)] → (f_X11_roundAt_B28 σb28 x1) = some (r, σ') → zWk p l e ({ frames := 3, cells := 0, slots := 0, locals := 75 } : Room) s m args below meth c A (some (va_rf (Option.map (fun j => ad 6 j 0) r))) (fun t => zG D aC A nl ad σ' t t.heap ∧ (∀ j, r = some j → zin nl 6 j)) H locs (F0 m 28 ls []) := by
    intro   σb28 H locs ls hG hS hl hf
    unfold f_X11_roundAt_B28 at hf
    refine lv_iload_n hx hb dX11_roundAt_28 rfl (lv_at hl 1 rfl) ?_
    refine lv_iconst (v := 1) hx hb dX11_roundAt_29 (by decide) ?_
    refine lv_icmp_ne (tgt := 40) hx hb dX11_roundAt_30 (by decide) (fun c4 => ?_) (fun c4 => ?_)
    · have hf := zif_n c4 hf
      refine lv_aload_n hx hb dX11_roundAt_40 rfl (lv_at hl 0 rfl) ?_
      refine z_get (c0 := 11) (i0 := 0) (k0 := 9) (T := TX11) (v := .ref (ad 6 1 0)) S hG (hZ.2.1 (11, 0) (by decide)) rfl inlX11 (by decide) rfl zw_47 rfl dX11_roundAt_41 ?_
      exact KJ44 1 (hZ.2.1 (6, 1) (by decide)) σb28 H locs ls hG hS (lv_sub hl [0, 1] rfl) hf
    · have hf := zif_p c4 hf
      refine lv_aload_n hx hb dX11_roundAt_33 rfl (lv_at hl 0 rfl) ?_
      refine z_get (c0 := 11) (i0 := 0) (k0 := 8) (T := TX11) (v := .ref (ad 6 0 0)) S hG (hZ.2.1 (11, 0) (by decide)) rfl inlX11 (by decide) rfl zw_46 rfl dX11_roundAt_34 ?_
      refine lv_goto (tgt := 44) hx hb dX11_roundAt_37 (by decide) ?_
      exact KJ44 0 (hZ.2.1 (6, 0) (by decide)) σb28 H locs ls hG hS (lv_sub hl [0, 1] rfl) hf
  have hK0 : ∀ (H : Heap) (locs : List Loc) (ls : Array Slot), zG D aC A nl ad σ s H → va_S A s.heap H locs → lv_has ls 3 [(0, .ref (ad 11 0 0)), (1, .int x1)] → f_X11_roundAt σ x1 = some (r, σ') → zWk p l e ({ frames := 3, cells := 0, slots := 0, locals := 75 } : Room) s m args below meth c A (some (va_rf (Option.map (fun j => ad 6 j 0) r))) (fun t => zG D aC A nl ad σ' t t.heap ∧ (∀ j, r = some j → zin nl 6 j)) H locs (F0 m 0 ls []) := by
    intro H locs ls hG hS hl hf
    unfold f_X11_roundAt at hf
    refine lv_iload_n hx hb dX11_roundAt_0 rfl (lv_at hl 1 rfl) ?_
    refine lv_iconst (v := 1) hx hb dX11_roundAt_1 (by decide) ?_
    refine lv_icmp_lt (tgt := 26) hx hb dX11_roundAt_2 (by decide) (fun c1 => ?_) (fun c1 => ?_)
    · have hf := zif_p c1 hf
      refine lv_null hx hb dX11_roundAt_26 ?_
      obtain ⟨hq1, hq2⟩ := Prod.mk.inj (Option.some.inj hf)
      subst hq1
      subst hq2
      exact z_aret S hG hS hlocks (by exact (fun _ h => by cases h)) hr (Or.inl ⟨_, rfl⟩) (Or.inl rfl) dX11_roundAt_27
    · have hf := zif_n c1 hf
      refine lv_iload_n hx hb dX11_roundAt_5 rfl (lv_at hl 1 rfl) ?_
      refine lv_iconst (v := 2) hx hb dX11_roundAt_6 (by decide) ?_
      refine lv_icmp_gt (tgt := 26) hx hb dX11_roundAt_7 (by decide) (fun c2 => ?_) (fun c2 => ?_)
      · have hf := zif_p c2 hf
        refine lv_null hx hb dX11_roundAt_26 ?_
        obtain ⟨hq1, hq2⟩ := Prod.mk.inj (Option.some.inj hf)
        subst hq1
        subst hq2
        exact z_aret S hG hS hlocks (by exact (fun _ h => by cases h)) hr (Or.inl ⟨_, rfl⟩) (Or.inl rfl) dX11_roundAt_27
      · have hf := zif_n c2 hf
        refine lv_iload_n hx hb dX11_roundAt_10 rfl (lv_at hl 1 rfl) ?_
        refine lv_aload_n hx hb dX11_roundAt_11 rfl (lv_at hl 0 rfl) ?_
        refine z_get (c0 := 11) (i0 := 0) (k0 := 15) (T := TX11) (v := .int (zI σ 11 0 15)) S hG (hZ.2.1 (11, 0) (by decide)) rfl inlX11 (by decide) rfl zw_53 rfl dX11_roundAt_12 ?_
        refine lv_icmp_le (tgt := 28) hx hb dX11_roundAt_15 (by decide) (fun c3 => ?_) (fun c3 => ?_)
        · have hf := zif_p c3 hf
          exact KJ28 σ H locs ls hG hS (lv_sub hl [0, 1] rfl) hf
        · have hf := zif_n c3 hf
          refine lv_iload_n hx hb dX11_roundAt_18 rfl (lv_at hl 1 rfl) ?_
          refine lv_aload_n hx hb dX11_roundAt_19 rfl (lv_at hl 0 rfl) ?_
          refine z_get (c0 := 11) (i0 := 0) (k0 := 14) (T := TX11) (v := .int (zI σ 11 0 14)) S hG (hZ.2.1 (11, 0) (by decide)) rfl inlX11 (by decide) rfl zw_52 rfl dX11_roundAt_20 ?_
          refine lv_icmp_eq (tgt := 28) hx hb dX11_roundAt_23 (by decide) (fun c8 => ?_) (fun c8 => ?_)
          · have hf := zif_p c8 hf
            exact KJ28 σ H locs ls hG hS (lv_sub hl [0, 1] rfl) hf
          · have hf := zif_n c8 hf
            refine lv_null hx hb dX11_roundAt_26 ?_
            obtain ⟨hq1, hq2⟩ := Prod.mk.inj (Option.some.inj hf)
            subst hq1
            subst hq2
            exact z_aret S hG hS hlocks (by exact (fun _ h => by cases h)) hr (Or.inl ⟨_, rfl⟩) (Or.inl rfl) dX11_roundAt_27
  exact hK0 _ _ ls hG hS hl hf
set_option maxRecDepth 100000 in
set_option maxHeartbeats 4000000 in
theorem c_X11_marks (l : Launch) (D : va_G) (aC : Nat → ClassId) (zs : Nat × Nat) (A : Nat → Prop) (nl : zNL) (ad : Nat → Nat → Nat → Nat) (σ : zM) (x1 : Int32) (x2 : Int64) (r : Int32) (σ' : zM)  (hf : f_X11_marks σ x1 x2 = some (r, σ')) : Met l yX11_marks (Cond.code yX11_marks cX11_marks 5 (some .int) :: wsL_law) ({ frames := 4, cells := 0, slots := 0, locals := 97 } : Room) (zP D aC zs zfX A nl ad σ [.ref (ad 11 0 0), .int x1, .long x2]) (zQ (some (.int r)) (fun t => zG D aC A nl ad σ' t t.heap ∧ True) A) 0 0 A := by
  refine Met.ofW (cc := cX11_marks) (maxL := 5) (ret := (some .int)) (by decide) rfl ?_
  intro p e s m args below meth c s₁ B hml hv
  obtain ⟨rfl, hG, hZ⟩ := hv
  have hx := B.exec
  have hb := B.bytes
  have hr := B.returns
  have hts : ∀ w ∈ wsL_law, w.before ([.ref (ad 11 0 0), .int x1, .long x2] : List Value).toArray s = true := fun w h => (atoms_spec B.pre) w (List.mem_cons_of_mem _ h)
  have hown : s.vm.findClass RX11 = some m.cls := findClass_of_methodNamed B.named
  have hlocks := B.notSynchronized
  have S : zS p m c cX11_marks 5 s ([.ref (ad 11 0 0), .int x1, .long x2] : List Value).toArray RX11 := ⟨hx, hb, hml, hown, hts⟩
  have hS : va_S A s.heap s.heap [] := va_S.rf
  have hl := lv_entry ([.ref (ad 11 0 0), .int x1, .long x2]) (n := 5) (Nat.le_of_ble_eq_true rfl)
  rw [lg_entry_eq]
  generalize (lg_sl ([.ref (ad 11 0 0), .int x1, .long x2]) ++ List.replicate (5 - (lg_sl ([.ref (ad 11 0 0), .int x1, .long x2])).length) Slot.unset).toArray = ls at hl ⊢
  have hl : lv_has ls 5 [(0, .ref (ad 11 0 0)), (1, .int x1), (2, .long x2)] := hl
  generalize hargs : ([.ref (ad 11 0 0), .int x1, .long x2] : List Value).toArray = args at S hts ⊢
  clear hargs
  have KJ19 : ∀ (t0b19 : Option Nat) (h_t0b19 : ∀ j, t0b19 = some j → zin nl 6 j) (σb19 : zM) (H : Heap) (locs : List Loc) (ls : Array Slot), zG D aC A nl ad σb19 s H → va_S A s.heap H locs → lv_has ls 5 [(0, .ref (ad 11 0 0)), (1, .int x1), (2, .long x2)] → (f_X11_marks_B19 σb19 x1 x2 t0b19) = some (r, σ') → zWk p l e ({ frames := 4, cells := 0, slots := 0, locals := 97 } : Room) s m args below meth c A (some (.int r)) (fun t => zG D aC A nl ad σ' t t.heap ∧ True) H locs (F0 m 19 ls [va_rf (Option.map (fun j => ad 6 j 0) t0b19)]) := by
    intro t0b19 h_t0b19 σb19 H locs ls hG hS hl hf
    unfold f_X11_marks_B19 at hf
    rcases t0b19 with _ | j6
    · have hf := znu_n hf
      have hl : lv_has ls 5 [(0, .ref (ad 11 0 0)), (1, .int x1), (2, .long x2)] := hl
      refine W.eq (g2 := F0 m 19 ls [.null]) (by rfl) ?_
      refine lv_astoreN (lv' := [(4, .null), (0, .ref (ad 11 0 0)), (1, .int x1), (2, .long x2)]) hx hb dX11_marks_19 hl (by decide) rfl (fun ls hl => ?_)
      refine lv_aloadN hx hb dX11_marks_21 (lv_at hl 0 rfl) ?_
      refine lv_ifnullN (tgt := 37) hx hb dX11_marks_23 (by decide) ?_
      refine lv_iconst (v := (-1)) hx hb dX11_marks_37 (by decide) ?_
      obtain ⟨hq1, hq2⟩ := Prod.mk.inj (Option.some.inj hf)
      subst hq1
      subst hq2
      exact z_iret S hG hS hlocks trivial hr dX11_marks_38
    · have hf := znu_s hf
      have hl : lv_has ls 5 [(0, .ref (ad 11 0 0)), (1, .int x1), (2, .long x2)] := hl
      refine W.eq (g2 := F0 m 19 ls [.ref (ad 6 j6 0)]) (by rfl) ?_
      refine lv_astore (lv' := [(4, .ref (ad 6 j6 0)), (0, .ref (ad 11 0 0)), (1, .int x1), (2, .long x2)]) hx hb dX11_marks_19 hl (by decide) rfl (fun ls hl => ?_)
      refine lv_aload hx hb dX11_marks_21 (lv_at hl 0 rfl) ?_
      refine lv_ifnull hx hb dX11_marks_23 ?_
      refine lv_aload_n hx hb dX11_marks_26 rfl (lv_at hl 1 rfl) ?_
      refine z_get (c0 := 11) (i0 := 0) (k0 := 6) (T := TX11) (v := .ref (ad 2 0 0)) S hG (hZ.2.1 (11, 0) (by decide)) rfl inlX11 (by decide) rfl zw_40 rfl dX11_marks_27 ?_
      refine lv_iload_n hx hb dX11_marks_30 rfl (lv_at hl 2 rfl) ?_
      refine z_callV (n := 1) (rest := []) (st1 := [.int (f_X2_has σb19 x1)]) (c0 := 2) (i0 := 0) (hZ.2.1 (2, 0) (by decide)) (by rfl) S hG hS hZ (fun _ _ h => h) (c_X2_has l D aC zs A nl ad σb19 x1 (f_X2_has σb19 x1) rfl) zw_1207 zw_1208 zw_1209 zw_39 zw_1210 (by decide +kernel) ⟨rfl, rfl⟩ ⟨(Nat.le_of_ble_eq_true rfl), (Nat.le_of_ble_eq_true rfl)⟩ hl.1 rfl (by rfl) (by rfl) (Nat.le_of_ble_eq_true rfl) dX11_marks_31 ⟨Nat.zero_le _, Nat.zero_le _⟩ (fun H locs hz7 hG hS => ?_)
      refine lv_if_ne (tgt := 39) hx hb dX11_marks_34 (by decide) (fun c8 => ?_) (fun c8 => ?_)
      · have hf := zif_n c8 hf
        refine lv_aload hx hb dX11_marks_39 (lv_at hl 0 rfl) ?_
        refine lv_iload_n hx hb dX11_marks_41 rfl (lv_at hl 2 rfl) ?_
        refine lv_lload_n hx hb dX11_marks_42 rfl (lv_at hl 3 rfl) ?_
        refine lv_aload_n hx hb dX11_marks_43 rfl (lv_at hl 1 rfl) ?_
        refine z_get (c0 := 11) (i0 := 0) (k0 := 12) (T := TX11) (v := .int (zI σb19 11 0 12)) S hG (hZ.2.1 (11, 0) (by decide)) rfl inlX11 (by decide) rfl zw_50 rfl dX11_marks_44 ?_
        obtain ⟨q9, eq9, hf⟩ := zbi hf
        refine z_callV (n := 3) (rest := []) (st1 := [.int q9.1]) (c0 := 6) (i0 := j6) (h_t0b19 j6 rfl) (by rfl) S hG hS hZ (fun _ _ h => h) (c_X6_mark l D aC zs A nl ad σb19 j6 x1 x2 (zI σb19 11 0 12) q9.1 q9.2 (h_t0b19 j6 rfl) eq9) zw_1258 zw_1259 zw_1260 zw_45 zw_1261 (by decide +kernel) ⟨rfl, rfl⟩ ⟨(Nat.le_of_ble_eq_true rfl), (Nat.le_of_ble_eq_true rfl)⟩ hl.1 rfl (by rfl) (by rfl) (Nat.le_of_ble_eq_true rfl) dX11_marks_47 ⟨Nat.zero_le _, Nat.zero_le _⟩ (fun H locs hz10 hG hS => ?_)
        obtain ⟨hq1, hq2⟩ := Prod.mk.inj (Option.some.inj hf)
        subst hq1
        subst hq2
        exact z_iret S hG hS hlocks trivial hr dX11_marks_50
      · have hf := zif_p c8 hf
        refine lv_iconst (v := (-1)) hx hb dX11_marks_37 (by decide) ?_
        obtain ⟨hq1, hq2⟩ := Prod.mk.inj (Option.some.inj hf)
        subst hq1
        subst hq2
        exact z_iret S hG hS hlocks trivial hr dX11_marks_38
  have hK0 : ∀ (H : Heap) (locs : List Loc) (ls : Array Slot), zG D aC A nl ad σ s H → va_S A s.heap H locs → lv_has ls 5 [(0, .ref (ad 11 0 0)), (1, .int x1), (2, .long x2)] → f_X11_marks σ x1 x2 = some (r, σ') → zWk p l e ({ frames := 4, cells := 0, slots := 0, locals := 97 } : Room) s m args below meth c A (some (.int r)) (fun t => zG D aC A nl ad σ' t t.heap ∧ True) H locs (F0 m 0 ls []) := by
    intro H locs ls hG hS hl hf
    unfold f_X11_marks at hf
    refine lv_aload_n hx hb dX11_marks_0 rfl (lv_at hl 0 rfl) ?_
    refine z_get (c0 := 11) (i0 := 0) (k0 := 14) (T := TX11) (v := .int (zI σ 11 0 14)) S hG (hZ.2.1 (11, 0) (by decide)) rfl inlX11 (by decide) rfl zw_52 rfl dX11_marks_1 ?_
    refine lv_if_ne (tgt := 11) hx hb dX11_marks_4 (by decide) (fun c1 => ?_) (fun c1 => ?_)
    · have hf := zif_n c1 hf
      refine lv_aload_n hx hb dX11_marks_11 rfl (lv_at hl 0 rfl) ?_
      refine lv_aload_n hx hb dX11_marks_12 rfl (lv_at hl 0 rfl) ?_
      refine z_get (c0 := 11) (i0 := 0) (k0 := 14) (T := TX11) (v := .int (zI σ 11 0 14)) S hG (hZ.2.1 (11, 0) (by decide)) rfl inlX11 (by decide) rfl zw_52 rfl dX11_marks_13 ?_
      obtain ⟨q2, eq2, hf⟩ := zbi hf
      refine z_callV (n := 1) (rest := []) (st1 := [va_rf (Option.map (fun j => ad 6 j 0) q2.1)]) (c0 := 11) (i0 := 0) (hZ.2.1 (11, 0) (by decide)) (by rfl) S hG hS hZ (fun _ _ h => h) (c_X11_roundAt l D aC zs A nl ad σ (zI σ 11 0 14) q2.1 q2.2 eq2) zw_1228 zw_1229 zw_1230 zw_2 zw_1231 (by decide +kernel) ⟨rfl, rfl⟩ ⟨(Nat.le_of_ble_eq_true rfl), (Nat.le_of_ble_eq_true rfl)⟩ hl.1 rfl (by rfl) (by rfl) (Nat.le_of_ble_eq_true rfl) dX11_marks_16 ⟨Nat.zero_le _, Nat.zero_le _⟩ (fun H locs hz3 hG hS => ?_)
      rcases hE5 : q2.1 with _ | j4
      · have hf := znu_n0 hE5 hf
        refine W.eq (g2 := F0 m 19 ls [.null]) (by first | rfl | (rw [hE5]; rfl)) ?_
        refine W.eq (g2 := F0 m 19 ls [va_rf (Option.map (fun j => ad 6 j 0) none)]) (by rfl) ?_
        exact KJ19 none (fun _ h => by cases h) q2.2 H locs ls hG hS (lv_sub hl [0, 1, 2] rfl) hf
      · have hf := znu_s0 hE5 hf
        refine W.eq (g2 := F0 m 19 ls [.ref (ad 6 j4 0)]) (by first | rfl | (rw [hE5]; rfl)) ?_
        refine W.eq (g2 := F0 m 19 ls [va_rf (Option.map (fun j => ad 6 j 0) (some j4))]) (by rfl) ?_
        exact KJ19 (some j4) (fun _ h => by cases h; exact (hz3 j4 hE5)) q2.2 H locs ls hG hS (lv_sub hl [0, 1, 2] rfl) hf
    · have hf := zif_p c1 hf
      refine lv_null hx hb dX11_marks_7 ?_
      refine lv_goto (tgt := 19) hx hb dX11_marks_8 (by decide) ?_
      refine W.eq (g2 := F0 m 19 ls [va_rf (Option.map (fun j => ad 6 j 0) none)]) (by rfl) ?_
      exact KJ19 none (fun _ h => by cases h) σ H locs ls hG hS (lv_sub hl [0, 1, 2] rfl) hf
  exact hK0 _ _ ls hG hS hl hf
set_option maxRecDepth 100000 in
set_option maxHeartbeats 4000000 in
theorem c_X11_admitAllThatStand (l : Launch) (D : va_G) (aC : Nat → ClassId) (zs : Nat × Nat) (A : Nat → Prop) (nl : zNL) (ad : Nat → Nat → Nat → Nat) (σ : zM)   (σ' : zM)  (hf : f_X11_admitAllThatStand σ = some σ') : Met l yX11_admitAllThatStand (Cond.code yX11_admitAllThatStand cX11_admitAllThatStand 3 none :: wsL_law) ({ frames := 7, cells := 0, slots := 0, locals := 177 } : Room) (zP D aC zs zfX A nl ad σ [.ref (ad 11 0 0)]) (zQ none (fun t => zG D aC A nl ad σ' t t.heap ∧ True) A) 0 0 A := by
  refine Met.ofW (cc := cX11_admitAllThatStand) (maxL := 3) (ret := none) (by decide) rfl ?_
  intro p e s m args below meth c s₁ B hml hv
  obtain ⟨rfl, hG, hZ⟩ := hv
  have hx := B.exec
  have hb := B.bytes
  have hr := B.returns
  have hts : ∀ w ∈ wsL_law, w.before ([.ref (ad 11 0 0)] : List Value).toArray s = true := fun w h => (atoms_spec B.pre) w (List.mem_cons_of_mem _ h)
  have hown : s.vm.findClass RX11 = some m.cls := findClass_of_methodNamed B.named
  have hlocks := B.notSynchronized
  have S : zS p m c cX11_admitAllThatStand 3 s ([.ref (ad 11 0 0)] : List Value).toArray RX11 := ⟨hx, hb, hml, hown, hts⟩
  have hS : va_S A s.heap s.heap [] := va_S.rf
  have hl := lv_entry ([.ref (ad 11 0 0)]) (n := 3) (Nat.le_of_ble_eq_true rfl)
  rw [lg_entry_eq]
  generalize (lg_sl ([.ref (ad 11 0 0)]) ++ List.replicate (3 - (lg_sl ([.ref (ad 11 0 0)])).length) Slot.unset).toArray = ls at hl ⊢
  have hl : lv_has ls 3 [(0, .ref (ad 11 0 0))] := hl
  generalize hargs : ([.ref (ad 11 0 0)] : List Value).toArray = args at S hts ⊢
  clear hargs
  have hK0 : ∀ (H : Heap) (locs : List Loc) (ls : Array Slot), zG D aC A nl ad σ s H → va_S A s.heap H locs → lv_has ls 3 [(0, .ref (ad 11 0 0))] → f_X11_admitAllThatStand σ = some σ' → zWk p l e ({ frames := 7, cells := 0, slots := 0, locals := 177 } : Room) s m args below meth c A none (fun t => zG D aC A nl ad σ' t t.heap ∧ True) H locs (F0 m 0 ls []) := by
    intro H locs ls hG hS hl hf
    unfold f_X11_admitAllThatStand at hf
    refine lv_iconst (v := 0) hx hb dX11_admitAllThatStand_0 (by decide) ?_
    refine lv_istore_n (lv' := [(1, .int 0), (0, .ref (ad 11 0 0))]) hx hb dX11_admitAllThatStand_1 rfl hl (by decide) rfl (fun ls hl => ?_)
    obtain ⟨t2, hw2, hfo2⟩ := zbi hf
    have KL2 : ∀ (n : Nat) (y1l2 : Int32) (σl2 : zM) (H : Heap) (locs : List Loc) (ls : Array Slot), zG D aC A nl ad σl2 s H → va_S A s.heap H locs → lv_has ls 3 [(0, .ref (ad 11 0 0)), (1, .int y1l2)] → zwh (fun (q : (Int32 × zM)) => f_X11_admitAllThatStand_L2 q.1 q.2) n (y1l2, σl2) = some t2 → zWk p l e ({ frames := 7, cells := 0, slots := 0, locals := 177 } : Room) s m args below meth c A none (fun t => zG D aC A nl ad σ' t t.heap ∧ True) H locs (F0 m 2 ls []) := by
      intro n
      induction n with
      | zero =>
        intro y1l2 σl2 H locs ls hG hS hl hw
        exact (zwh_0 hw).elim
      | succ n ih2 =>
        intro y1l2 σl2 H locs ls hG hS hl hw
        obtain ⟨rr2, hf, hk2⟩ := zwh_u hw
        have hf : f_X11_admitAllThatStand_L2 y1l2 σl2 = some rr2 := hf
        unfold f_X11_admitAllThatStand_L2 at hf
        have KJ56_2 : ∀ (y1b56 : Int32)  (σb56_2 : zM) (H : Heap) (locs : List Loc) (ls : Array Slot), zG D aC A nl ad σb56_2 s H → va_S A s.heap H locs → lv_has ls 3 [(0, .ref (ad 11 0 0)), (1, .int y1b56)] → (f_X11_admitAllThatStand_B56_2 σb56_2 y1b56) = some rr2 → zWk p l e ({ frames := 7, cells := 0, slots := 0, locals := 177 } : Room) s m args below meth c A none (fun t => zG D aC A nl ad σ' t t.heap ∧ True) H locs (F0 m 56 ls []) := by
          intro y1b56  σb56_2 H locs ls hG hS hl hf
          unfold f_X11_admitAllThatStand_B56_2 at hf
          refine lv_iinc (v := (y1b56 + 1)) (lv' := [(1, .int (y1b56 + 1)), (0, .ref (ad 11 0 0))]) hx hb dX11_admitAllThatStand_56 hl (k := 1) rfl rfl (by decide) rfl (fun ls hl => ?_)
          refine lv_goto (tgt := 2) hx hb dX11_admitAllThatStand_59 (by decide) ?_
          cases hf
          exact ih2 (y1b56 + 1) σb56_2 H locs ls hG hS (lv_sub hl [1, 0] rfl) hk2
        refine lv_iload_n hx hb dX11_admitAllThatStand_2 rfl (lv_at hl 1 rfl) ?_
        refine lv_aload_n hx hb dX11_admitAllThatStand_3 rfl (lv_at hl 0 rfl) ?_
        refine z_get (c0 := 11) (i0 := 0) (k0 := 12) (T := TX11) (v := .int (zI σl2 11 0 12)) S hG (hZ.2.1 (11, 0) (by decide)) rfl inlX11 (by decide) rfl zw_50 rfl dX11_admitAllThatStand_4 ?_
        refine lv_icmp_ge (tgt := 62) hx hb dX11_admitAllThatStand_7 (by decide) (fun c15 => ?_) (fun c15 => ?_)
        · have hf := zif_p c15 hf
          cases hf
          have hk2 : (σl2 : zM) = t2 := hk2
          have hf := hfo2
          rw [← hk2] at hf
          have hf : (some σl2) = some σ' := hf
          have hq := (Option.some.inj hf)
          subst hq
          exact z_vret S hG hS hlocks trivial hr dX11_admitAllThatStand_62
        · have hf := zif_n c15 hf
          refine lv_aload_n hx hb dX11_admitAllThatStand_10 rfl (lv_at hl 0 rfl) ?_
          refine lv_iload_n hx hb dX11_admitAllThatStand_11 rfl (lv_at hl 1 rfl) ?_
          obtain ⟨r16, er16, hf⟩ := zbi hf
          refine z_callV (n := 1) (rest := []) (st1 := [va_rf (Option.map (fun j => ad 7 j 0) r16)]) (c0 := 11) (i0 := 0) (hZ.2.1 (11, 0) (by decide)) (by rfl) S hG hS hZ (fun _ _ h => h) (c_X11_schemeAt l D aC zs A nl ad σl2 y1l2 r16 er16) zw_806 zw_807 zw_808 zw_2 zw_809 (by decide +kernel) ⟨rfl, rfl⟩ ⟨(Nat.le_of_ble_eq_true rfl), (Nat.le_of_ble_eq_true rfl)⟩ hl.1 rfl (by rfl) (by rfl) (Nat.le_of_ble_eq_true rfl) dX11_admitAllThatStand_12 ⟨Nat.zero_le _, Nat.zero_le _⟩ (fun H locs hz17 hG hS => ?_)
          rcases hE19 : r16 with _ | j18
          · have hf := znu_n0 hE19 hf
            refine W.eq (g2 := F0 m 15 ls [.null]) (by first | rfl | (rw [hE19]; rfl)) ?_
            refine lv_astore_nN (lv' := [(2, .null), (0, .ref (ad 11 0 0)), (1, .int y1l2)]) hx hb dX11_admitAllThatStand_15 rfl hl (by decide) rfl (fun ls hl => ?_)
            refine lv_aload_nN hx hb dX11_admitAllThatStand_16 rfl (lv_at hl 0 rfl) ?_
            refine lv_ifnullN (tgt := 56) hx hb dX11_admitAllThatStand_17 (by decide) ?_
            exact KJ56_2 y1l2 σl2 H locs ls hG hS (lv_sub hl [1, 2] rfl) hf
          · have hf := znu_s0 hE19 hf
            refine W.eq (g2 := F0 m 15 ls [.ref (ad 7 j18 0)]) (by first | rfl | (rw [hE19]; rfl)) ?_
            refine lv_astore_n (lv' := [(2, .ref (ad 7 j18 0)), (0, .ref (ad 11 0 0)), (1, .int y1l2)]) hx hb dX11_admitAllThatStand_15 rfl hl (by decide) rfl (fun ls hl => ?_)
            refine lv_aload_n hx hb dX11_admitAllThatStand_16 rfl (lv_at hl 0 rfl) ?_
            refine lv_ifnull hx hb dX11_admitAllThatStand_17 ?_
            refine lv_aload_n hx hb dX11_admitAllThatStand_20 rfl (lv_at hl 0 rfl) ?_
            refine z_callV (n := 0) (rest := []) (st1 := [.int (f_X7_isHandedIn σl2 j18)]) (c0 := 7) (i0 := j18) (hz17 j18 hE19) (by rfl) S hG hS hZ (fun _ _ h => h) (c_X7_isHandedIn l D aC zs A nl ad σl2 j18 (f_X7_isHandedIn σl2 j18) (hz17 j18 hE19) rfl) zw_810 zw_811 zw_812 zw_783 zw_813 (by decide +kernel) ⟨rfl, rfl⟩ ⟨(Nat.le_of_ble_eq_true rfl), (Nat.le_of_ble_eq_true rfl)⟩ hl.1 rfl (by rfl) (by rfl) (Nat.le_of_ble_eq_true rfl) dX11_admitAllThatStand_21 ⟨Nat.zero_le _, Nat.zero_le _⟩ (fun H locs hz20 hG hS => ?_)
            refine lv_if_eq (tgt := 56) hx hb dX11_admitAllThatStand_24 (by decide) (fun c21 => ?_) (fun c21 => ?_)
            · have hf := zif_p c21 hf
              exact KJ56_2 y1l2 σl2 H locs ls hG hS (lv_sub hl [1, 2] rfl) hf
            · have hf := zif_n c21 hf
              refine lv_aload_n hx hb dX11_admitAllThatStand_27 rfl (lv_at hl 1 rfl) ?_
              refine z_get (c0 := 11) (i0 := 0) (k0 := 4) (T := TX11) (v := .ref (ad 8 0 0)) S hG (hZ.2.1 (11, 0) (by decide)) rfl inlX11 (by decide) rfl zw_32 rfl dX11_admitAllThatStand_28 ?_
              refine lv_aload_n hx hb dX11_admitAllThatStand_31 rfl (lv_at hl 0 rfl) ?_
              refine lv_aload_n hx hb dX11_admitAllThatStand_32 rfl (lv_at hl 1 rfl) ?_
              refine lv_aload_n hx hb dX11_admitAllThatStand_33 rfl (lv_at hl 0 rfl) ?_
              obtain ⟨r22, er22, hf⟩ := zbi hf
              refine z_callV (n := 1) (rest := [.ref (ad 7 j18 0), .ref (ad 8 0 0)]) (st1 := [.ref (ad 0 r22 0), .ref (ad 7 j18 0), .ref (ad 8 0 0)]) (c0 := 11) (i0 := 0) (hZ.2.1 (11, 0) (by decide)) (by rfl) S hG hS hZ (fun _ _ h => h) (c_X11_briefOf l D aC zs A nl ad σl2 j18 r22 (hz17 j18 hE19) er22) zw_974 zw_975 zw_976 zw_2 zw_977 (by decide +kernel) ⟨rfl, rfl⟩ ⟨(Nat.le_of_ble_eq_true rfl), (Nat.le_of_ble_eq_true rfl)⟩ hl.1 rfl (by rfl) (by rfl) (Nat.le_of_ble_eq_true rfl) dX11_admitAllThatStand_34 ⟨Nat.zero_le _, Nat.zero_le _⟩ (fun H locs hz23 hG hS => ?_)
              refine lv_aload_n hx hb dX11_admitAllThatStand_37 rfl (lv_at hl 1 rfl) ?_
              refine z_get (c0 := 11) (i0 := 0) (k0 := 10) (T := TX11) (v := .int (zI σl2 11 0 10)) S hG (hZ.2.1 (11, 0) (by decide)) rfl inlX11 (by decide) rfl zw_48 rfl dX11_admitAllThatStand_38 ?_
              obtain ⟨q24, eq24, hf⟩ := zbi hf
              refine z_callV (n := 3) (rest := []) (st1 := [.int q24.1]) (c0 := 8) (i0 := 0) (hZ.2.1 (8, 0) (by decide)) (by rfl) S hG hS hZ (fun _ _ h => h) (c_X8_firstBroken l D aC zs A nl ad σl2 j18 r22 (zI σl2 11 0 10) q24.1 q24.2 (hz17 j18 hE19) hz23 eq24) zw_978 zw_979 zw_980 zw_31 zw_981 (by decide +kernel) ⟨rfl, rfl⟩ ⟨(Nat.le_of_ble_eq_true rfl), (Nat.le_of_ble_eq_true rfl)⟩ hl.1 rfl (by rfl) (by rfl) (Nat.le_of_ble_eq_true rfl) dX11_admitAllThatStand_41 ⟨Nat.zero_le _, Nat.zero_le _⟩ (fun H locs hz25 hG hS => ?_)
              refine lv_iconst (v := (-1)) hx hb dX11_admitAllThatStand_44 (by decide) ?_
              refine lv_icmp_ne (tgt := 56) hx hb dX11_admitAllThatStand_45 (by decide) (fun c26 => ?_) (fun c26 => ?_)
              · have hf := zif_n c26 hf
                exact KJ56_2 y1l2 q24.2 H locs ls hG hS (lv_sub hl [1, 2] rfl) hf
              · have hf := zif_p c26 hf
                refine lv_aload_n hx hb dX11_admitAllThatStand_48 rfl (lv_at hl 1 rfl) ?_
                refine z_get (c0 := 11) (i0 := 0) (k0 := 8) (T := TX11) (v := .ref (ad 6 0 0)) S hG (hZ.2.1 (11, 0) (by decide)) rfl inlX11 (by decide) rfl zw_46 rfl dX11_admitAllThatStand_49 ?_
                refine lv_iload_n hx hb dX11_admitAllThatStand_52 rfl (lv_at hl 2 rfl) ?_
                obtain ⟨σ27, eσ27, hf⟩ := zbi hf
                refine z_callV (n := 1) (rest := []) (st1 := []) (c0 := 6) (i0 := 0) (hZ.2.1 (6, 0) (by decide)) (by rfl) S hG hS hZ (fun _ _ h => h) (c_X6_admit l D aC zs A nl ad q24.2 0 y1l2 σ27 (hZ.2.1 (6, 0) (by decide)) eσ27) zw_1287 zw_1288 zw_1289 zw_45 zw_1290 (by decide +kernel) ⟨rfl, rfl⟩ ⟨(Nat.le_of_ble_eq_true rfl), (Nat.le_of_ble_eq_true rfl)⟩ hl.1 rfl (by rfl) (by rfl) (Nat.le_of_ble_eq_true rfl) dX11_admitAllThatStand_53 ⟨Nat.zero_le _, Nat.zero_le _⟩ (fun H locs hz28 hG hS => ?_)
                exact KJ56_2 y1l2 σ27 H locs ls hG hS (lv_sub hl [1, 2] rfl) hf
    exact KL2 zFu 0 σ H locs ls hG hS (lv_sub hl [1, 0] rfl) hw2
  exact hK0 _ _ ls hG hS hl hf
set_option maxRecDepth 100000 in
set_option maxHeartbeats 4000000 in
theorem c_X11_open (l : Launch) (D : va_G) (aC : Nat → ClassId) (zs : Nat × Nat) (A : Nat → Prop) (nl : zNL) (ad : Nat → Nat → Nat → Nat) (σ : zM)  (r : Int32) (σ' : zM)  (hf : f_X11_open σ = some (r, σ')) : Met l yX11_open (Cond.code yX11_open cX11_open 2 (some .int) :: wsL_law) ({ frames := 8, cells := 0, slots := 0, locals := 199 } : Room) (zP D aC zs zfX A nl ad σ [.ref (ad 11 0 0)]) (zQ (some (.int r)) (fun t => zG D aC A nl ad σ' t t.heap ∧ True) A) 0 0 A := by
  refine Met.ofW (cc := cX11_open) (maxL := 2) (ret := (some .int)) (by decide) rfl ?_
  intro p e s m args below meth c s₁ B hml hv
  obtain ⟨rfl, hG, hZ⟩ := hv
  have hx := B.exec
  have hb := B.bytes
  have hr := B.returns
  have hts : ∀ w ∈ wsL_law, w.before ([.ref (ad 11 0 0)] : List Value).toArray s = true := fun w h => (atoms_spec B.pre) w (List.mem_cons_of_mem _ h)
  have hown : s.vm.findClass RX11 = some m.cls := findClass_of_methodNamed B.named
  have hlocks := B.notSynchronized
  have S : zS p m c cX11_open 2 s ([.ref (ad 11 0 0)] : List Value).toArray RX11 := ⟨hx, hb, hml, hown, hts⟩
  have hS : va_S A s.heap s.heap [] := va_S.rf
  have hl := lv_entry ([.ref (ad 11 0 0)]) (n := 2) (Nat.le_of_ble_eq_true rfl)
  rw [lg_entry_eq]
  generalize (lg_sl ([.ref (ad 11 0 0)]) ++ List.replicate (2 - (lg_sl ([.ref (ad 11 0 0)])).length) Slot.unset).toArray = ls at hl ⊢
  have hl : lv_has ls 2 [(0, .ref (ad 11 0 0))] := hl
  generalize hargs : ([.ref (ad 11 0 0)] : List Value).toArray = args at S hts ⊢
  clear hargs
  have KJ46 : ∀ (t0b46 : Nat) (h_t0b46 : zin nl 6 t0b46) (σb46 : zM) (H : Heap) (locs : List Loc) (ls : Array Slot), zG D aC A nl ad σb46 s H → va_S A s.heap H locs → lv_has ls 2 [(0, .ref (ad 11 0 0))] → (f_X11_open_B46 σb46 t0b46) = some (r, σ') → zWk p l e ({ frames := 8, cells := 0, slots := 0, locals := 199 } : Room) s m args below meth c A (some (.int r)) (fun t => zG D aC A nl ad σ' t t.heap ∧ True) H locs (F0 m 46 ls [.ref (ad 6 t0b46 0)]) := by
    intro t0b46 h_t0b46 σb46 H locs ls hG hS hl hf
    unfold f_X11_open_B46 at hf
    refine lv_astore_n (lv' := [(1, .ref (ad 6 t0b46 0)), (0, .ref (ad 11 0 0))]) hx hb dX11_open_46 rfl hl (by decide) rfl (fun ls hl => ?_)
    refine lv_aload_n hx hb dX11_open_47 rfl (lv_at hl 0 rfl) ?_
    refine z_get (c0 := 6) (i0 := t0b46) (k0 := 6) (T := TX6) (v := .int (zI σb46 6 t0b46 6)) S hG h_t0b46 rfl inlX6 (by decide) rfl zw_1282 rfl dX11_open_48 ?_
    refine lv_if_ne (tgt := 56) hx hb dX11_open_51 (by decide) (fun c5 => ?_) (fun c5 => ?_)
    · have hf := zif_n c5 hf
      refine lv_aload_n hx hb dX11_open_56 rfl (lv_at hl 1 rfl) ?_
      refine lv_aload_n hx hb dX11_open_57 rfl (lv_at hl 1 rfl) ?_
      refine z_get (c0 := 11) (i0 := 0) (k0 := 15) (T := TX11) (v := .int (zI σb46 11 0 15)) S hG (hZ.2.1 (11, 0) (by decide)) rfl inlX11 (by decide) rfl zw_53 rfl dX11_open_58 ?_
      refine lv_iconst (v := 1) hx hb dX11_open_61 (by decide) ?_
      refine lv_iadd hx hb dX11_open_62 ?_
      refine z_putI (c0 := 11) (i0 := 0) (k0 := 14) (T := TX11) S hG hS tyX11 tyX11_ok nmX11 (hZ.2.1 (11, 0) (by decide)) rfl inlX11 (by decide) rfl rfl zw_52 (by decide +kernel) rfl dX11_open_63 (fun H locs hG hS => ?_)
      obtain ⟨σ6, eσ6, hf⟩ := zlt_s hf
      rw [← eσ6] at hG
      refine lv_aload_n hx hb dX11_open_66 rfl (lv_at hl 0 rfl) ?_
      refine z_get (c0 := 6) (i0 := t0b46) (k0 := 6) (T := TX6) (v := .int (zI σ6 6 t0b46 6)) S hG h_t0b46 rfl inlX6 (by decide) rfl zw_1282 rfl dX11_open_67 ?_
      obtain ⟨hq1, hq2⟩ := Prod.mk.inj (Option.some.inj hf)
      subst hq1
      subst hq2
      exact z_iret S hG hS hlocks trivial hr dX11_open_70
    · have hf := zif_p c5 hf
      refine lv_iconst (v := (-1)) hx hb dX11_open_54 (by decide) ?_
      obtain ⟨hq1, hq2⟩ := Prod.mk.inj (Option.some.inj hf)
      subst hq1
      subst hq2
      exact z_iret S hG hS hlocks trivial hr dX11_open_55
  have KJ28 : ∀ (σb28 : zM) (H : Heap) (locs : List Loc) (ls : Array Slot), zG D aC A nl ad σb28 s H → va_S A s.heap H locs → lv_has ls 2 [(0, .ref (ad 11 0 0))] → (f_X11_open_B28 σb28) = some (r, σ') → zWk p l e ({ frames := 8, cells := 0, slots := 0, locals := 199 } : Room) s m args below meth c A (some (.int r)) (fun t => zG D aC A nl ad σ' t t.heap ∧ True) H locs (F0 m 28 ls []) := by
    intro   σb28 H locs ls hG hS hl hf
    unfold f_X11_open_B28 at hf
    refine lv_aload_n hx hb dX11_open_28 rfl (lv_at hl 0 rfl) ?_
    refine z_get (c0 := 11) (i0 := 0) (k0 := 15) (T := TX11) (v := .int (zI σb28 11 0 15)) S hG (hZ.2.1 (11, 0) (by decide)) rfl inlX11 (by decide) rfl zw_53 rfl dX11_open_29 ?_
    refine lv_if_ne (tgt := 42) hx hb dX11_open_32 (by decide) (fun c4 => ?_) (fun c4 => ?_)
    · have hf := zif_n c4 hf
      refine lv_aload_n hx hb dX11_open_42 rfl (lv_at hl 0 rfl) ?_
      refine z_get (c0 := 11) (i0 := 0) (k0 := 9) (T := TX11) (v := .ref (ad 6 1 0)) S hG (hZ.2.1 (11, 0) (by decide)) rfl inlX11 (by decide) rfl zw_47 rfl dX11_open_43 ?_
      exact KJ46 1 (hZ.2.1 (6, 1) (by decide)) σb28 H locs ls hG hS (lv_sub hl [0] rfl) hf
    · have hf := zif_p c4 hf
      refine lv_aload_n hx hb dX11_open_35 rfl (lv_at hl 0 rfl) ?_
      refine z_get (c0 := 11) (i0 := 0) (k0 := 8) (T := TX11) (v := .ref (ad 6 0 0)) S hG (hZ.2.1 (11, 0) (by decide)) rfl inlX11 (by decide) rfl zw_46 rfl dX11_open_36 ?_
      refine lv_goto (tgt := 46) hx hb dX11_open_39 (by decide) ?_
      exact KJ46 0 (hZ.2.1 (6, 0) (by decide)) σb28 H locs ls hG hS (lv_sub hl [0] rfl) hf
  have hK0 : ∀ (H : Heap) (locs : List Loc) (ls : Array Slot), zG D aC A nl ad σ s H → va_S A s.heap H locs → lv_has ls 2 [(0, .ref (ad 11 0 0))] → f_X11_open σ = some (r, σ') → zWk p l e ({ frames := 8, cells := 0, slots := 0, locals := 199 } : Room) s m args below meth c A (some (.int r)) (fun t => zG D aC A nl ad σ' t t.heap ∧ True) H locs (F0 m 0 ls []) := by
    intro H locs ls hG hS hl hf
    unfold f_X11_open at hf
    refine lv_aload_n hx hb dX11_open_0 rfl (lv_at hl 0 rfl) ?_
    refine z_get (c0 := 11) (i0 := 0) (k0 := 14) (T := TX11) (v := .int (zI σ 11 0 14)) S hG (hZ.2.1 (11, 0) (by decide)) rfl inlX11 (by decide) rfl zw_52 rfl dX11_open_1 ?_
    refine lv_if_ne (tgt := 15) hx hb dX11_open_4 (by decide) (fun c1 => ?_) (fun c1 => ?_)
    · have hf := zif_n c1 hf
      refine lv_iconst (v := (-1)) hx hb dX11_open_15 (by decide) ?_
      obtain ⟨hq1, hq2⟩ := Prod.mk.inj (Option.some.inj hf)
      subst hq1
      subst hq2
      exact z_iret S hG hS hlocks trivial hr dX11_open_16
    · have hf := zif_p c1 hf
      refine lv_aload_n hx hb dX11_open_7 rfl (lv_at hl 0 rfl) ?_
      refine z_get (c0 := 11) (i0 := 0) (k0 := 15) (T := TX11) (v := .int (zI σ 11 0 15)) S hG (hZ.2.1 (11, 0) (by decide)) rfl inlX11 (by decide) rfl zw_53 rfl dX11_open_8 ?_
      refine lv_iconst (v := 2) hx hb dX11_open_11 (by decide) ?_
      refine lv_icmp_lt (tgt := 17) hx hb dX11_open_12 (by decide) (fun c2 => ?_) (fun c2 => ?_)
      · have hf := zif_p c2 hf
        refine lv_aload_n hx hb dX11_open_17 rfl (lv_at hl 0 rfl) ?_
        refine z_get (c0 := 11) (i0 := 0) (k0 := 15) (T := TX11) (v := .int (zI σ 11 0 15)) S hG (hZ.2.1 (11, 0) (by decide)) rfl inlX11 (by decide) rfl zw_53 rfl dX11_open_18 ?_
        refine lv_if_ne (tgt := 28) hx hb dX11_open_21 (by decide) (fun c3 => ?_) (fun c3 => ?_)
        · have hf := zif_n c3 hf
          exact KJ28 σ H locs ls hG hS (lv_sub hl [0] rfl) hf
        · have hf := zif_p c3 hf
          refine lv_aload_n hx hb dX11_open_24 rfl (lv_at hl 0 rfl) ?_
          obtain ⟨σ7, eσ7, hf⟩ := zbi hf
          refine z_callV (n := 0) (rest := []) (st1 := []) (c0 := 11) (i0 := 0) (hZ.2.1 (11, 0) (by decide)) (by rfl) S hG hS hZ (fun _ _ h => h) (c_X11_admitAllThatStand l D aC zs A nl ad σ σ7 eσ7) zw_1283 zw_1284 zw_1285 zw_2 zw_1286 (by decide +kernel) ⟨rfl, rfl⟩ ⟨(Nat.le_of_ble_eq_true rfl), (Nat.le_of_ble_eq_true rfl)⟩ hl.1 rfl (by rfl) (by rfl) (Nat.le_of_ble_eq_true rfl) dX11_open_25 ⟨Nat.zero_le _, Nat.zero_le _⟩ (fun H locs hz8 hG hS => ?_)
          exact KJ28 σ7 H locs ls hG hS (lv_sub hl [0] rfl) hf
      · have hf := zif_n c2 hf
        refine lv_iconst (v := (-1)) hx hb dX11_open_15 (by decide) ?_
        obtain ⟨hq1, hq2⟩ := Prod.mk.inj (Option.some.inj hf)
        subst hq1
        subst hq2
        exact z_iret S hG hS hlocks trivial hr dX11_open_16
  exact hK0 _ _ ls hG hS hl hf
set_option maxRecDepth 100000 in
set_option maxHeartbeats 4000000 in
theorem c_X11_close (l : Launch) (D : va_G) (aC : Nat → ClassId) (zs : Nat × Nat) (A : Nat → Prop) (nl : zNL) (ad : Nat → Nat → Nat → Nat) (σ : zM)  (r : Int32) (σ' : zM)  (hf : f_X11_close σ = some (r, σ')) : Met l yX11_close (Cond.code yX11_close cX11_close 4 (some .int) :: wsL_law) ({ frames := 6, cells := 0, slots := 0, locals := 144 } : Room) (zP D aC zs zfX A nl ad σ [.ref (ad 11 0 0)]) (zQ (some (.int r)) (fun t => zG D aC A nl ad σ' t t.heap ∧ True) A) 0 0 A := by
  refine Met.ofW (cc := cX11_close) (maxL := 4) (ret := (some .int)) (by decide) rfl ?_
  intro p e s m args below meth c s₁ B hml hv
  obtain ⟨rfl, hG, hZ⟩ := hv
  have hx := B.exec
  have hb := B.bytes
  have hr := B.returns
  have hts : ∀ w ∈ wsL_law, w.before ([.ref (ad 11 0 0)] : List Value).toArray s = true := fun w h => (atoms_spec B.pre) w (List.mem_cons_of_mem _ h)
  have hown : s.vm.findClass RX11 = some m.cls := findClass_of_methodNamed B.named
  have hlocks := B.notSynchronized
  have S : zS p m c cX11_close 4 s ([.ref (ad 11 0 0)] : List Value).toArray RX11 := ⟨hx, hb, hml, hown, hts⟩
  have hS : va_S A s.heap s.heap [] := va_S.rf
  have hl := lv_entry ([.ref (ad 11 0 0)]) (n := 4) (Nat.le_of_ble_eq_true rfl)
  rw [lg_entry_eq]
  generalize (lg_sl ([.ref (ad 11 0 0)]) ++ List.replicate (4 - (lg_sl ([.ref (ad 11 0 0)])).length) Slot.unset).toArray = ls at hl ⊢
  have hl : lv_has ls 4 [(0, .ref (ad 11 0 0))] := hl
  generalize hargs : ([.ref (ad 11 0 0)] : List Value).toArray = args at S hts ⊢
  clear hargs
  have KJ100 : ∀ (y3b100 : Int32)  (σb100 : zM) (H : Heap) (locs : List Loc) (ls : Array Slot), zG D aC A nl ad σb100 s H → va_S A s.heap H locs → lv_has ls 4 [(0, .ref (ad 11 0 0)), (3, .int y3b100)] → (f_X11_close_B100 σb100 y3b100) = some (r, σ') → zWk p l e ({ frames := 6, cells := 0, slots := 0, locals := 144 } : Room) s m args below meth c A (some (.int r)) (fun t => zG D aC A nl ad σ' t t.heap ∧ True) H locs (F0 m 100 ls []) := by
    intro y3b100  σb100 H locs ls hG hS hl hf
    unfold f_X11_close_B100 at hf
    refine lv_aload_n hx hb dX11_close_100 rfl (lv_at hl 0 rfl) ?_
    refine lv_aload_n hx hb dX11_close_101 rfl (lv_at hl 0 rfl) ?_
    refine z_get (c0 := 11) (i0 := 0) (k0 := 14) (T := TX11) (v := .int (zI σb100 11 0 14)) S hG (hZ.2.1 (11, 0) (by decide)) rfl inlX11 (by decide) rfl zw_52 rfl dX11_close_102 ?_
    refine z_putI (c0 := 11) (i0 := 0) (k0 := 15) (T := TX11) S hG hS tyX11 tyX11_ok nmX11 (hZ.2.1 (11, 0) (by decide)) rfl inlX11 (by decide) rfl rfl zw_53 (by decide +kernel) rfl dX11_close_105 (fun H locs hG hS => ?_)
    obtain ⟨σ14, eσ14, hf⟩ := zlt_s hf
    rw [← eσ14] at hG
    refine lv_aload_n hx hb dX11_close_108 rfl (lv_at hl 0 rfl) ?_
    refine lv_iconst (v := 0) hx hb dX11_close_109 (by decide) ?_
    refine z_putI (c0 := 11) (i0 := 0) (k0 := 14) (T := TX11) S hG hS tyX11 tyX11_ok nmX11 (hZ.2.1 (11, 0) (by decide)) rfl inlX11 (by decide) rfl rfl zw_52 (by decide +kernel) rfl dX11_close_110 (fun H locs hG hS => ?_)
    obtain ⟨σ15, eσ15, hf⟩ := zlt_s hf
    rw [← eσ15] at hG
    refine lv_iload_n hx hb dX11_close_113 rfl (lv_at hl 1 rfl) ?_
    obtain ⟨hq1, hq2⟩ := Prod.mk.inj (Option.some.inj hf)
    subst hq1
    subst hq2
    exact z_iret S hG hS hlocks trivial hr dX11_close_114
  have KJ28 : ∀ (t0b28 : Nat) (h_t0b28 : zin nl 6 t0b28) (σb28 : zM) (H : Heap) (locs : List Loc) (ls : Array Slot), zG D aC A nl ad σb28 s H → va_S A s.heap H locs → lv_has ls 4 [(0, .ref (ad 11 0 0))] → (f_X11_close_B28 σb28 t0b28) = some (r, σ') → zWk p l e ({ frames := 6, cells := 0, slots := 0, locals := 144 } : Room) s m args below meth c A (some (.int r)) (fun t => zG D aC A nl ad σ' t t.heap ∧ True) H locs (F0 m 28 ls [.ref (ad 6 t0b28 0)]) := by
    intro t0b28 h_t0b28 σb28 H locs ls hG hS hl hf
    unfold f_X11_close_B28 at hf
    refine lv_astore_n (lv' := [(1, .ref (ad 6 t0b28 0)), (0, .ref (ad 11 0 0))]) hx hb dX11_close_28 rfl hl (by decide) rfl (fun ls hl => ?_)
    refine lv_aload_n hx hb dX11_close_29 rfl (lv_at hl 1 rfl) ?_
    refine z_get (c0 := 11) (i0 := 0) (k0 := 2) (T := TX11) (v := .ref (ad 1 0 0)) S hG (hZ.2.1 (11, 0) (by decide)) rfl inlX11 (by decide) rfl zw_24 rfl dX11_close_30 ?_
    refine lv_aload_n hx hb dX11_close_33 rfl (lv_at hl 1 rfl) ?_
    refine z_get (c0 := 11) (i0 := 0) (k0 := 10) (T := TX11) (v := .int (zI σb28 11 0 10)) S hG (hZ.2.1 (11, 0) (by decide)) rfl inlX11 (by decide) rfl zw_48 rfl dX11_close_34 ?_
    obtain ⟨r3, er3, hf⟩ := zbi hf
    refine z_callV (n := 1) (rest := []) (st1 := [.ref (ad 0 r3 0)]) (c0 := 1) (i0 := 0) (hZ.2.1 (1, 0) (by decide)) (by rfl) S hG hS hZ (fun _ _ h => h) (c_X1_on l D aC zs A nl ad σb28 (zI σb28 11 0 10) r3 er3) zw_697 zw_698 zw_699 zw_23 zw_700 (by decide +kernel) ⟨rfl, rfl⟩ ⟨(Nat.le_of_ble_eq_true rfl), (Nat.le_of_ble_eq_true rfl)⟩ hl.1 rfl (by rfl) (by rfl) (Nat.le_of_ble_eq_true rfl) dX11_close_37 ⟨Nat.zero_le _, Nat.zero_le _⟩ (fun H locs hz4 hG hS => ?_)
    refine lv_astore_n (lv' := [(2, .ref (ad 0 r3 0)), (1, .ref (ad 6 t0b28 0)), (0, .ref (ad 11 0 0))]) hx hb dX11_close_40 rfl hl (by decide) rfl (fun ls hl => ?_)
    refine lv_aload_n hx hb dX11_close_41 rfl (lv_at hl 1 rfl) ?_
    refine lv_aload_n hx hb dX11_close_42 rfl (lv_at hl 2 rfl) ?_
    refine z_get (c0 := 11) (i0 := 0) (k0 := 6) (T := TX11) (v := .ref (ad 2 0 0)) S hG (hZ.2.1 (11, 0) (by decide)) rfl inlX11 (by decide) rfl zw_40 rfl dX11_close_43 ?_
    refine lv_aload_n hx hb dX11_close_46 rfl (lv_at hl 2 rfl) ?_
    refine z_get (c0 := 11) (i0 := 0) (k0 := 7) (T := TX11) (v := .ref (ad 11 0 8)) S hG (hZ.2.1 (11, 0) (by decide)) rfl inlX11 (by decide) rfl zw_42 rfl dX11_close_47 ?_
    refine lv_aload_n hx hb dX11_close_50 rfl (lv_at hl 2 rfl) ?_
    refine z_get (c0 := 11) (i0 := 0) (k0 := 10) (T := TX11) (v := .int (zI σb28 11 0 10)) S hG (hZ.2.1 (11, 0) (by decide)) rfl inlX11 (by decide) rfl zw_48 rfl dX11_close_51 ?_
    obtain ⟨σ5, eσ5, hf⟩ := zbi hf
    refine z_callV (n := 3) (rest := []) (st1 := []) (c0 := 6) (i0 := t0b28) h_t0b28 (by rfl) S hG hS hZ (fun _ _ h => h) (c_X6_weighVoices l D aC zs A nl ad σb28 t0b28 (zI σb28 11 0 10) σ5 h_t0b28 eσ5) zw_1232 zw_1233 zw_1234 zw_45 zw_1235 (by decide +kernel) ⟨rfl, rfl⟩ ⟨(Nat.le_of_ble_eq_true rfl), (Nat.le_of_ble_eq_true rfl)⟩ hl.1 rfl (by rfl) (by rfl) (Nat.le_of_ble_eq_true rfl) dX11_close_54 ⟨Nat.zero_le _, Nat.zero_le _⟩ (fun H locs hz6 hG hS => ?_)
    refine lv_aload_n hx hb dX11_close_57 rfl (lv_at hl 1 rfl) ?_
    refine lv_aload_n hx hb dX11_close_58 rfl (lv_at hl 0 rfl) ?_
    refine lv_bipush (v := 6) hx hb dX11_close_59 (by decide) ?_
    obtain ⟨r7, er7, hf⟩ := zbi hf
    refine z_callV (n := 1) (rest := [.ref (ad 6 t0b28 0)]) (st1 := [.int r7, .ref (ad 6 t0b28 0)]) (c0 := 0) (i0 := r3) hz4 (by rfl) S hG hS hZ (fun _ _ h => h) (c_X0_term l D aC zs A nl ad σ5 r3 6 r7 hz4 er7) zw_702 zw_703 zw_704 zw_76 zw_705 (by decide +kernel) ⟨rfl, rfl⟩ ⟨(Nat.le_of_ble_eq_true rfl), (Nat.le_of_ble_eq_true rfl)⟩ hl.1 rfl (by rfl) (by rfl) (Nat.le_of_ble_eq_true rfl) dX11_close_61 ⟨Nat.zero_le _, Nat.zero_le _⟩ (fun H locs hz8 hG hS => ?_)
    refine lv_aload_n hx hb dX11_close_64 rfl (lv_at hl 0 rfl) ?_
    refine lv_bipush (v := 7) hx hb dX11_close_65 (by decide) ?_
    obtain ⟨r9, er9, hf⟩ := zbi hf
    refine z_callV (n := 1) (rest := [.int r7, .ref (ad 6 t0b28 0)]) (st1 := [.int r9, .int r7, .ref (ad 6 t0b28 0)]) (c0 := 0) (i0 := r3) hz4 (by rfl) S hG hS hZ (fun _ _ h => h) (c_X0_term l D aC zs A nl ad σ5 r3 7 r9 hz4 er9) zw_702 zw_703 zw_704 zw_76 zw_705 (by decide +kernel) ⟨rfl, rfl⟩ ⟨(Nat.le_of_ble_eq_true rfl), (Nat.le_of_ble_eq_true rfl)⟩ hl.1 rfl (by rfl) (by rfl) (Nat.le_of_ble_eq_true rfl) dX11_close_67 ⟨Nat.zero_le _, Nat.zero_le _⟩ (fun H locs hz10 hG hS => ?_)
    obtain ⟨σ11, eσ11, hf⟩ := zlt_s hf
    refine z_callV (n := 2) (rest := []) (st1 := []) (c0 := 6) (i0 := t0b28) h_t0b28 (by rfl) S hG hS hZ (fun _ _ h => h) (c_X6_finish l D aC zs A nl ad σ5 t0b28 r7 r9 σ11 h_t0b28 eσ11.symm) zw_1303 zw_1304 zw_1305 zw_45 zw_1306 (by decide +kernel) ⟨rfl, rfl⟩ ⟨(Nat.le_of_ble_eq_true rfl), (Nat.le_of_ble_eq_true rfl)⟩ hl.1 rfl (by rfl) (by rfl) (Nat.le_of_ble_eq_true rfl) dX11_close_70 ⟨Nat.zero_le _, Nat.zero_le _⟩ (fun H locs hz12 hG hS => ?_)
    refine lv_aload_n hx hb dX11_close_73 rfl (lv_at hl 1 rfl) ?_
    refine z_get (c0 := 6) (i0 := t0b28) (k0 := 6) (T := TX6) (v := .int (zI σ11 6 t0b28 6)) S hG h_t0b28 rfl inlX6 (by decide) rfl zw_1282 rfl dX11_close_74 ?_
    refine lv_istore_n (lv' := [(3, .int (zI σ11 6 t0b28 6)), (2, .ref (ad 0 r3 0)), (1, .ref (ad 6 t0b28 0)), (0, .ref (ad 11 0 0))]) hx hb dX11_close_77 rfl hl (by decide) rfl (fun ls hl => ?_)
    refine lv_aload_n hx hb dX11_close_78 rfl (lv_at hl 3 rfl) ?_
    refine z_get (c0 := 11) (i0 := 0) (k0 := 14) (T := TX11) (v := .int (zI σ11 11 0 14)) S hG (hZ.2.1 (11, 0) (by decide)) rfl inlX11 (by decide) rfl zw_52 rfl dX11_close_79 ?_
    refine lv_iconst (v := 1) hx hb dX11_close_82 (by decide) ?_
    refine lv_icmp_ne (tgt := 100) hx hb dX11_close_83 (by decide) (fun c13 => ?_) (fun c13 => ?_)
    · have hf := zif_n c13 hf
      exact KJ100 (zI σ11 6 t0b28 6) σ11 H locs ls hG hS (lv_sub hl [3, 0] rfl) hf
    · have hf := zif_p c13 hf
      refine lv_aload_n hx hb dX11_close_86 rfl (lv_at hl 2 rfl) ?_
      refine lv_aload_n hx hb dX11_close_87 rfl (lv_at hl 1 rfl) ?_
      refine lv_iconst (v := 5) hx hb dX11_close_88 (by decide) ?_
      obtain ⟨r16, er16, hf⟩ := zbi hf
      refine z_callV (n := 1) (rest := [.ref (ad 6 t0b28 0)]) (st1 := [.int r16, .ref (ad 6 t0b28 0)]) (c0 := 0) (i0 := r3) hz4 (by rfl) S hG hS hZ (fun _ _ h => h) (c_X0_term l D aC zs A nl ad σ11 r3 5 r16 hz4 er16) zw_702 zw_703 zw_704 zw_76 zw_705 (by decide +kernel) ⟨rfl, rfl⟩ ⟨(Nat.le_of_ble_eq_true rfl), (Nat.le_of_ble_eq_true rfl)⟩ hl.1 rfl (by rfl) (by rfl) (Nat.le_of_ble_eq_true rfl) dX11_close_89 ⟨Nat.zero_le _, Nat.zero_le _⟩ (fun H locs hz17 hG hS => ?_)
      refine lv_aload_n hx hb dX11_close_92 rfl (lv_at hl 3 rfl) ?_
      refine z_get (c0 := 11) (i0 := 0) (k0 := 9) (T := TX11) (v := .ref (ad 6 1 0)) S hG (hZ.2.1 (11, 0) (by decide)) rfl inlX11 (by decide) rfl zw_47 rfl dX11_close_93 ?_
      obtain ⟨q18, eq18, hf⟩ := zbi hf
      refine z_callV (n := 2) (rest := []) (st1 := [.int q18.1]) (c0 := 6) (i0 := t0b28) h_t0b28 (by rfl) S hG hS hZ (fun _ _ h => h) (c_X6_keepBest l D aC zs A nl ad σ11 t0b28 r16 1 q18.1 q18.2 h_t0b28 (hZ.2.1 (6, 1) (by decide)) eq18) zw_1307 zw_1308 zw_1309 zw_45 zw_1310 (by decide +kernel) ⟨rfl, rfl⟩ ⟨(Nat.le_of_ble_eq_true rfl), (Nat.le_of_ble_eq_true rfl)⟩ hl.1 rfl (by rfl) (by rfl) (Nat.le_of_ble_eq_true rfl) dX11_close_96 ⟨Nat.zero_le _, Nat.zero_le _⟩ (fun H locs hz19 hG hS => ?_)
      refine lv_istore_n (lv' := [(3, .int q18.1), (2, .ref (ad 0 r3 0)), (1, .ref (ad 6 t0b28 0)), (0, .ref (ad 11 0 0))]) hx hb dX11_close_99 rfl hl (by decide) rfl (fun ls hl => ?_)
      exact KJ100 q18.1 q18.2 H locs ls hG hS (lv_sub hl [3, 0] rfl) hf
  have hK0 : ∀ (H : Heap) (locs : List Loc) (ls : Array Slot), zG D aC A nl ad σ s H → va_S A s.heap H locs → lv_has ls 4 [(0, .ref (ad 11 0 0))] → f_X11_close σ = some (r, σ') → zWk p l e ({ frames := 6, cells := 0, slots := 0, locals := 144 } : Room) s m args below meth c A (some (.int r)) (fun t => zG D aC A nl ad σ' t t.heap ∧ True) H locs (F0 m 0 ls []) := by
    intro H locs ls hG hS hl hf
    unfold f_X11_close at hf
    refine lv_aload_n hx hb dX11_close_0 rfl (lv_at hl 0 rfl) ?_
    refine z_get (c0 := 11) (i0 := 0) (k0 := 14) (T := TX11) (v := .int (zI σ 11 0 14)) S hG (hZ.2.1 (11, 0) (by decide)) rfl inlX11 (by decide) rfl zw_52 rfl dX11_close_1 ?_
    refine lv_if_ne (tgt := 9) hx hb dX11_close_4 (by decide) (fun c1 => ?_) (fun c1 => ?_)
    · have hf := zif_n c1 hf
      refine lv_aload_n hx hb dX11_close_9 rfl (lv_at hl 0 rfl) ?_
      refine z_get (c0 := 11) (i0 := 0) (k0 := 14) (T := TX11) (v := .int (zI σ 11 0 14)) S hG (hZ.2.1 (11, 0) (by decide)) rfl inlX11 (by decide) rfl zw_52 rfl dX11_close_10 ?_
      refine lv_iconst (v := 1) hx hb dX11_close_13 (by decide) ?_
      refine lv_icmp_ne (tgt := 24) hx hb dX11_close_14 (by decide) (fun c2 => ?_) (fun c2 => ?_)
      · have hf := zif_n c2 hf
        refine lv_aload_n hx hb dX11_close_24 rfl (lv_at hl 0 rfl) ?_
        refine z_get (c0 := 11) (i0 := 0) (k0 := 9) (T := TX11) (v := .ref (ad 6 1 0)) S hG (hZ.2.1 (11, 0) (by decide)) rfl inlX11 (by decide) rfl zw_47 rfl dX11_close_25 ?_
        exact KJ28 1 (hZ.2.1 (6, 1) (by decide)) σ H locs ls hG hS (lv_sub hl [0] rfl) hf
      · have hf := zif_p c2 hf
        refine lv_aload_n hx hb dX11_close_17 rfl (lv_at hl 0 rfl) ?_
        refine z_get (c0 := 11) (i0 := 0) (k0 := 8) (T := TX11) (v := .ref (ad 6 0 0)) S hG (hZ.2.1 (11, 0) (by decide)) rfl inlX11 (by decide) rfl zw_46 rfl dX11_close_18 ?_
        refine lv_goto (tgt := 28) hx hb dX11_close_21 (by decide) ?_
        exact KJ28 0 (hZ.2.1 (6, 0) (by decide)) σ H locs ls hG hS (lv_sub hl [0] rfl) hf
    · have hf := zif_p c1 hf
      refine lv_iconst (v := (-1)) hx hb dX11_close_7 (by decide) ?_
      obtain ⟨hq1, hq2⟩ := Prod.mk.inj (Option.some.inj hf)
      subst hq1
      subst hq2
      exact z_iret S hG hS hlocks trivial hr dX11_close_8
  exact hK0 _ _ ls hG hS hl hf
set_option maxRecDepth 100000 in
set_option maxHeartbeats 4000000 in
theorem c_X11_isRule (l : Launch) (D : va_G) (aC : Nat → ClassId) (zs : Nat × Nat) (A : Nat → Prop) (nl : zNL) (ad : Nat → Nat → Nat → Nat) (σ : zM) (x0 : Int32) (r : Int32)  (hf : f_X11_isRule x0 = r) : Met l yX11_isRule (Cond.code yX11_isRule cX11_isRule 1 (some .boolean) :: wsL_law) ({ frames := 0, cells := 0, slots := 0, locals := 0 } : Room) (zP D aC zs zfX A nl ad σ [.int x0]) (zQ (some (.int r)) (fun t => zG D aC A nl ad σ t t.heap ∧ (r = 0 ∨ r = 1)) A) 0 0 A := by
  refine Met.ofW (cc := cX11_isRule) (maxL := 1) (ret := (some .boolean)) (by decide) rfl ?_
  intro p e s m args below meth c s₁ B hml hv
  obtain ⟨rfl, hG, hZ⟩ := hv
  have hx := B.exec
  have hb := B.bytes
  have hr := B.returns
  have hts : ∀ w ∈ wsL_law, w.before ([.int x0] : List Value).toArray s = true := fun w h => (atoms_spec B.pre) w (List.mem_cons_of_mem _ h)
  have hown : s.vm.findClass RX11 = some m.cls := findClass_of_methodNamed B.named
  have hlocks := B.notSynchronized
  have S : zS p m c cX11_isRule 1 s ([.int x0] : List Value).toArray RX11 := ⟨hx, hb, hml, hown, hts⟩
  have hS : va_S A s.heap s.heap [] := va_S.rf
  have hl := lv_entry ([.int x0]) (n := 1) (Nat.le_of_ble_eq_true rfl)
  rw [lg_entry_eq]
  generalize (lg_sl ([.int x0]) ++ List.replicate (1 - (lg_sl ([.int x0])).length) Slot.unset).toArray = ls at hl ⊢
  have hl : lv_has ls 1 [(0, .int x0)] := hl
  generalize hargs : ([.int x0] : List Value).toArray = args at S hts ⊢
  clear hargs
  have hK0 : ∀ (H : Heap) (locs : List Loc) (ls : Array Slot), zG D aC A nl ad σ s H → va_S A s.heap H locs → lv_has ls 1 [(0, .int x0)] → f_X11_isRule x0 = r → zWk p l e ({ frames := 0, cells := 0, slots := 0, locals := 0 } : Room) s m args below meth c A (some (.int r)) (fun t => zG D aC A nl ad σ t t.heap ∧ (r = 0 ∨ r = 1)) H locs (F0 m 0 ls []) := by
    intro H locs ls hG hS hl hf
    unfold f_X11_isRule at hf
    refine lv_iload_n hx hb dX11_isRule_0 rfl (lv_at hl 0 rfl) ?_
    refine lv_if_lt (tgt := 13) hx hb dX11_isRule_1 (by decide) (fun c1 => ?_) (fun c1 => ?_)
    · have hf := zif_p c1 hf
      refine lv_iconst (v := 0) hx hb dX11_isRule_13 (by decide) ?_
      have hq := hf
      subst hq
      exact z_zret S hG hS hlocks (Or.inl rfl) hr dX11_isRule_14
    · have hf := zif_n c1 hf
      refine lv_iload_n hx hb dX11_isRule_4 rfl (lv_at hl 0 rfl) ?_
      refine lv_iconst (v := 2) hx hb dX11_isRule_5 (by decide) ?_
      refine lv_icmp_gt (tgt := 13) hx hb dX11_isRule_6 (by decide) (fun c2 => ?_) (fun c2 => ?_)
      · have hf := zif_p c2 hf
        refine lv_iconst (v := 0) hx hb dX11_isRule_13 (by decide) ?_
        have hq := hf
        subst hq
        exact z_zret S hG hS hlocks (Or.inl rfl) hr dX11_isRule_14
      · have hf := zif_n c2 hf
        refine lv_iconst (v := 1) hx hb dX11_isRule_9 (by decide) ?_
        refine lv_goto (tgt := 14) hx hb dX11_isRule_10 (by decide) ?_
        have hq := hf
        subst hq
        exact z_zret S hG hS hlocks (Or.inr rfl) hr dX11_isRule_14
  exact hK0 _ _ ls hG hS hl hf
set_option maxRecDepth 100000 in
set_option maxHeartbeats 4000000 in
theorem c_X11_points (l : Launch) (D : va_G) (aC : Nat → ClassId) (zs : Nat × Nat) (A : Nat → Prop) (nl : zNL) (ad : Nat → Nat → Nat → Nat) (σ : zM) (x1 : Int32) (x2 : Int32) (x3 : Int32) (r : Int32) (σ' : zM)  (hf : f_X11_points σ x1 x2 x3 = some (r, σ')) : Met l yX11_points (Cond.code yX11_points cX11_points 5 (some .int) :: wsL_law) ({ frames := 4, cells := 0, slots := 0, locals := 97 } : Room) (zP D aC zs zfX A nl ad σ [.ref (ad 11 0 0), .int x1, .int x2, .int x3]) (zQ (some (.int r)) (fun t => zG D aC A nl ad σ' t t.heap ∧ True) A) 0 0 A := by
  refine Met.ofW (cc := cX11_points) (maxL := 5) (ret := (some .int)) (by decide) rfl ?_
  intro p e s m args below meth c s₁ B hml hv
  obtain ⟨rfl, hG, hZ⟩ := hv
  have hx := B.exec
  have hb := B.bytes
  have hr := B.returns
  have hts : ∀ w ∈ wsL_law, w.before ([.ref (ad 11 0 0), .int x1, .int x2, .int x3] : List Value).toArray s = true := fun w h => (atoms_spec B.pre) w (List.mem_cons_of_mem _ h)
  have hown : s.vm.findClass RX11 = some m.cls := findClass_of_methodNamed B.named
  have hlocks := B.notSynchronized
  have S : zS p m c cX11_points 5 s ([.ref (ad 11 0 0), .int x1, .int x2, .int x3] : List Value).toArray RX11 := ⟨hx, hb, hml, hown, hts⟩
  have hS : va_S A s.heap s.heap [] := va_S.rf
  have hl := lv_entry ([.ref (ad 11 0 0), .int x1, .int x2, .int x3]) (n := 5) (Nat.le_of_ble_eq_true rfl)
  rw [lg_entry_eq]
  generalize (lg_sl ([.ref (ad 11 0 0), .int x1, .int x2, .int x3]) ++ List.replicate (5 - (lg_sl ([.ref (ad 11 0 0), .int x1, .int x2, .int x3])).length) Slot.unset).toArray = ls at hl ⊢
  have hl : lv_has ls 5 [(0, .ref (ad 11 0 0)), (1, .int x1), (2, .int x2), (3, .int x3)] := hl
  generalize hargs : ([.ref (ad 11 0 0), .int x1, .int x2, .int x3] : List Value).toArray = args at S hts ⊢
  clear hargs
  have hK0 : ∀ (H : Heap) (locs : List Loc) (ls : Array Slot), zG D aC A nl ad σ s H → va_S A s.heap H locs → lv_has ls 5 [(0, .ref (ad 11 0 0)), (1, .int x1), (2, .int x2), (3, .int x3)] → f_X11_points σ x1 x2 x3 = some (r, σ') → zWk p l e ({ frames := 4, cells := 0, slots := 0, locals := 97 } : Room) s m args below meth c A (some (.int r)) (fun t => zG D aC A nl ad σ' t t.heap ∧ True) H locs (F0 m 0 ls []) := by
    intro H locs ls hG hS hl hf
    unfold f_X11_points at hf
    refine lv_aload_n hx hb dX11_points_0 rfl (lv_at hl 0 rfl) ?_
    refine lv_iload_n hx hb dX11_points_1 rfl (lv_at hl 1 rfl) ?_
    obtain ⟨q1, eq1, hf⟩ := zbi hf
    refine z_callV (n := 1) (rest := []) (st1 := [va_rf (Option.map (fun j => ad 6 j 0) q1.1)]) (c0 := 11) (i0 := 0) (hZ.2.1 (11, 0) (by decide)) (by rfl) S hG hS hZ (fun _ _ h => h) (c_X11_roundAt l D aC zs A nl ad σ x1 q1.1 q1.2 eq1) zw_1228 zw_1229 zw_1230 zw_2 zw_1231 (by decide +kernel) ⟨rfl, rfl⟩ ⟨(Nat.le_of_ble_eq_true rfl), (Nat.le_of_ble_eq_true rfl)⟩ hl.1 rfl (by rfl) (by rfl) (Nat.le_of_ble_eq_true rfl) dX11_points_2 ⟨Nat.zero_le _, Nat.zero_le _⟩ (fun H locs hz2 hG hS => ?_)
    rcases hE4 : q1.1 with _ | j3
    · have hf := znu_n0 hE4 hf
      refine W.eq (g2 := F0 m 5 ls [.null]) (by first | rfl | (rw [hE4]; rfl)) ?_
      refine lv_astoreN (lv' := [(4, .null), (0, .ref (ad 11 0 0)), (1, .int x1), (2, .int x2), (3, .int x3)]) hx hb dX11_points_5 hl (by decide) rfl (fun ls hl => ?_)
      refine lv_aloadN hx hb dX11_points_7 (lv_at hl 0 rfl) ?_
      refine lv_ifnullN (tgt := 28) hx hb dX11_points_9 (by decide) ?_
      refine lv_iconst (v := (-1)) hx hb dX11_points_28 (by decide) ?_
      obtain ⟨hq1, hq2⟩ := Prod.mk.inj (Option.some.inj hf)
      subst hq1
      subst hq2
      exact z_iret S hG hS hlocks trivial hr dX11_points_29
    · have hf := znu_s0 hE4 hf
      refine W.eq (g2 := F0 m 5 ls [.ref (ad 6 j3 0)]) (by first | rfl | (rw [hE4]; rfl)) ?_
      refine lv_astore (lv' := [(4, .ref (ad 6 j3 0)), (0, .ref (ad 11 0 0)), (1, .int x1), (2, .int x2), (3, .int x3)]) hx hb dX11_points_5 hl (by decide) rfl (fun ls hl => ?_)
      refine lv_aload hx hb dX11_points_7 (lv_at hl 0 rfl) ?_
      refine lv_ifnull hx hb dX11_points_9 ?_
      refine lv_iload_n hx hb dX11_points_12 rfl (lv_at hl 3 rfl) ?_
      refine z_callS (n := 1) (rest := []) (st1 := [.int (f_X11_isRule x2)]) S hG hS hZ (fun _ _ h => h) (c_X11_isRule l D aC zs A nl ad q1.2 x2 (f_X11_isRule x2) rfl) zw_1390 zw_1391 zw_2 zw_1392 (by decide +kernel) ⟨rfl, rfl⟩ ⟨(Nat.le_of_ble_eq_true rfl), (Nat.le_of_ble_eq_true rfl)⟩ hl.1 rfl (by rfl) (by rfl) (Nat.le_of_ble_eq_true rfl) dX11_points_13 ⟨Nat.zero_le _, Nat.zero_le _⟩ (fun H locs hz5 hG hS => ?_)
      refine lv_if_eq (tgt := 28) hx hb dX11_points_16 (by decide) (fun c6 => ?_) (fun c6 => ?_)
      · have hf := zif_p c6 hf
        refine lv_iconst (v := (-1)) hx hb dX11_points_28 (by decide) ?_
        obtain ⟨hq1, hq2⟩ := Prod.mk.inj (Option.some.inj hf)
        subst hq1
        subst hq2
        exact z_iret S hG hS hlocks trivial hr dX11_points_29
      · have hf := zif_n c6 hf
        refine lv_aload hx hb dX11_points_19 (lv_at hl 0 rfl) ?_
        refine lv_iload_n hx hb dX11_points_21 rfl (lv_at hl 4 rfl) ?_
        obtain ⟨r7, er7, hf⟩ := zbi hf
        refine z_callV (n := 1) (rest := []) (st1 := [.int r7]) (c0 := 6) (i0 := j3) (hz2 j3 hE4) (by rfl) S hG hS hZ (fun _ _ h => h) (c_X6_has l D aC zs A nl ad q1.2 j3 x3 r7 (hz2 j3 hE4) er7) zw_1393 zw_1251 zw_1252 zw_45 zw_1253 (by decide +kernel) ⟨rfl, rfl⟩ ⟨(Nat.le_of_ble_eq_true rfl), (Nat.le_of_ble_eq_true rfl)⟩ hl.1 rfl (by rfl) (by rfl) (Nat.le_of_ble_eq_true rfl) dX11_points_22 ⟨Nat.zero_le _, Nat.zero_le _⟩ (fun H locs hz8 hG hS => ?_)
        refine lv_if_ne (tgt := 30) hx hb dX11_points_25 (by decide) (fun c9 => ?_) (fun c9 => ?_)
        · have hf := zif_n c9 hf
          refine lv_aload hx hb dX11_points_30 (lv_at hl 0 rfl) ?_
          refine lv_iload_n hx hb dX11_points_32 rfl (lv_at hl 3 rfl) ?_
          refine lv_iload_n hx hb dX11_points_33 rfl (lv_at hl 4 rfl) ?_
          obtain ⟨r10, er10, hf⟩ := zbi hf
          refine z_callV (n := 2) (rest := []) (st1 := [.int r10]) (c0 := 6) (i0 := j3) (hz2 j3 hE4) (by rfl) S hG hS hZ (fun _ _ h => h) (c_X6_pointsBy l D aC zs A nl ad q1.2 j3 x2 x3 r10 (hz2 j3 hE4) er10) zw_1394 zw_1317 zw_1318 zw_45 zw_1319 (by decide +kernel) ⟨rfl, rfl⟩ ⟨(Nat.le_of_ble_eq_true rfl), (Nat.le_of_ble_eq_true rfl)⟩ hl.1 rfl (by rfl) (by rfl) (Nat.le_of_ble_eq_true rfl) dX11_points_34 ⟨Nat.zero_le _, Nat.zero_le _⟩ (fun H locs hz11 hG hS => ?_)
          obtain ⟨hq1, hq2⟩ := Prod.mk.inj (Option.some.inj hf)
          subst hq1
          subst hq2
          exact z_iret S hG hS hlocks trivial hr dX11_points_37
        · have hf := zif_p c9 hf
          refine lv_iconst (v := (-1)) hx hb dX11_points_28 (by decide) ?_
          obtain ⟨hq1, hq2⟩ := Prod.mk.inj (Option.some.inj hf)
          subst hq1
          subst hq2
          exact z_iret S hG hS hlocks trivial hr dX11_points_29
  exact hK0 _ _ ls hG hS hl hf
set_option maxRecDepth 100000 in
set_option maxHeartbeats 4000000 in
theorem c_X11_voice (l : Launch) (D : va_G) (aC : Nat → ClassId) (zs : Nat × Nat) (A : Nat → Prop) (nl : zNL) (ad : Nat → Nat → Nat → Nat) (σ : zM) (x1 : Int32) (x2 : Int32) (r : Int32) (σ' : zM)  (hf : f_X11_voice σ x1 x2 = some (r, σ')) : Met l yX11_voice (Cond.code yX11_voice cX11_voice 4 (some .int) :: wsL_law) ({ frames := 4, cells := 0, slots := 0, locals := 97 } : Room) (zP D aC zs zfX A nl ad σ [.ref (ad 11 0 0), .int x1, .int x2]) (zQ (some (.int r)) (fun t => zG D aC A nl ad σ' t t.heap ∧ True) A) 0 0 A := by
  refine Met.ofW (cc := cX11_voice) (maxL := 4) (ret := (some .int)) (by decide) rfl ?_
  intro p e s m args below meth c s₁ B hml hv
  obtain ⟨rfl, hG, hZ⟩ := hv
  have hx := B.exec
  have hb := B.bytes
  have hr := B.returns
  have hts : ∀ w ∈ wsL_law, w.before ([.ref (ad 11 0 0), .int x1, .int x2] : List Value).toArray s = true := fun w h => (atoms_spec B.pre) w (List.mem_cons_of_mem _ h)
  have hown : s.vm.findClass RX11 = some m.cls := findClass_of_methodNamed B.named
  have hlocks := B.notSynchronized
  have S : zS p m c cX11_voice 4 s ([.ref (ad 11 0 0), .int x1, .int x2] : List Value).toArray RX11 := ⟨hx, hb, hml, hown, hts⟩
  have hS : va_S A s.heap s.heap [] := va_S.rf
  have hl := lv_entry ([.ref (ad 11 0 0), .int x1, .int x2]) (n := 4) (Nat.le_of_ble_eq_true rfl)
  rw [lg_entry_eq]
  generalize (lg_sl ([.ref (ad 11 0 0), .int x1, .int x2]) ++ List.replicate (4 - (lg_sl ([.ref (ad 11 0 0), .int x1, .int x2])).length) Slot.unset).toArray = ls at hl ⊢
  have hl : lv_has ls 4 [(0, .ref (ad 11 0 0)), (1, .int x1), (2, .int x2)] := hl
  generalize hargs : ([.ref (ad 11 0 0), .int x1, .int x2] : List Value).toArray = args at S hts ⊢
  clear hargs
  have hK0 : ∀ (H : Heap) (locs : List Loc) (ls : Array Slot), zG D aC A nl ad σ s H → va_S A s.heap H locs → lv_has ls 4 [(0, .ref (ad 11 0 0)), (1, .int x1), (2, .int x2)] → f_X11_voice σ x1 x2 = some (r, σ') → zWk p l e ({ frames := 4, cells := 0, slots := 0, locals := 97 } : Room) s m args below meth c A (some (.int r)) (fun t => zG D aC A nl ad σ' t t.heap ∧ True) H locs (F0 m 0 ls []) := by
    intro H locs ls hG hS hl hf
    unfold f_X11_voice at hf
    refine lv_aload_n hx hb dX11_voice_0 rfl (lv_at hl 0 rfl) ?_
    refine lv_iload_n hx hb dX11_voice_1 rfl (lv_at hl 1 rfl) ?_
    obtain ⟨q1, eq1, hf⟩ := zbi hf
    refine z_callV (n := 1) (rest := []) (st1 := [va_rf (Option.map (fun j => ad 6 j 0) q1.1)]) (c0 := 11) (i0 := 0) (hZ.2.1 (11, 0) (by decide)) (by rfl) S hG hS hZ (fun _ _ h => h) (c_X11_roundAt l D aC zs A nl ad σ x1 q1.1 q1.2 eq1) zw_1228 zw_1229 zw_1230 zw_2 zw_1231 (by decide +kernel) ⟨rfl, rfl⟩ ⟨(Nat.le_of_ble_eq_true rfl), (Nat.le_of_ble_eq_true rfl)⟩ hl.1 rfl (by rfl) (by rfl) (Nat.le_of_ble_eq_true rfl) dX11_voice_2 ⟨Nat.zero_le _, Nat.zero_le _⟩ (fun H locs hz2 hG hS => ?_)
    rcases hE4 : q1.1 with _ | j3
    · have hf := znu_n0 hE4 hf
      refine W.eq (g2 := F0 m 5 ls [.null]) (by first | rfl | (rw [hE4]; rfl)) ?_
      refine lv_astore_nN (lv' := [(3, .null), (0, .ref (ad 11 0 0)), (1, .int x1), (2, .int x2)]) hx hb dX11_voice_5 rfl hl (by decide) rfl (fun ls hl => ?_)
      refine lv_aload_nN hx hb dX11_voice_6 rfl (lv_at hl 0 rfl) ?_
      refine lv_ifnullN (tgt := 21) hx hb dX11_voice_7 (by decide) ?_
      refine lv_iconst (v := (-1)) hx hb dX11_voice_21 (by decide) ?_
      obtain ⟨hq1, hq2⟩ := Prod.mk.inj (Option.some.inj hf)
      subst hq1
      subst hq2
      exact z_iret S hG hS hlocks trivial hr dX11_voice_22
    · have hf := znu_s0 hE4 hf
      refine W.eq (g2 := F0 m 5 ls [.ref (ad 6 j3 0)]) (by first | rfl | (rw [hE4]; rfl)) ?_
      refine lv_astore_n (lv' := [(3, .ref (ad 6 j3 0)), (0, .ref (ad 11 0 0)), (1, .int x1), (2, .int x2)]) hx hb dX11_voice_5 rfl hl (by decide) rfl (fun ls hl => ?_)
      refine lv_aload_n hx hb dX11_voice_6 rfl (lv_at hl 0 rfl) ?_
      refine lv_ifnull hx hb dX11_voice_7 ?_
      refine lv_aload_n hx hb dX11_voice_10 rfl (lv_at hl 1 rfl) ?_
      refine z_get (c0 := 11) (i0 := 0) (k0 := 6) (T := TX11) (v := .ref (ad 2 0 0)) S hG (hZ.2.1 (11, 0) (by decide)) rfl inlX11 (by decide) rfl zw_40 rfl dX11_voice_11 ?_
      refine lv_iload_n hx hb dX11_voice_14 rfl (lv_at hl 3 rfl) ?_
      refine z_callV (n := 1) (rest := []) (st1 := [.int (f_X2_has q1.2 x2)]) (c0 := 2) (i0 := 0) (hZ.2.1 (2, 0) (by decide)) (by rfl) S hG hS hZ (fun _ _ h => h) (c_X2_has l D aC zs A nl ad q1.2 x2 (f_X2_has q1.2 x2) rfl) zw_1207 zw_1208 zw_1209 zw_39 zw_1210 (by decide +kernel) ⟨rfl, rfl⟩ ⟨(Nat.le_of_ble_eq_true rfl), (Nat.le_of_ble_eq_true rfl)⟩ hl.1 rfl (by rfl) (by rfl) (Nat.le_of_ble_eq_true rfl) dX11_voice_15 ⟨Nat.zero_le _, Nat.zero_le _⟩ (fun H locs hz5 hG hS => ?_)
      refine lv_if_ne (tgt := 23) hx hb dX11_voice_18 (by decide) (fun c6 => ?_) (fun c6 => ?_)
      · have hf := zif_n c6 hf
        refine lv_aload_n hx hb dX11_voice_23 rfl (lv_at hl 0 rfl) ?_
        refine lv_iload_n hx hb dX11_voice_24 rfl (lv_at hl 3 rfl) ?_
        obtain ⟨r7, er7, hf⟩ := zbi hf
        refine z_callV (n := 1) (rest := []) (st1 := [.int r7]) (c0 := 6) (i0 := j3) (hz2 j3 hE4) (by rfl) S hG hS hZ (fun _ _ h => h) (c_X6_counts l D aC zs A nl ad q1.2 j3 x2 r7 (hz2 j3 hE4) er7) zw_1403 zw_1321 zw_1322 zw_45 zw_1323 (by decide +kernel) ⟨rfl, rfl⟩ ⟨(Nat.le_of_ble_eq_true rfl), (Nat.le_of_ble_eq_true rfl)⟩ hl.1 rfl (by rfl) (by rfl) (Nat.le_of_ble_eq_true rfl) dX11_voice_25 ⟨Nat.zero_le _, Nat.zero_le _⟩ (fun H locs hz8 hG hS => ?_)
        refine lv_if_eq (tgt := 35) hx hb dX11_voice_28 (by decide) (fun c9 => ?_) (fun c9 => ?_)
        · have hf := zif_p c9 hf
          refine lv_iconst (v := 0) hx hb dX11_voice_35 (by decide) ?_
          obtain ⟨hq1, hq2⟩ := Prod.mk.inj (Option.some.inj hf)
          subst hq1
          subst hq2
          exact z_iret S hG hS hlocks trivial hr dX11_voice_36
        · have hf := zif_n c9 hf
          refine lv_iconst (v := 1) hx hb dX11_voice_31 (by decide) ?_
          refine lv_goto (tgt := 36) hx hb dX11_voice_32 (by decide) ?_
          obtain ⟨hq1, hq2⟩ := Prod.mk.inj (Option.some.inj hf)
          subst hq1
          subst hq2
          exact z_iret S hG hS hlocks trivial hr dX11_voice_36
      · have hf := zif_p c6 hf
        refine lv_iconst (v := (-1)) hx hb dX11_voice_21 (by decide) ?_
        obtain ⟨hq1, hq2⟩ := Prod.mk.inj (Option.some.inj hf)
        subst hq1
        subst hq2
        exact z_iret S hG hS hlocks trivial hr dX11_voice_22
  exact hK0 _ _ ls hG hS hl hf
set_option maxRecDepth 100000 in
set_option maxHeartbeats 4000000 in
theorem c_X11_order (l : Launch) (D : va_G) (aC : Nat → ClassId) (zs : Nat × Nat) (A : Nat → Prop) (nl : zNL) (ad : Nat → Nat → Nat → Nat) (σ : zM) (x1 : Int32) (x2 : Int32) (x3 : Int32) (r : Int32) (σ' : zM)  (hf : f_X11_order σ x1 x2 x3 = some (r, σ')) : Met l yX11_order (Cond.code yX11_order cX11_order 5 (some .int) :: wsL_law) ({ frames := 6, cells := 0, slots := 0, locals := 141 } : Room) (zP D aC zs zfX A nl ad σ [.ref (ad 11 0 0), .int x1, .int x2, .int x3]) (zQ (some (.int r)) (fun t => zG D aC A nl ad σ' t t.heap ∧ True) A) 0 0 A := by
  refine Met.ofW (cc := cX11_order) (maxL := 5) (ret := (some .int)) (by decide) rfl ?_
  intro p e s m args below meth c s₁ B hml hv
  obtain ⟨rfl, hG, hZ⟩ := hv
  have hx := B.exec
  have hb := B.bytes
  have hr := B.returns
  have hts : ∀ w ∈ wsL_law, w.before ([.ref (ad 11 0 0), .int x1, .int x2, .int x3] : List Value).toArray s = true := fun w h => (atoms_spec B.pre) w (List.mem_cons_of_mem _ h)
  have hown : s.vm.findClass RX11 = some m.cls := findClass_of_methodNamed B.named
  have hlocks := B.notSynchronized
  have S : zS p m c cX11_order 5 s ([.ref (ad 11 0 0), .int x1, .int x2, .int x3] : List Value).toArray RX11 := ⟨hx, hb, hml, hown, hts⟩
  have hS : va_S A s.heap s.heap [] := va_S.rf
  have hl := lv_entry ([.ref (ad 11 0 0), .int x1, .int x2, .int x3]) (n := 5) (Nat.le_of_ble_eq_true rfl)
  rw [lg_entry_eq]
  generalize (lg_sl ([.ref (ad 11 0 0), .int x1, .int x2, .int x3]) ++ List.replicate (5 - (lg_sl ([.ref (ad 11 0 0), .int x1, .int x2, .int x3])).length) Slot.unset).toArray = ls at hl ⊢
  have hl : lv_has ls 5 [(0, .ref (ad 11 0 0)), (1, .int x1), (2, .int x2), (3, .int x3)] := hl
  generalize hargs : ([.ref (ad 11 0 0), .int x1, .int x2, .int x3] : List Value).toArray = args at S hts ⊢
  clear hargs
  have KJ54 : ∀ (t0b54 : Nat) (t1b54 : Int32) (h_t0b54 : zin nl 6 t0b54) (σb54 : zM) (H : Heap) (locs : List Loc) (ls : Array Slot), zG D aC A nl ad σb54 s H → va_S A s.heap H locs → lv_has ls 5 [(0, .ref (ad 11 0 0)), (1, .int x1), (2, .int x2), (3, .int x3)] → (f_X11_order_B54 σb54 x1 x2 x3 t0b54 t1b54) = some (r, σ') → zWk p l e ({ frames := 6, cells := 0, slots := 0, locals := 141 } : Room) s m args below meth c A (some (.int r)) (fun t => zG D aC A nl ad σ' t t.heap ∧ True) H locs (F0 m 54 ls [.int t1b54, .ref (ad 6 t0b54 0)]) := by
    intro t0b54 t1b54 h_t0b54 σb54 H locs ls hG hS hl hf
    unfold f_X11_order_B54 at hf
    refine lv_iload_n hx hb dX11_order_54 rfl (lv_at hl 3 rfl) ?_
    obtain ⟨q9, eq9, hf⟩ := zbi hf
    refine z_callV (n := 2) (rest := []) (st1 := [.int q9.1]) (c0 := 6) (i0 := t0b54) h_t0b54 (by rfl) S hG hS hZ (fun _ _ h => h) (c_X6_rankedAt l D aC zs A nl ad σb54 t0b54 t1b54 x3 q9.1 q9.2 h_t0b54 eq9) zw_1413 zw_1414 zw_1415 zw_45 zw_1416 (by decide +kernel) ⟨rfl, rfl⟩ ⟨(Nat.le_of_ble_eq_true rfl), (Nat.le_of_ble_eq_true rfl)⟩ hl.1 rfl (by rfl) (by rfl) (Nat.le_of_ble_eq_true rfl) dX11_order_55 ⟨Nat.zero_le _, Nat.zero_le _⟩ (fun H locs hz10 hG hS => ?_)
    obtain ⟨hq1, hq2⟩ := Prod.mk.inj (Option.some.inj hf)
    subst hq1
    subst hq2
    exact z_iret S hG hS hlocks trivial hr dX11_order_58
  have KJ38 : ∀ (y4b38 : Nat) (h_y4b38 : zin nl 6 y4b38) (σb38 : zM) (H : Heap) (locs : List Loc) (ls : Array Slot), zG D aC A nl ad σb38 s H → va_S A s.heap H locs → lv_has ls 5 [(0, .ref (ad 11 0 0)), (1, .int x1), (2, .int x2), (3, .int x3), (4, .ref (ad 6 y4b38 0))] → (f_X11_order_B38 σb38 x1 x2 x3 y4b38) = some (r, σ') → zWk p l e ({ frames := 6, cells := 0, slots := 0, locals := 141 } : Room) s m args below meth c A (some (.int r)) (fun t => zG D aC A nl ad σ' t t.heap ∧ True) H locs (F0 m 38 ls []) := by
    intro y4b38 h_y4b38 σb38 H locs ls hG hS hl hf
    unfold f_X11_order_B38 at hf
    refine lv_aload hx hb dX11_order_38 (lv_at hl 4 rfl) ?_
    refine lv_iload_n hx hb dX11_order_40 rfl (lv_at hl 2 rfl) ?_
    refine lv_iconst (v := (-1)) hx hb dX11_order_41 (by decide) ?_
    refine lv_icmp_ne (tgt := 53) hx hb dX11_order_42 (by decide) (fun c8 => ?_) (fun c8 => ?_)
    · have hf := zif_n c8 hf
      refine lv_iload_n hx hb dX11_order_53 rfl (lv_at hl 2 rfl) ?_
      exact KJ54 y4b38 x2 h_y4b38 σb38 H locs ls hG hS (lv_sub hl [0, 1, 2, 3] rfl) hf
    · have hf := zif_p c8 hf
      refine lv_aload hx hb dX11_order_45 (lv_at hl 4 rfl) ?_
      refine z_get (c0 := 6) (i0 := y4b38) (k0 := 7) (T := TX6) (v := .int (zI σb38 6 y4b38 7)) S hG h_y4b38 rfl inlX6 (by decide) rfl zw_1412 rfl dX11_order_47 ?_
      refine lv_goto (tgt := 54) hx hb dX11_order_50 (by decide) ?_
      exact KJ54 y4b38 (zI σb38 6 y4b38 7) h_y4b38 σb38 H locs ls hG hS (lv_sub hl [0, 1, 2, 3] rfl) hf
  have KJ17 : ∀ (t0b17 : Option Nat) (h_t0b17 : ∀ j, t0b17 = some j → zin nl 6 j) (σb17 : zM) (H : Heap) (locs : List Loc) (ls : Array Slot), zG D aC A nl ad σb17 s H → va_S A s.heap H locs → lv_has ls 5 [(0, .ref (ad 11 0 0)), (1, .int x1), (2, .int x2), (3, .int x3)] → (f_X11_order_B17 σb17 x1 x2 x3 t0b17) = some (r, σ') → zWk p l e ({ frames := 6, cells := 0, slots := 0, locals := 141 } : Room) s m args below meth c A (some (.int r)) (fun t => zG D aC A nl ad σ' t t.heap ∧ True) H locs (F0 m 17 ls [va_rf (Option.map (fun j => ad 6 j 0) t0b17)]) := by
    intro t0b17 h_t0b17 σb17 H locs ls hG hS hl hf
    unfold f_X11_order_B17 at hf
    rcases t0b17 with _ | j6
    · have hf := znu_n hf
      have hl : lv_has ls 5 [(0, .ref (ad 11 0 0)), (1, .int x1), (2, .int x2), (3, .int x3)] := hl
      refine W.eq (g2 := F0 m 17 ls [.null]) (by rfl) ?_
      refine lv_astoreN (lv' := [(4, .null), (0, .ref (ad 11 0 0)), (1, .int x1), (2, .int x2), (3, .int x3)]) hx hb dX11_order_17 hl (by decide) rfl (fun ls hl => ?_)
      refine lv_aloadN hx hb dX11_order_19 (lv_at hl 0 rfl) ?_
      refine lv_ifnullN (tgt := 36) hx hb dX11_order_21 (by decide) ?_
      refine lv_iconst (v := (-1)) hx hb dX11_order_36 (by decide) ?_
      obtain ⟨hq1, hq2⟩ := Prod.mk.inj (Option.some.inj hf)
      subst hq1
      subst hq2
      exact z_iret S hG hS hlocks trivial hr dX11_order_37
    · have hf := znu_s hf
      have hl : lv_has ls 5 [(0, .ref (ad 11 0 0)), (1, .int x1), (2, .int x2), (3, .int x3)] := hl
      refine W.eq (g2 := F0 m 17 ls [.ref (ad 6 j6 0)]) (by rfl) ?_
      refine lv_astore (lv' := [(4, .ref (ad 6 j6 0)), (0, .ref (ad 11 0 0)), (1, .int x1), (2, .int x2), (3, .int x3)]) hx hb dX11_order_17 hl (by decide) rfl (fun ls hl => ?_)
      refine lv_aload hx hb dX11_order_19 (lv_at hl 0 rfl) ?_
      refine lv_ifnull hx hb dX11_order_21 ?_
      refine lv_iload_n hx hb dX11_order_24 rfl (lv_at hl 3 rfl) ?_
      refine lv_iconst (v := (-1)) hx hb dX11_order_25 (by decide) ?_
      refine lv_icmp_eq (tgt := 38) hx hb dX11_order_26 (by decide) (fun c7 => ?_) (fun c7 => ?_)
      · have hf := zif_p c7 hf
        exact KJ38 j6 (h_t0b17 j6 rfl) σb17 H locs ls hG hS (lv_sub hl [1, 2, 3, 4, 0] rfl) hf
      · have hf := zif_n c7 hf
        refine lv_iload_n hx hb dX11_order_29 rfl (lv_at hl 3 rfl) ?_
        refine z_callS (n := 1) (rest := []) (st1 := [.int (f_X11_isRule x2)]) S hG hS hZ (fun _ _ h => h) (c_X11_isRule l D aC zs A nl ad σb17 x2 (f_X11_isRule x2) rfl) zw_1390 zw_1391 zw_2 zw_1392 (by decide +kernel) ⟨rfl, rfl⟩ ⟨(Nat.le_of_ble_eq_true rfl), (Nat.le_of_ble_eq_true rfl)⟩ hl.1 rfl (by rfl) (by rfl) (Nat.le_of_ble_eq_true rfl) dX11_order_30 ⟨Nat.zero_le _, Nat.zero_le _⟩ (fun H locs hz11 hG hS => ?_)
        refine lv_if_ne (tgt := 38) hx hb dX11_order_33 (by decide) (fun c12 => ?_) (fun c12 => ?_)
        · have hf := zif_n c12 hf
          exact KJ38 j6 (h_t0b17 j6 rfl) σb17 H locs ls hG hS (lv_sub hl [1, 2, 3, 4, 0] rfl) hf
        · have hf := zif_p c12 hf
          refine lv_iconst (v := (-1)) hx hb dX11_order_36 (by decide) ?_
          obtain ⟨hq1, hq2⟩ := Prod.mk.inj (Option.some.inj hf)
          subst hq1
          subst hq2
          exact z_iret S hG hS hlocks trivial hr dX11_order_37
  have hK0 : ∀ (H : Heap) (locs : List Loc) (ls : Array Slot), zG D aC A nl ad σ s H → va_S A s.heap H locs → lv_has ls 5 [(0, .ref (ad 11 0 0)), (1, .int x1), (2, .int x2), (3, .int x3)] → f_X11_order σ x1 x2 x3 = some (r, σ') → zWk p l e ({ frames := 6, cells := 0, slots := 0, locals := 141 } : Room) s m args below meth c A (some (.int r)) (fun t => zG D aC A nl ad σ' t t.heap ∧ True) H locs (F0 m 0 ls []) := by
    intro H locs ls hG hS hl hf
    unfold f_X11_order at hf
    refine lv_iload_n hx hb dX11_order_0 rfl (lv_at hl 1 rfl) ?_
    refine lv_aload_n hx hb dX11_order_1 rfl (lv_at hl 0 rfl) ?_
    refine z_get (c0 := 11) (i0 := 0) (k0 := 14) (T := TX11) (v := .int (zI σ 11 0 14)) S hG (hZ.2.1 (11, 0) (by decide)) rfl inlX11 (by decide) rfl zw_52 rfl dX11_order_2 ?_
    refine lv_icmp_ne (tgt := 12) hx hb dX11_order_5 (by decide) (fun c1 => ?_) (fun c1 => ?_)
    · have hf := zif_n c1 hf
      refine lv_aload_n hx hb dX11_order_12 rfl (lv_at hl 0 rfl) ?_
      refine lv_iload_n hx hb dX11_order_13 rfl (lv_at hl 1 rfl) ?_
      obtain ⟨q2, eq2, hf⟩ := zbi hf
      refine z_callV (n := 1) (rest := []) (st1 := [va_rf (Option.map (fun j => ad 6 j 0) q2.1)]) (c0 := 11) (i0 := 0) (hZ.2.1 (11, 0) (by decide)) (by rfl) S hG hS hZ (fun _ _ h => h) (c_X11_roundAt l D aC zs A nl ad σ x1 q2.1 q2.2 eq2) zw_1228 zw_1229 zw_1230 zw_2 zw_1231 (by decide +kernel) ⟨rfl, rfl⟩ ⟨(Nat.le_of_ble_eq_true rfl), (Nat.le_of_ble_eq_true rfl)⟩ hl.1 rfl (by rfl) (by rfl) (Nat.le_of_ble_eq_true rfl) dX11_order_14 ⟨Nat.zero_le _, Nat.zero_le _⟩ (fun H locs hz3 hG hS => ?_)
      rcases hE5 : q2.1 with _ | j4
      · have hf := znu_n0 hE5 hf
        refine W.eq (g2 := F0 m 17 ls [.null]) (by first | rfl | (rw [hE5]; rfl)) ?_
        refine W.eq (g2 := F0 m 17 ls [va_rf (Option.map (fun j => ad 6 j 0) none)]) (by rfl) ?_
        exact KJ17 none (fun _ h => by cases h) q2.2 H locs ls hG hS (lv_sub hl [0, 1, 2, 3] rfl) hf
      · have hf := znu_s0 hE5 hf
        refine W.eq (g2 := F0 m 17 ls [.ref (ad 6 j4 0)]) (by first | rfl | (rw [hE5]; rfl)) ?_
        refine W.eq (g2 := F0 m 17 ls [va_rf (Option.map (fun j => ad 6 j 0) (some j4))]) (by rfl) ?_
        exact KJ17 (some j4) (fun _ h => by cases h; exact (hz3 j4 hE5)) q2.2 H locs ls hG hS (lv_sub hl [0, 1, 2, 3] rfl) hf
    · have hf := zif_p c1 hf
      refine lv_null hx hb dX11_order_8 ?_
      refine lv_goto (tgt := 17) hx hb dX11_order_9 (by decide) ?_
      refine W.eq (g2 := F0 m 17 ls [va_rf (Option.map (fun j => ad 6 j 0) none)]) (by rfl) ?_
      exact KJ17 none (fun _ h => by cases h) σ H locs ls hG hS (lv_sub hl [0, 1, 2, 3] rfl) hf
  exact hK0 _ _ ls hG hS hl hf
set_option maxRecDepth 100000 in
set_option maxHeartbeats 4000000 in
theorem c_X11_author (l : Launch) (D : va_G) (aC : Nat → ClassId) (zs : Nat × Nat) (A : Nat → Prop) (nl : zNL) (ad : Nat → Nat → Nat → Nat) (σ : zM) (x1 : Int32) (r : Int32)  (hf : f_X11_author σ x1 = some r) : Met l yX11_author (Cond.code yX11_author cX11_author 3 (some .int) :: wsL_law) ({ frames := 1, cells := 0, slots := 0, locals := 21 } : Room) (zP D aC zs zfX A nl ad σ [.ref (ad 11 0 0), .int x1]) (zQ (some (.int r)) (fun t => zG D aC A nl ad σ t t.heap ∧ True) A) 0 0 A := by
  refine Met.ofW (cc := cX11_author) (maxL := 3) (ret := (some .int)) (by decide) rfl ?_
  intro p e s m args below meth c s₁ B hml hv
  obtain ⟨rfl, hG, hZ⟩ := hv
  have hx := B.exec
  have hb := B.bytes
  have hr := B.returns
  have hts : ∀ w ∈ wsL_law, w.before ([.ref (ad 11 0 0), .int x1] : List Value).toArray s = true := fun w h => (atoms_spec B.pre) w (List.mem_cons_of_mem _ h)
  have hown : s.vm.findClass RX11 = some m.cls := findClass_of_methodNamed B.named
  have hlocks := B.notSynchronized
  have S : zS p m c cX11_author 3 s ([.ref (ad 11 0 0), .int x1] : List Value).toArray RX11 := ⟨hx, hb, hml, hown, hts⟩
  have hS : va_S A s.heap s.heap [] := va_S.rf
  have hl := lv_entry ([.ref (ad 11 0 0), .int x1]) (n := 3) (Nat.le_of_ble_eq_true rfl)
  rw [lg_entry_eq]
  generalize (lg_sl ([.ref (ad 11 0 0), .int x1]) ++ List.replicate (3 - (lg_sl ([.ref (ad 11 0 0), .int x1])).length) Slot.unset).toArray = ls at hl ⊢
  have hl : lv_has ls 3 [(0, .ref (ad 11 0 0)), (1, .int x1)] := hl
  generalize hargs : ([.ref (ad 11 0 0), .int x1] : List Value).toArray = args at S hts ⊢
  clear hargs
  have KJ18 : ∀ (H : Heap) (locs : List Loc) (ls : Array Slot), zG D aC A nl ad σ s H → va_S A s.heap H locs → lv_has ls 3 [(0, .ref (ad 11 0 0)), (1, .int x1)] → (f_X11_author_B18 σ x1) = some r → zWk p l e ({ frames := 1, cells := 0, slots := 0, locals := 21 } : Room) s m args below meth c A (some (.int r)) (fun t => zG D aC A nl ad σ t t.heap ∧ True) H locs (F0 m 18 ls []) := by
    intro    H locs ls hG hS hl hf
    unfold f_X11_author_B18 at hf
    refine lv_iconst (v := (-1)) hx hb dX11_author_18 (by decide) ?_
    refine lv_goto (tgt := 26) hx hb dX11_author_19 (by decide) ?_
    have hq := (Option.some.inj hf)
    subst hq
    exact z_iret S hG hS hlocks trivial hr dX11_author_26
  have hK0 : ∀ (H : Heap) (locs : List Loc) (ls : Array Slot), zG D aC A nl ad σ s H → va_S A s.heap H locs → lv_has ls 3 [(0, .ref (ad 11 0 0)), (1, .int x1)] → f_X11_author σ x1 = some r → zWk p l e ({ frames := 1, cells := 0, slots := 0, locals := 21 } : Room) s m args below meth c A (some (.int r)) (fun t => zG D aC A nl ad σ t t.heap ∧ True) H locs (F0 m 0 ls []) := by
    intro H locs ls hG hS hl hf
    unfold f_X11_author at hf
    refine lv_aload_n hx hb dX11_author_0 rfl (lv_at hl 0 rfl) ?_
    refine lv_iload_n hx hb dX11_author_1 rfl (lv_at hl 1 rfl) ?_
    obtain ⟨r1, er1, hf⟩ := zbi hf
    refine z_callV (n := 1) (rest := []) (st1 := [va_rf (Option.map (fun j => ad 7 j 0) r1)]) (c0 := 11) (i0 := 0) (hZ.2.1 (11, 0) (by decide)) (by rfl) S hG hS hZ (fun _ _ h => h) (c_X11_schemeAt l D aC zs A nl ad σ x1 r1 er1) zw_806 zw_807 zw_808 zw_2 zw_809 (by decide +kernel) ⟨rfl, rfl⟩ ⟨(Nat.le_of_ble_eq_true rfl), (Nat.le_of_ble_eq_true rfl)⟩ hl.1 rfl (by rfl) (by rfl) (Nat.le_of_ble_eq_true rfl) dX11_author_2 ⟨Nat.zero_le _, Nat.zero_le _⟩ (fun H locs hz2 hG hS => ?_)
    rcases hE4 : r1 with _ | j3
    · have hf := znu_n0 hE4 hf
      refine W.eq (g2 := F0 m 5 ls [.null]) (by first | rfl | (rw [hE4]; rfl)) ?_
      refine lv_astore_nN (lv' := [(2, .null), (0, .ref (ad 11 0 0)), (1, .int x1)]) hx hb dX11_author_5 rfl hl (by decide) rfl (fun ls hl => ?_)
      refine lv_aload_nN hx hb dX11_author_6 rfl (lv_at hl 0 rfl) ?_
      refine lv_ifnullN (tgt := 18) hx hb dX11_author_7 (by decide) ?_
      exact KJ18 H locs ls hG hS (lv_sub hl [1, 2] rfl) hf
    · have hf := znu_s0 hE4 hf
      refine W.eq (g2 := F0 m 5 ls [.ref (ad 7 j3 0)]) (by first | rfl | (rw [hE4]; rfl)) ?_
      refine lv_astore_n (lv' := [(2, .ref (ad 7 j3 0)), (0, .ref (ad 11 0 0)), (1, .int x1)]) hx hb dX11_author_5 rfl hl (by decide) rfl (fun ls hl => ?_)
      refine lv_aload_n hx hb dX11_author_6 rfl (lv_at hl 0 rfl) ?_
      refine lv_ifnull hx hb dX11_author_7 ?_
      refine lv_aload_n hx hb dX11_author_10 rfl (lv_at hl 1 rfl) ?_
      refine z_get (c0 := 11) (i0 := 0) (k0 := 15) (T := TX11) (v := .int (zI σ 11 0 15)) S hG (hZ.2.1 (11, 0) (by decide)) rfl inlX11 (by decide) rfl zw_53 rfl dX11_author_11 ?_
      refine lv_iconst (v := 2) hx hb dX11_author_14 (by decide) ?_
      refine lv_icmp_ge (tgt := 22) hx hb dX11_author_15 (by decide) (fun c5 => ?_) (fun c5 => ?_)
      · have hf := zif_p c5 hf
        refine lv_aload_n hx hb dX11_author_22 rfl (lv_at hl 0 rfl) ?_
        refine z_get (c0 := 7) (i0 := j3) (k0 := 0) (T := TX7) (v := .int (zI σ 7 j3 0)) S hG (hz2 j3 hE4) rfl inlX7 (by decide) rfl zw_1425 rfl dX11_author_23 ?_
        have hq := (Option.some.inj hf)
        subst hq
        exact z_iret S hG hS hlocks trivial hr dX11_author_26
      · have hf := zif_n c5 hf
        exact KJ18 H locs ls hG hS (lv_sub hl [1, 2] rfl) hf
  exact hK0 _ _ ls hG hS hl hf
set_option maxRecDepth 100000 in
set_option maxHeartbeats 4000000 in
theorem c_X11_winner (l : Launch) (D : va_G) (aC : Nat → ClassId) (zs : Nat × Nat) (A : Nat → Prop) (nl : zNL) (ad : Nat → Nat → Nat → Nat) (σ : zM)  (r : Int32) (σ' : zM)  (hf : f_X11_winner σ = some (r, σ')) : Met l yX11_winner (Cond.code yX11_winner cX11_winner 1 (some .int) :: wsL_law) ({ frames := 6, cells := 0, slots := 0, locals := 141 } : Room) (zP D aC zs zfX A nl ad σ [.ref (ad 11 0 0)]) (zQ (some (.int r)) (fun t => zG D aC A nl ad σ' t t.heap ∧ True) A) 0 0 A := by
  refine Met.ofW (cc := cX11_winner) (maxL := 1) (ret := (some .int)) (by decide) rfl ?_
  intro p e s m args below meth c s₁ B hml hv
  obtain ⟨rfl, hG, hZ⟩ := hv
  have hx := B.exec
  have hb := B.bytes
  have hr := B.returns
  have hts : ∀ w ∈ wsL_law, w.before ([.ref (ad 11 0 0)] : List Value).toArray s = true := fun w h => (atoms_spec B.pre) w (List.mem_cons_of_mem _ h)
  have hown : s.vm.findClass RX11 = some m.cls := findClass_of_methodNamed B.named
  have hlocks := B.notSynchronized
  have S : zS p m c cX11_winner 1 s ([.ref (ad 11 0 0)] : List Value).toArray RX11 := ⟨hx, hb, hml, hown, hts⟩
  have hS : va_S A s.heap s.heap [] := va_S.rf
  have hl := lv_entry ([.ref (ad 11 0 0)]) (n := 1) (Nat.le_of_ble_eq_true rfl)
  rw [lg_entry_eq]
  generalize (lg_sl ([.ref (ad 11 0 0)]) ++ List.replicate (1 - (lg_sl ([.ref (ad 11 0 0)])).length) Slot.unset).toArray = ls at hl ⊢
  have hl : lv_has ls 1 [(0, .ref (ad 11 0 0))] := hl
  generalize hargs : ([.ref (ad 11 0 0)] : List Value).toArray = args at S hts ⊢
  clear hargs
  have hK0 : ∀ (H : Heap) (locs : List Loc) (ls : Array Slot), zG D aC A nl ad σ s H → va_S A s.heap H locs → lv_has ls 1 [(0, .ref (ad 11 0 0))] → f_X11_winner σ = some (r, σ') → zWk p l e ({ frames := 6, cells := 0, slots := 0, locals := 141 } : Room) s m args below meth c A (some (.int r)) (fun t => zG D aC A nl ad σ' t t.heap ∧ True) H locs (F0 m 0 ls []) := by
    intro H locs ls hG hS hl hf
    unfold f_X11_winner at hf
    refine lv_aload_n hx hb dX11_winner_0 rfl (lv_at hl 0 rfl) ?_
    refine z_get (c0 := 11) (i0 := 0) (k0 := 15) (T := TX11) (v := .int (zI σ 11 0 15)) S hG (hZ.2.1 (11, 0) (by decide)) rfl inlX11 (by decide) rfl zw_53 rfl dX11_winner_1 ?_
    refine lv_iconst (v := 2) hx hb dX11_winner_4 (by decide) ?_
    refine lv_icmp_ge (tgt := 12) hx hb dX11_winner_5 (by decide) (fun c1 => ?_) (fun c1 => ?_)
    · have hf := zif_p c1 hf
      refine lv_aload_n hx hb dX11_winner_12 rfl (lv_at hl 0 rfl) ?_
      refine z_get (c0 := 11) (i0 := 0) (k0 := 9) (T := TX11) (v := .ref (ad 6 1 0)) S hG (hZ.2.1 (11, 0) (by decide)) rfl inlX11 (by decide) rfl zw_47 rfl dX11_winner_13 ?_
      refine lv_aload_n hx hb dX11_winner_16 rfl (lv_at hl 0 rfl) ?_
      refine z_get (c0 := 11) (i0 := 0) (k0 := 9) (T := TX11) (v := .ref (ad 6 1 0)) S hG (hZ.2.1 (11, 0) (by decide)) rfl inlX11 (by decide) rfl zw_47 rfl dX11_winner_17 ?_
      refine z_get (c0 := 6) (i0 := 1) (k0 := 7) (T := TX6) (v := .int (zI σ 6 1 7)) S hG (hZ.2.1 (6, 1) (by decide)) rfl inlX6 (by decide) rfl zw_1412 rfl dX11_winner_20 ?_
      refine lv_aload_n hx hb dX11_winner_23 rfl (lv_at hl 0 rfl) ?_
      refine z_get (c0 := 11) (i0 := 0) (k0 := 16) (T := TX11) (v := .int (zI σ 11 0 16)) S hG (hZ.2.1 (11, 0) (by decide)) rfl inlX11 (by decide) rfl zw_54 rfl dX11_winner_24 ?_
      obtain ⟨q2, eq2, hf⟩ := zbi hf
      refine z_callV (n := 2) (rest := []) (st1 := [.int q2.1]) (c0 := 6) (i0 := 1) (hZ.2.1 (6, 1) (by decide)) (by rfl) S hG hS hZ (fun _ _ h => h) (c_X6_rankedAt l D aC zs A nl ad σ 1 (zI σ 6 1 7) (zI σ 11 0 16) q2.1 q2.2 (hZ.2.1 (6, 1) (by decide)) eq2) zw_1413 zw_1414 zw_1415 zw_45 zw_1416 (by decide +kernel) ⟨rfl, rfl⟩ ⟨(Nat.le_of_ble_eq_true rfl), (Nat.le_of_ble_eq_true rfl)⟩ hl.1 rfl (by rfl) (by rfl) (Nat.le_of_ble_eq_true rfl) dX11_winner_27 ⟨Nat.zero_le _, Nat.zero_le _⟩ (fun H locs hz3 hG hS => ?_)
      obtain ⟨hq1, hq2⟩ := Prod.mk.inj (Option.some.inj hf)
      subst hq1
      subst hq2
      exact z_iret S hG hS hlocks trivial hr dX11_winner_30
    · have hf := zif_n c1 hf
      refine lv_iconst (v := (-1)) hx hb dX11_winner_8 (by decide) ?_
      refine lv_goto (tgt := 30) hx hb dX11_winner_9 (by decide) ?_
      obtain ⟨hq1, hq2⟩ := Prod.mk.inj (Option.some.inj hf)
      subst hq1
      subst hq2
      exact z_iret S hG hS hlocks trivial hr dX11_winner_30
  exact hK0 _ _ ls hG hS hl hf
set_option maxRecDepth 100000 in
set_option maxHeartbeats 4000000 in
theorem c_X11_fail (l : Launch) (D : va_G) (aC : Nat → ClassId) (zs : Nat × Nat) (A : Nat → Prop) (nl : zNL) (ad : Nat → Nat → Nat → Nat) (σ : zM)  (r : Int32) (σ' : zM)  (hf : f_X11_fail σ = some (r, σ')) : Met l yX11_fail (Cond.code yX11_fail cX11_fail 1 (some .int) :: wsL_law) ({ frames := 7, cells := 0, slots := 0, locals := 161 } : Room) (zP D aC zs zfX A nl ad σ [.ref (ad 11 0 0)]) (zQ (some (.int r)) (fun t => zG D aC A nl ad σ' t t.heap ∧ True) A) 0 0 A := by
  refine Met.ofW (cc := cX11_fail) (maxL := 1) (ret := (some .int)) (by decide) rfl ?_
  intro p e s m args below meth c s₁ B hml hv
  obtain ⟨rfl, hG, hZ⟩ := hv
  have hx := B.exec
  have hb := B.bytes
  have hr := B.returns
  have hts : ∀ w ∈ wsL_law, w.before ([.ref (ad 11 0 0)] : List Value).toArray s = true := fun w h => (atoms_spec B.pre) w (List.mem_cons_of_mem _ h)
  have hown : s.vm.findClass RX11 = some m.cls := findClass_of_methodNamed B.named
  have hlocks := B.notSynchronized
  have S : zS p m c cX11_fail 1 s ([.ref (ad 11 0 0)] : List Value).toArray RX11 := ⟨hx, hb, hml, hown, hts⟩
  have hS : va_S A s.heap s.heap [] := va_S.rf
  have hl := lv_entry ([.ref (ad 11 0 0)]) (n := 1) (Nat.le_of_ble_eq_true rfl)
  rw [lg_entry_eq]
  generalize (lg_sl ([.ref (ad 11 0 0)]) ++ List.replicate (1 - (lg_sl ([.ref (ad 11 0 0)])).length) Slot.unset).toArray = ls at hl ⊢
  have hl : lv_has ls 1 [(0, .ref (ad 11 0 0))] := hl
  generalize hargs : ([.ref (ad 11 0 0)] : List Value).toArray = args at S hts ⊢
  clear hargs
  have hK0 : ∀ (H : Heap) (locs : List Loc) (ls : Array Slot), zG D aC A nl ad σ s H → va_S A s.heap H locs → lv_has ls 1 [(0, .ref (ad 11 0 0))] → f_X11_fail σ = some (r, σ') → zWk p l e ({ frames := 7, cells := 0, slots := 0, locals := 161 } : Room) s m args below meth c A (some (.int r)) (fun t => zG D aC A nl ad σ' t t.heap ∧ True) H locs (F0 m 0 ls []) := by
    intro H locs ls hG hS hl hf
    unfold f_X11_fail at hf
    refine lv_aload_n hx hb dX11_fail_0 rfl (lv_at hl 0 rfl) ?_
    obtain ⟨q1, eq1, hf⟩ := zbi hf
    refine z_callV (n := 0) (rest := []) (st1 := [.int q1.1]) (c0 := 11) (i0 := 0) (hZ.2.1 (11, 0) (by decide)) (by rfl) S hG hS hZ (fun _ _ h => h) (c_X11_winner l D aC zs A nl ad σ q1.1 q1.2 eq1) zw_1447 zw_1431 zw_1432 zw_2 zw_1433 (by decide +kernel) ⟨rfl, rfl⟩ ⟨(Nat.le_of_ble_eq_true rfl), (Nat.le_of_ble_eq_true rfl)⟩ hl.1 rfl (by rfl) (by rfl) (Nat.le_of_ble_eq_true rfl) dX11_fail_1 ⟨Nat.zero_le _, Nat.zero_le _⟩ (fun H locs hz2 hG hS => ?_)
    refine lv_iconst (v := (-1)) hx hb dX11_fail_4 (by decide) ?_
    refine lv_icmp_ne (tgt := 11) hx hb dX11_fail_5 (by decide) (fun c3 => ?_) (fun c3 => ?_)
    · have hf := zif_n c3 hf
      refine lv_aload_n hx hb dX11_fail_11 rfl (lv_at hl 0 rfl) ?_
      refine lv_dup hx hb dX11_fail_12 rfl ?_
      refine z_get (c0 := 11) (i0 := 0) (k0 := 16) (T := TX11) (v := .int (zI q1.2 11 0 16)) S hG (hZ.2.1 (11, 0) (by decide)) rfl inlX11 (by decide) rfl zw_54 rfl dX11_fail_13 ?_
      refine lv_iconst (v := 1) hx hb dX11_fail_16 (by decide) ?_
      refine lv_iadd hx hb dX11_fail_17 ?_
      refine z_putI (c0 := 11) (i0 := 0) (k0 := 16) (T := TX11) S hG hS tyX11 tyX11_ok nmX11 (hZ.2.1 (11, 0) (by decide)) rfl inlX11 (by decide) rfl rfl zw_54 (by decide +kernel) rfl dX11_fail_18 (fun H locs hG hS => ?_)
      obtain ⟨σ4, eσ4, hf⟩ := zlt_s hf
      rw [← eσ4] at hG
      refine lv_aload_n hx hb dX11_fail_21 rfl (lv_at hl 0 rfl) ?_
      refine lv_iconst (v := 0) hx hb dX11_fail_22 (by decide) ?_
      refine z_putI (c0 := 11) (i0 := 0) (k0 := 17) (T := TX11) S hG hS tyX11 tyX11_ok nmX11 (hZ.2.1 (11, 0) (by decide)) rfl inlX11 (by decide) rfl rfl zw_55 (by decide +kernel) rfl dX11_fail_23 (fun H locs hG hS => ?_)
      obtain ⟨σ5, eσ5, hf⟩ := zlt_s hf
      rw [← eσ5] at hG
      refine lv_aload_n hx hb dX11_fail_26 rfl (lv_at hl 0 rfl) ?_
      obtain ⟨q6, eq6, hf⟩ := zbi hf
      refine z_callV (n := 0) (rest := []) (st1 := [.int q6.1]) (c0 := 11) (i0 := 0) (hZ.2.1 (11, 0) (by decide)) (by rfl) S hG hS hZ (fun _ _ h => h) (c_X11_winner l D aC zs A nl ad σ5 q6.1 q6.2 eq6) zw_1447 zw_1431 zw_1432 zw_2 zw_1433 (by decide +kernel) ⟨rfl, rfl⟩ ⟨(Nat.le_of_ble_eq_true rfl), (Nat.le_of_ble_eq_true rfl)⟩ hl.1 rfl (by rfl) (by rfl) (Nat.le_of_ble_eq_true rfl) dX11_fail_27 ⟨Nat.zero_le _, Nat.zero_le _⟩ (fun H locs hz7 hG hS => ?_)
      obtain ⟨hq1, hq2⟩ := Prod.mk.inj (Option.some.inj hf)
      subst hq1
      subst hq2
      exact z_iret S hG hS hlocks trivial hr dX11_fail_30
    · have hf := zif_p c3 hf
      refine lv_bipush (v := (-2)) hx hb dX11_fail_8 (by decide) ?_
      obtain ⟨hq1, hq2⟩ := Prod.mk.inj (Option.some.inj hf)
      subst hq1
      subst hq2
      exact z_iret S hG hS hlocks trivial hr dX11_fail_10
  exact hK0 _ _ ls hG hS hl hf
set_option maxRecDepth 100000 in
set_option maxHeartbeats 4000000 in
theorem c_X11_pay (l : Launch) (D : va_G) (aC : Nat → ClassId) (zs : Nat × Nat) (A : Nat → Prop) (nl : zNL) (ad : Nat → Nat → Nat → Nat) (σ : zM)  (r : Int32) (σ' : zM)  (hf : f_X11_pay σ = some (r, σ')) : Met l yX11_pay (Cond.code yX11_pay cX11_pay 4 (some .int) :: wsL_law) ({ frames := 7, cells := 0, slots := 0, locals := 161 } : Room) (zP D aC zs zfX A nl ad σ [.ref (ad 11 0 0)]) (zQ (some (.int r)) (fun t => zG D aC A nl ad σ' t t.heap ∧ True) A) 0 0 A := by
  refine Met.ofW (cc := cX11_pay) (maxL := 4) (ret := (some .int)) (by decide) rfl ?_
  intro p e s m args below meth c s₁ B hml hv
  obtain ⟨rfl, hG, hZ⟩ := hv
  have hx := B.exec
  have hb := B.bytes
  have hr := B.returns
  have hts : ∀ w ∈ wsL_law, w.before ([.ref (ad 11 0 0)] : List Value).toArray s = true := fun w h => (atoms_spec B.pre) w (List.mem_cons_of_mem _ h)
  have hown : s.vm.findClass RX11 = some m.cls := findClass_of_methodNamed B.named
  have hlocks := B.notSynchronized
  have S : zS p m c cX11_pay 4 s ([.ref (ad 11 0 0)] : List Value).toArray RX11 := ⟨hx, hb, hml, hown, hts⟩
  have hS : va_S A s.heap s.heap [] := va_S.rf
  have hl := lv_entry ([.ref (ad 11 0 0)]) (n := 4) (Nat.le_of_ble_eq_true rfl)
  rw [lg_entry_eq]
  generalize (lg_sl ([.ref (ad 11 0 0)]) ++ List.replicate (4 - (lg_sl ([.ref (ad 11 0 0)])).length) Slot.unset).toArray = ls at hl ⊢
  have hl : lv_has ls 4 [(0, .ref (ad 11 0 0))] := hl
  generalize hargs : ([.ref (ad 11 0 0)] : List Value).toArray = args at S hts ⊢
  clear hargs
  have hK0 : ∀ (H : Heap) (locs : List Loc) (ls : Array Slot), zG D aC A nl ad σ s H → va_S A s.heap H locs → lv_has ls 4 [(0, .ref (ad 11 0 0))] → f_X11_pay σ = some (r, σ') → zWk p l e ({ frames := 7, cells := 0, slots := 0, locals := 161 } : Room) s m args below meth c A (some (.int r)) (fun t => zG D aC A nl ad σ' t t.heap ∧ True) H locs (F0 m 0 ls []) := by
    intro H locs ls hG hS hl hf
    unfold f_X11_pay at hf
    refine lv_aload_n hx hb dX11_pay_0 rfl (lv_at hl 0 rfl) ?_
    refine lv_aload_n hx hb dX11_pay_1 rfl (lv_at hl 0 rfl) ?_
    obtain ⟨q1, eq1, hf⟩ := zbi hf
    refine z_callV (n := 0) (rest := [.ref (ad 11 0 0)]) (st1 := [.int q1.1, .ref (ad 11 0 0)]) (c0 := 11) (i0 := 0) (hZ.2.1 (11, 0) (by decide)) (by rfl) S hG hS hZ (fun _ _ h => h) (c_X11_winner l D aC zs A nl ad σ q1.1 q1.2 eq1) zw_1447 zw_1431 zw_1432 zw_2 zw_1433 (by decide +kernel) ⟨rfl, rfl⟩ ⟨(Nat.le_of_ble_eq_true rfl), (Nat.le_of_ble_eq_true rfl)⟩ hl.1 rfl (by rfl) (by rfl) (Nat.le_of_ble_eq_true rfl) dX11_pay_2 ⟨Nat.zero_le _, Nat.zero_le _⟩ (fun H locs hz2 hG hS => ?_)
    obtain ⟨r3, er3, hf⟩ := zbi hf
    refine z_callV (n := 1) (rest := []) (st1 := [va_rf (Option.map (fun j => ad 7 j 0) r3)]) (c0 := 11) (i0 := 0) (hZ.2.1 (11, 0) (by decide)) (by rfl) S hG hS hZ (fun _ _ h => h) (c_X11_schemeAt l D aC zs A nl ad q1.2 q1.1 r3 er3) zw_806 zw_807 zw_808 zw_2 zw_809 (by decide +kernel) ⟨rfl, rfl⟩ ⟨(Nat.le_of_ble_eq_true rfl), (Nat.le_of_ble_eq_true rfl)⟩ hl.1 rfl (by rfl) (by rfl) (Nat.le_of_ble_eq_true rfl) dX11_pay_5 ⟨Nat.zero_le _, Nat.zero_le _⟩ (fun H locs hz4 hG hS => ?_)
    rcases hE6 : r3 with _ | j5
    · have hf := znu_n0 hE6 hf
      refine W.eq (g2 := F0 m 8 ls [.null]) (by first | rfl | (rw [hE6]; rfl)) ?_
      refine lv_astore_nN (lv' := [(1, .null), (0, .ref (ad 11 0 0))]) hx hb dX11_pay_8 rfl hl (by decide) rfl (fun ls hl => ?_)
      refine lv_aload_nN hx hb dX11_pay_9 rfl (lv_at hl 0 rfl) ?_
      refine lv_ifnullN (tgt := 21) hx hb dX11_pay_10 (by decide) ?_
      refine lv_iconst (v := (-1)) hx hb dX11_pay_21 (by decide) ?_
      obtain ⟨hq1, hq2⟩ := Prod.mk.inj (Option.some.inj hf)
      subst hq1
      subst hq2
      exact z_iret S hG hS hlocks trivial hr dX11_pay_22
    · have hf := znu_s0 hE6 hf
      refine W.eq (g2 := F0 m 8 ls [.ref (ad 7 j5 0)]) (by first | rfl | (rw [hE6]; rfl)) ?_
      refine lv_astore_n (lv' := [(1, .ref (ad 7 j5 0)), (0, .ref (ad 11 0 0))]) hx hb dX11_pay_8 rfl hl (by decide) rfl (fun ls hl => ?_)
      refine lv_aload_n hx hb dX11_pay_9 rfl (lv_at hl 0 rfl) ?_
      refine lv_ifnull hx hb dX11_pay_10 ?_
      refine lv_aload_n hx hb dX11_pay_13 rfl (lv_at hl 1 rfl) ?_
      refine z_get (c0 := 11) (i0 := 0) (k0 := 17) (T := TX11) (v := .int (zI q1.2 11 0 17)) S hG (hZ.2.1 (11, 0) (by decide)) rfl inlX11 (by decide) rfl zw_55 rfl dX11_pay_14 ?_
      refine lv_iconst (v := 3) hx hb dX11_pay_17 (by decide) ?_
      refine lv_icmp_lt (tgt := 23) hx hb dX11_pay_18 (by decide) (fun c7 => ?_) (fun c7 => ?_)
      · have hf := zif_p c7 hf
        refine lv_aload_n hx hb dX11_pay_23 rfl (lv_at hl 1 rfl) ?_
        refine z_get (c0 := 11) (i0 := 0) (k0 := 2) (T := TX11) (v := .ref (ad 1 0 0)) S hG (hZ.2.1 (11, 0) (by decide)) rfl inlX11 (by decide) rfl zw_24 rfl dX11_pay_24 ?_
        refine lv_aload_n hx hb dX11_pay_27 rfl (lv_at hl 1 rfl) ?_
        refine z_get (c0 := 11) (i0 := 0) (k0 := 10) (T := TX11) (v := .int (zI q1.2 11 0 10)) S hG (hZ.2.1 (11, 0) (by decide)) rfl inlX11 (by decide) rfl zw_48 rfl dX11_pay_28 ?_
        obtain ⟨r8, er8, hf⟩ := zbi hf
        refine z_callV (n := 1) (rest := []) (st1 := [.ref (ad 0 r8 0)]) (c0 := 1) (i0 := 0) (hZ.2.1 (1, 0) (by decide)) (by rfl) S hG hS hZ (fun _ _ h => h) (c_X1_on l D aC zs A nl ad q1.2 (zI q1.2 11 0 10) r8 er8) zw_697 zw_698 zw_699 zw_23 zw_700 (by decide +kernel) ⟨rfl, rfl⟩ ⟨(Nat.le_of_ble_eq_true rfl), (Nat.le_of_ble_eq_true rfl)⟩ hl.1 rfl (by rfl) (by rfl) (Nat.le_of_ble_eq_true rfl) dX11_pay_31 ⟨Nat.zero_le _, Nat.zero_le _⟩ (fun H locs hz9 hG hS => ?_)
        refine lv_bipush (v := 8) hx hb dX11_pay_34 (by decide) ?_
        refine lv_aload_n hx hb dX11_pay_36 rfl (lv_at hl 1 rfl) ?_
        refine z_get (c0 := 11) (i0 := 0) (k0 := 17) (T := TX11) (v := .int (zI q1.2 11 0 17)) S hG (hZ.2.1 (11, 0) (by decide)) rfl inlX11 (by decide) rfl zw_55 rfl dX11_pay_37 ?_
        refine lv_iadd hx hb dX11_pay_40 ?_
        obtain ⟨r10, er10, hf⟩ := zbi hf
        refine z_callV (n := 1) (rest := []) (st1 := [.int r10]) (c0 := 0) (i0 := r8) hz9 (by rfl) S hG hS hZ (fun _ _ h => h) (c_X0_term l D aC zs A nl ad q1.2 r8 (8 + (zI q1.2 11 0 17)) r10 hz9 er10) zw_702 zw_703 zw_704 zw_76 zw_705 (by decide +kernel) ⟨rfl, rfl⟩ ⟨(Nat.le_of_ble_eq_true rfl), (Nat.le_of_ble_eq_true rfl)⟩ hl.1 rfl (by rfl) (by rfl) (Nat.le_of_ble_eq_true rfl) dX11_pay_41 ⟨Nat.zero_le _, Nat.zero_le _⟩ (fun H locs hz11 hG hS => ?_)
        refine lv_istore_n (lv' := [(2, .int r10), (1, .ref (ad 7 j5 0)), (0, .ref (ad 11 0 0))]) hx hb dX11_pay_44 rfl hl (by decide) rfl (fun ls hl => ?_)
        refine lv_aload_n hx hb dX11_pay_45 rfl (lv_at hl 1 rfl) ?_
        refine lv_aload_n hx hb dX11_pay_46 rfl (lv_at hl 2 rfl) ?_
        refine lv_aload_n hx hb dX11_pay_47 rfl (lv_at hl 1 rfl) ?_
        obtain ⟨r12, er12, hf⟩ := zbi hf
        refine z_callV (n := 1) (rest := [.ref (ad 7 j5 0)]) (st1 := [.ref (ad 0 r12 0), .ref (ad 7 j5 0)]) (c0 := 11) (i0 := 0) (hZ.2.1 (11, 0) (by decide)) (by rfl) S hG hS hZ (fun _ _ h => h) (c_X11_briefOf l D aC zs A nl ad q1.2 j5 r12 (hz4 j5 hE6) er12) zw_974 zw_975 zw_976 zw_2 zw_977 (by decide +kernel) ⟨rfl, rfl⟩ ⟨(Nat.le_of_ble_eq_true rfl), (Nat.le_of_ble_eq_true rfl)⟩ hl.1 rfl (by rfl) (by rfl) (Nat.le_of_ble_eq_true rfl) dX11_pay_48 ⟨Nat.zero_le _, Nat.zero_le _⟩ (fun H locs hz13 hG hS => ?_)
        obtain ⟨r14, er14, hf⟩ := zbi hf
        refine z_callV (n := 1) (rest := []) (st1 := [.int r14]) (c0 := 7) (i0 := j5) (hz4 j5 hE6) (by rfl) S hG hS hZ (fun _ _ h => h) (c_X7_costBy l D aC zs A nl ad q1.2 j5 r12 r14 (hz4 j5 hE6) hz13 er14) zw_950 zw_951 zw_952 zw_783 zw_953 (by decide +kernel) ⟨rfl, rfl⟩ ⟨(Nat.le_of_ble_eq_true rfl), (Nat.le_of_ble_eq_true rfl)⟩ hl.1 rfl (by rfl) (by rfl) (Nat.le_of_ble_eq_true rfl) dX11_pay_51 ⟨Nat.zero_le _, Nat.zero_le _⟩ (fun H locs hz15 hG hS => ?_)
        refine lv_iload_n hx hb dX11_pay_54 rfl (lv_at hl 0 rfl) ?_
        refine lv_imul hx hb dX11_pay_55 ?_
        refine lv_bipush (v := 100) hx hb dX11_pay_56 (by decide) ?_
        refine lv_idiv hx hb dX11_pay_58 (by decide) ?_
        refine lv_istore_n (lv' := [(3, .int ((r14 * r10) / 100)), (2, .int r10), (1, .ref (ad 7 j5 0)), (0, .ref (ad 11 0 0))]) hx hb dX11_pay_59 rfl hl (by decide) rfl (fun ls hl => ?_)
        refine lv_aload_n hx hb dX11_pay_60 rfl (lv_at hl 3 rfl) ?_
        refine lv_dup hx hb dX11_pay_61 rfl ?_
        refine z_get (c0 := 11) (i0 := 0) (k0 := 18) (T := TX11) (v := .int (zI q1.2 11 0 18)) S hG (hZ.2.1 (11, 0) (by decide)) rfl inlX11 (by decide) rfl zw_56 rfl dX11_pay_62 ?_
        refine lv_iload_n hx hb dX11_pay_65 rfl (lv_at hl 0 rfl) ?_
        refine lv_iadd hx hb dX11_pay_66 ?_
        refine z_putI (c0 := 11) (i0 := 0) (k0 := 18) (T := TX11) S hG hS tyX11 tyX11_ok nmX11 (hZ.2.1 (11, 0) (by decide)) rfl inlX11 (by decide) rfl rfl zw_56 (by decide +kernel) rfl dX11_pay_67 (fun H locs hG hS => ?_)
        obtain ⟨σ16, eσ16, hf⟩ := zlt_s hf
        rw [← eσ16] at hG
        refine lv_aload_n hx hb dX11_pay_70 rfl (lv_at hl 3 rfl) ?_
        refine lv_dup hx hb dX11_pay_71 rfl ?_
        refine z_get (c0 := 11) (i0 := 0) (k0 := 17) (T := TX11) (v := .int (zI σ16 11 0 17)) S hG (hZ.2.1 (11, 0) (by decide)) rfl inlX11 (by decide) rfl zw_55 rfl dX11_pay_72 ?_
        refine lv_iconst (v := 1) hx hb dX11_pay_75 (by decide) ?_
        refine lv_iadd hx hb dX11_pay_76 ?_
        refine z_putI (c0 := 11) (i0 := 0) (k0 := 17) (T := TX11) S hG hS tyX11 tyX11_ok nmX11 (hZ.2.1 (11, 0) (by decide)) rfl inlX11 (by decide) rfl rfl zw_55 (by decide +kernel) rfl dX11_pay_77 (fun H locs hG hS => ?_)
        obtain ⟨σ17, eσ17, hf⟩ := zlt_s hf
        rw [← eσ17] at hG
        refine lv_iload_n hx hb dX11_pay_80 rfl (lv_at hl 0 rfl) ?_
        obtain ⟨hq1, hq2⟩ := Prod.mk.inj (Option.some.inj hf)
        subst hq1
        subst hq2
        exact z_iret S hG hS hlocks trivial hr dX11_pay_81
      · have hf := zif_n c7 hf
        refine lv_iconst (v := (-1)) hx hb dX11_pay_21 (by decide) ?_
        obtain ⟨hq1, hq2⟩ := Prod.mk.inj (Option.some.inj hf)
        subst hq1
        subst hq2
        exact z_iret S hG hS hlocks trivial hr dX11_pay_22
  exact hK0 _ _ ls hG hS hl hf
set_option maxRecDepth 100000 in
set_option maxHeartbeats 4000000 in
theorem c_X11_handedIn (l : Launch) (D : va_G) (aC : Nat → ClassId) (zs : Nat × Nat) (A : Nat → Prop) (nl : zNL) (ad : Nat → Nat → Nat → Nat) (σ : zM)  (r : Int32)  (hf : f_X11_handedIn σ = some r) : Met l yX11_handedIn (Cond.code yX11_handedIn cX11_handedIn 4 (some .int) :: wsL_law) ({ frames := 1, cells := 0, slots := 0, locals := 21 } : Room) (zP D aC zs zfX A nl ad σ [.ref (ad 11 0 0)]) (zQ (some (.int r)) (fun t => zG D aC A nl ad σ t t.heap ∧ True) A) 0 0 A := by
  refine Met.ofW (cc := cX11_handedIn) (maxL := 4) (ret := (some .int)) (by decide) rfl ?_
  intro p e s m args below meth c s₁ B hml hv
  obtain ⟨rfl, hG, hZ⟩ := hv
  have hx := B.exec
  have hb := B.bytes
  have hr := B.returns
  have hts : ∀ w ∈ wsL_law, w.before ([.ref (ad 11 0 0)] : List Value).toArray s = true := fun w h => (atoms_spec B.pre) w (List.mem_cons_of_mem _ h)
  have hown : s.vm.findClass RX11 = some m.cls := findClass_of_methodNamed B.named
  have hlocks := B.notSynchronized
  have S : zS p m c cX11_handedIn 4 s ([.ref (ad 11 0 0)] : List Value).toArray RX11 := ⟨hx, hb, hml, hown, hts⟩
  have hS : va_S A s.heap s.heap [] := va_S.rf
  have hl := lv_entry ([.ref (ad 11 0 0)]) (n := 4) (Nat.le_of_ble_eq_true rfl)
  rw [lg_entry_eq]
  generalize (lg_sl ([.ref (ad 11 0 0)]) ++ List.replicate (4 - (lg_sl ([.ref (ad 11 0 0)])).length) Slot.unset).toArray = ls at hl ⊢
  have hl : lv_has ls 4 [(0, .ref (ad 11 0 0))] := hl
  generalize hargs : ([.ref (ad 11 0 0)] : List Value).toArray = args at S hts ⊢
  clear hargs
  have hK0 : ∀ (H : Heap) (locs : List Loc) (ls : Array Slot), zG D aC A nl ad σ s H → va_S A s.heap H locs → lv_has ls 4 [(0, .ref (ad 11 0 0))] → f_X11_handedIn σ = some r → zWk p l e ({ frames := 1, cells := 0, slots := 0, locals := 21 } : Room) s m args below meth c A (some (.int r)) (fun t => zG D aC A nl ad σ t t.heap ∧ True) H locs (F0 m 0 ls []) := by
    intro H locs ls hG hS hl hf
    unfold f_X11_handedIn at hf
    refine lv_iconst (v := 0) hx hb dX11_handedIn_0 (by decide) ?_
    refine lv_istore_n (lv' := [(1, .int 0), (0, .ref (ad 11 0 0))]) hx hb dX11_handedIn_1 rfl hl (by decide) rfl (fun ls hl => ?_)
    refine lv_iconst (v := 0) hx hb dX11_handedIn_2 (by decide) ?_
    refine lv_istore_n (lv' := [(2, .int 0), (1, .int 0), (0, .ref (ad 11 0 0))]) hx hb dX11_handedIn_3 rfl hl (by decide) rfl (fun ls hl => ?_)
    obtain ⟨t4, hw4, hfo4⟩ := zbi hf
    have KL4 : ∀ (n : Nat) (y1l4 : Int32) (y2l4 : Int32) (H : Heap) (locs : List Loc) (ls : Array Slot), zG D aC A nl ad σ s H → va_S A s.heap H locs → lv_has ls 4 [(0, .ref (ad 11 0 0)), (1, .int y1l4), (2, .int y2l4)] → zwh (fun (q : (Int32 × Int32)) => f_X11_handedIn_L4 σ q.1 q.2) n (y1l4, y2l4) = some t4 → zWk p l e ({ frames := 1, cells := 0, slots := 0, locals := 21 } : Room) s m args below meth c A (some (.int r)) (fun t => zG D aC A nl ad σ t t.heap ∧ True) H locs (F0 m 4 ls []) := by
      intro n
      induction n with
      | zero =>
        intro y1l4 y2l4 H locs ls hG hS hl hw
        exact (zwh_0 hw).elim
      | succ n ih4 =>
        intro y1l4 y2l4 H locs ls hG hS hl hw
        obtain ⟨rr4, hf, hk4⟩ := zwh_u hw
        have hf : f_X11_handedIn_L4 σ y1l4 y2l4 = some rr4 := hf
        unfold f_X11_handedIn_L4 at hf
        have KJ32_4 : ∀ (y1b32 : Int32) (y2b32 : Int32)   (H : Heap) (locs : List Loc) (ls : Array Slot), zG D aC A nl ad σ s H → va_S A s.heap H locs → lv_has ls 4 [(0, .ref (ad 11 0 0)), (1, .int y1b32), (2, .int y2b32)] → (f_X11_handedIn_B32_4 σ y1b32 y2b32) = some rr4 → zWk p l e ({ frames := 1, cells := 0, slots := 0, locals := 21 } : Room) s m args below meth c A (some (.int r)) (fun t => zG D aC A nl ad σ t t.heap ∧ True) H locs (F0 m 32 ls []) := by
          intro y1b32 y2b32   H locs ls hG hS hl hf
          unfold f_X11_handedIn_B32_4 at hf
          refine lv_iinc (v := (y2b32 + 1)) (lv' := [(2, .int (y2b32 + 1)), (0, .ref (ad 11 0 0)), (1, .int y1b32)]) hx hb dX11_handedIn_32 hl (k := 2) rfl rfl (by decide) rfl (fun ls hl => ?_)
          refine lv_goto (tgt := 4) hx hb dX11_handedIn_35 (by decide) ?_
          cases hf
          exact ih4 y1b32 (y2b32 + 1) H locs ls hG hS (lv_sub hl [1, 2, 0] rfl) hk4
        refine lv_iload_n hx hb dX11_handedIn_4 rfl (lv_at hl 2 rfl) ?_
        refine lv_aload_n hx hb dX11_handedIn_5 rfl (lv_at hl 0 rfl) ?_
        refine z_get (c0 := 11) (i0 := 0) (k0 := 12) (T := TX11) (v := .int (zI σ 11 0 12)) S hG (hZ.2.1 (11, 0) (by decide)) rfl inlX11 (by decide) rfl zw_50 rfl dX11_handedIn_6 ?_
        refine lv_icmp_ge (tgt := 38) hx hb dX11_handedIn_9 (by decide) (fun c8 => ?_) (fun c8 => ?_)
        · have hf := zif_p c8 hf
          cases hf
          have hk4 : (y1l4 : Int32) = t4 := hk4
          have hf := hfo4
          rw [← hk4] at hf
          have hf : (some y1l4) = some r := hf
          refine lv_iload_n hx hb dX11_handedIn_38 rfl (lv_at hl 1 rfl) ?_
          have hq := (Option.some.inj hf)
          subst hq
          exact z_iret S hG hS hlocks trivial hr dX11_handedIn_39
        · have hf := zif_n c8 hf
          refine lv_aload_n hx hb dX11_handedIn_12 rfl (lv_at hl 0 rfl) ?_
          refine lv_iload_n hx hb dX11_handedIn_13 rfl (lv_at hl 2 rfl) ?_
          obtain ⟨r9, er9, hf⟩ := zbi hf
          refine z_callV (n := 1) (rest := []) (st1 := [va_rf (Option.map (fun j => ad 7 j 0) r9)]) (c0 := 11) (i0 := 0) (hZ.2.1 (11, 0) (by decide)) (by rfl) S hG hS hZ (fun _ _ h => h) (c_X11_schemeAt l D aC zs A nl ad σ y2l4 r9 er9) zw_806 zw_807 zw_808 zw_2 zw_809 (by decide +kernel) ⟨rfl, rfl⟩ ⟨(Nat.le_of_ble_eq_true rfl), (Nat.le_of_ble_eq_true rfl)⟩ hl.1 rfl (by rfl) (by rfl) (Nat.le_of_ble_eq_true rfl) dX11_handedIn_14 ⟨Nat.zero_le _, Nat.zero_le _⟩ (fun H locs hz10 hG hS => ?_)
          rcases hE12 : r9 with _ | j11
          · have hf := znu_n0 hE12 hf
            refine W.eq (g2 := F0 m 17 ls [.null]) (by first | rfl | (rw [hE12]; rfl)) ?_
            refine lv_astore_nN (lv' := [(3, .null), (0, .ref (ad 11 0 0)), (1, .int y1l4), (2, .int y2l4)]) hx hb dX11_handedIn_17 rfl hl (by decide) rfl (fun ls hl => ?_)
            refine lv_aload_nN hx hb dX11_handedIn_18 rfl (lv_at hl 0 rfl) ?_
            refine lv_ifnullN (tgt := 32) hx hb dX11_handedIn_19 (by decide) ?_
            exact KJ32_4 y1l4 y2l4 H locs ls hG hS (lv_sub hl [1, 2, 3] rfl) hf
          · have hf := znu_s0 hE12 hf
            refine W.eq (g2 := F0 m 17 ls [.ref (ad 7 j11 0)]) (by first | rfl | (rw [hE12]; rfl)) ?_
            refine lv_astore_n (lv' := [(3, .ref (ad 7 j11 0)), (0, .ref (ad 11 0 0)), (1, .int y1l4), (2, .int y2l4)]) hx hb dX11_handedIn_17 rfl hl (by decide) rfl (fun ls hl => ?_)
            refine lv_aload_n hx hb dX11_handedIn_18 rfl (lv_at hl 0 rfl) ?_
            refine lv_ifnull hx hb dX11_handedIn_19 ?_
            refine lv_aload_n hx hb dX11_handedIn_22 rfl (lv_at hl 0 rfl) ?_
            refine z_callV (n := 0) (rest := []) (st1 := [.int (f_X7_isHandedIn σ j11)]) (c0 := 7) (i0 := j11) (hz10 j11 hE12) (by rfl) S hG hS hZ (fun _ _ h => h) (c_X7_isHandedIn l D aC zs A nl ad σ j11 (f_X7_isHandedIn σ j11) (hz10 j11 hE12) rfl) zw_810 zw_811 zw_812 zw_783 zw_813 (by decide +kernel) ⟨rfl, rfl⟩ ⟨(Nat.le_of_ble_eq_true rfl), (Nat.le_of_ble_eq_true rfl)⟩ hl.1 rfl (by rfl) (by rfl) (Nat.le_of_ble_eq_true rfl) dX11_handedIn_23 ⟨Nat.zero_le _, Nat.zero_le _⟩ (fun H locs hz13 hG hS => ?_)
            refine lv_if_eq (tgt := 32) hx hb dX11_handedIn_26 (by decide) (fun c14 => ?_) (fun c14 => ?_)
            · have hf := zif_p c14 hf
              exact KJ32_4 y1l4 y2l4 H locs ls hG hS (lv_sub hl [1, 2, 3] rfl) hf
            · have hf := zif_n c14 hf
              refine lv_iinc (v := (y1l4 + 1)) (lv' := [(1, .int (y1l4 + 1)), (3, .ref (ad 7 j11 0)), (0, .ref (ad 11 0 0)), (2, .int y2l4)]) hx hb dX11_handedIn_29 hl (k := 2) rfl rfl (by decide) rfl (fun ls hl => ?_)
              exact KJ32_4 (y1l4 + 1) y2l4 H locs ls hG hS (lv_sub hl [2, 0, 3] rfl) hf
    exact KL4 zFu 0 0 H locs ls hG hS (lv_sub hl [2, 1, 0] rfl) hw4
  exact hK0 _ _ ls hG hS hl hf
