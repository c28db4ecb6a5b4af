theorem zhn {c i : Nat} {nu : List (Nat × Nat × Nat)} (h : ∀ k, (c, i, k) ∉ nu) : ∀ q ∈ nu, (q.1, q.2.1) ∉ [(c, i)] := by
  intro q hq h2
  obtain ⟨a, b, k⟩ := q
  cases List.mem_singleton.mp h2
  exact h k hq
theorem zks_i {c i k c' i' : Nat} {ks : List Nat} {nu : List (Nat × Nat × Nat)} (hne : (c, i) ≠ (c', i')) (h : (c, i, k) ∉ nu) : (c, i, k) ∉ zks c' i' ks nu := by
  intro hm
  rcases List.mem_append.mp hm with hm | hm
  · obtain ⟨k', hk', e⟩ := List.mem_map.mp hm
    cases e
    exact hne rfl
  · exact h hm
theorem zStr_of {N : Nat} {len : List Nat} {byt : List (List Int32)} {adK adV : Nat → Nat} {A : Nat → Prop} {U : State} {H : Heap} (h : vk_S N len byt adK adV A U H) (i : Nat) (hi : i < N) (hl : len.getD i 0 = (byt.getD i []).length) : zStr (adK i) (byt.getD i []) A U H := by
  obtain ⟨h1, h2, h3, h4⟩ := h.1 i hi
  rw [hl] at h4
  exact ⟨h1, h2, adV i, h3, h4⟩
theorem zix_lt {i : Int32} {n j : Nat} (h : zix i n = some j) : j < n := by
  obtain ⟨h1, rfl⟩ := zix_s h
  exact Nat.lt_of_not_le (fun h => h1 (Or.inr h))
theorem zin_app {nl : zNL} {M : List (Nat × Nat × Nat)} {a b : Nat} (h : zin nl a b) : zin (nl.1 ++ M, nl.2) a b := ⟨List.mem_append_left _ h.1, fun k h1 h2 => List.mem_append_left _ (h.2.1 k h1 h2), h.2.2⟩
theorem zfr_n {N : List (Nat × Nat × Nat)} {c i : Nat} (h : ∀ k, (c, i, k) ∉ N) : ∀ k, k ∉ [0] → (c, i, k) ∉ N ++ [(c, i, 0)] := by
  intro k hk hm
  rcases List.mem_append.mp hm with hm | hm
  · exact h k hm
  · cases List.mem_singleton.mp hm
    exact hk (List.mem_singleton.mpr rfl)

def f_X10_pack_B71_8 (σb71_8 : zM) (tx : List Int32) (x2 : Int32) (y3b71 : Int32) (y4b71 : Int64) (y6b71 : Int32) : Option ((Int32 × Int64 × Int32 × zM) ⊕ (Int32 × zM)) := some (.inl (y3b71, y4b71, (y6b71 + 1), σb71_8))
def f_X10_pack_L8 (tx : List Int32) (x2 : Int32) (y3l8 : Int32) (y4l8 : Int64) (y6l8 : Int32) (σl8 : zM) : Option ((Int32 × Int64 × Int32 × zM) ⊕ (Int32 × zM)) := if (Int32.ofNat tx.length) ≤ y6l8 then (some (.inr (y3l8, σl8))) else ((zix y6l8 tx.length).bind fun i2 => if (tx.getD i2 0) = 32 then (if y3l8 < 0 then (f_X10_pack_B71_8 σl8 tx x2 y3l8 y4l8 y6l8) else (if 36 ≤ y3l8 then (f_X10_pack_B71_8 σl8 tx x2 y3l8 y4l8 y6l8) else ((zix y3l8 36).bind fun i6 => zlt (zsL σl8 10 0 0 i6 y4l8) fun σ7 => f_X10_pack_B71_8 σ7 tx x2 (y3l8 + 1) 0 y6l8))) else (f_X10_pack_B71_8 σl8 tx x2 y3l8 (f_X10_join y4l8 (tx.getD i2 0)) y6l8))
def f_X10_pack (σ : zM) (tx : List Int32) (x2 : Int32) : Option (Int32 × zM) := (zwh (fun (q : (Int32 × Int64 × Int32 × zM)) => f_X10_pack_L8 tx x2 q.1 q.2.1 q.2.2.1 q.2.2.2) zFu (x2, 0, 0, σ)).bind fun q => some (q.1, q.2)
def f_X10_init (σ : zM) : Option zM := zlt (zclA σ 10 0 0) fun σ1 => (f_X10_pack σ1 (zTb.getD 0 []) 0).bind fun q2 => (f_X10_pack q2.2 (zTb.getD 1 []) q2.1).bind fun q3 => (f_X10_pack q3.2 (zTb.getD 2 []) q3.1).bind fun q4 => some q4.2
def f_X4_init (σ : zM) : Option zM := zlt (zclr σ 10 0) fun σ1 => (f_X10_init σ1).bind fun σ2 => zlt (zclA σ2 4 0 3) fun σ3 => zlt (zclA σ3 4 0 4) fun σ4 => zlt (zclA σ4 4 0 5) fun σ5 => zlt (zclA σ5 4 0 6) fun σ6 => zlt (zclr σ6 0 8) fun σ7 => (f_X0_init8 σ7).bind fun σ8 => zlt (zsR σ8 4 0 7 (some 8)) fun σ9 => zlt (zsI σ9 4 0 8 0) fun σ10 => zlt (zsI σ10 4 0 9 0) fun σ11 => some σ11
def f_X11_init (σ : zM) : Option zM := zlt (zclr σ 9 0) fun σ1 => zlt (f_X9_init σ1) fun σ2 => zlt (zclr σ2 5 0) fun σ3 => zlt (f_X5_init σ3) fun σ4 => zlt (zclr σ4 1 0) fun σ5 => (f_X1_init σ5).bind fun σ6 => zlt (zclr σ6 4 0) fun σ7 => (f_X4_init σ7).bind fun σ8 => zlt (zclr σ8 8 0) fun σ9 => zlt (f_X8_init σ9) fun σ10 => zlt (zclr σ10 3 0) fun σ11 => zlt (f_X3_init σ11) fun σ12 => zlt (zclr σ12 2 0) fun σ13 => (f_X2_init σ13).bind fun σ14 => zlt (zclA σ14 11 0 7) fun σ15 => zlt (zclr σ15 6 0) fun σ16 => zlt (f_X6_init σ16 0) fun σ17 => zlt (zclr σ17 6 1) fun σ18 => zlt (f_X6_init σ18 1) fun σ19 => zlt (zsI σ19 11 0 10 0) fun σ20 => zlt (zsI σ20 11 0 11 (-1)) fun σ21 => zlt (zsI σ21 11 0 12 0) fun σ22 => zlt (zsJ σ22 11 0 13 0) fun σ23 => zlt (zsI σ23 11 0 14 0) fun σ24 => zlt (zsI σ24 11 0 15 0) fun σ25 => zlt (zsI σ25 11 0 16 0) fun σ26 => zlt (zsI σ26 11 0 17 0) fun σ27 => zlt (zsI σ27 11 0 18 0) fun σ28 => some σ28
set_option maxRecDepth 100000 in
set_option maxHeartbeats 4000000 in
theorem c_X10_pack (l : Launch) (D : va_G) (aC : Nat → ClassId) (zs : Nat × Nat) (A : Nat → Prop) (nl : zNL) (ad : Nat → Nat → Nat → Nat) (σ : zM) (ks : Nat) (tx : List Int32) (x2 : Int32) (r : Int32) (σ' : zM)  (h_this : zin nl 10 0) (hn : tx.length < 2147483648) (hch : ∀ j, j < tx.length → zCh (tx.getD j 0)) (hf : f_X10_pack σ tx x2 = some (r, σ')) : Met l yX10_pack (Cond.code yX10_pack cX10_pack 8 (some .int) :: wsL_law) ({ frames := 4, cells := 0, slots := 0, locals := 85 } : Room) (zPe D aC zs A nl ad σ (zStr ks tx A) [.ref (ad 10 0 0), .ref ks, .int x2]) (zQ (some (.int r)) (fun t => zG D aC A nl ad σ' t t.heap ∧ True) A) 0 0 A := by
  refine Met.ofW (cc := cX10_pack) (maxL := 8) (ret := (some .int)) (by decide) rfl ?_
  intro p e s m args below meth c s₁ B hml hv
  obtain ⟨rfl, ⟨hG, hZ⟩, hT⟩ := hv
  have hx := B.exec
  have hb := B.bytes
  have hr := B.returns
  have hts : ∀ w ∈ wsL_law, w.before ([.ref (ad 10 0 0), .ref ks, .int x2] : List Value).toArray s = true := fun w h => (atoms_spec B.pre) w (List.mem_cons_of_mem _ h)
  have hown : s.vm.findClass RX10 = some m.cls := findClass_of_methodNamed B.named
  have hlocks := B.notSynchronized
  have S : zS p m c cX10_pack 8 s ([.ref (ad 10 0 0), .ref ks, .int x2] : List Value).toArray RX10 := ⟨hx, hb, hml, hown, hts⟩
  have hS : va_S A s.heap s.heap [] := va_S.rf
  have hl := lv_entry ([.ref (ad 10 0 0), .ref ks, .int x2]) (n := 8) (Nat.le_of_ble_eq_true rfl)
  rw [lg_entry_eq]
  generalize (lg_sl ([.ref (ad 10 0 0), .ref ks, .int x2]) ++ List.replicate (8 - (lg_sl ([.ref (ad 10 0 0), .ref ks, .int x2])).length) Slot.unset).toArray = ls at hl ⊢
  have hl : lv_has ls 8 [(0, .ref (ad 10 0 0)), (1, .ref ks), (2, .int x2)] := hl
  generalize hargs : ([.ref (ad 10 0 0), .ref ks, .int x2] : List Value).toArray = args at S hts ⊢
  clear hargs
  have hK0 : ∀ (H : Heap) (locs : List Loc) (ls : Array Slot), zG D aC A nl ad σ s H → va_S A s.heap H locs → lv_has ls 8 [(0, .ref (ad 10 0 0)), (1, .ref ks), (2, .int x2)] → f_X10_pack σ tx x2 = some (r, σ') → zWk p l e ({ frames := 4, cells := 0, slots := 0, locals := 85 } : Room) s m args below meth c A (some (.int r)) (fun t => zG D aC A nl ad σ' t t.heap ∧ True) H locs (F0 m 0 ls []) := by
    intro H locs ls hG hS hl hf
    unfold f_X10_pack at hf
    refine lv_iload_n hx hb dX10_pack_0 rfl (lv_at hl 2 rfl) ?_
    refine lv_istore_n (lv' := [(3, .int x2), (0, .ref (ad 10 0 0)), (1, .ref ks), (2, .int x2)]) hx hb dX10_pack_1 rfl hl (by decide) rfl (fun ls hl => ?_)
    refine lv_lconst (v := 0) hx hb dX10_pack_2 (by decide) ?_
    refine lv_lstore (lv' := [(4, .long 0), (3, .int x2), (0, .ref (ad 10 0 0)), (1, .ref ks), (2, .int x2)]) hx hb dX10_pack_3 hl (by decide) rfl (fun ls hl => ?_)
    refine lv_iconst (v := 0) hx hb dX10_pack_5 (by decide) ?_
    refine lv_istore (lv' := [(6, .int 0), (4, .long 0), (3, .int x2), (0, .ref (ad 10 0 0)), (1, .ref ks), (2, .int x2)]) hx hb dX10_pack_6 hl (by decide) rfl (fun ls hl => ?_)
    obtain ⟨t8, hw8, hfo8⟩ := zbi hf
    have KL8 : ∀ (n : Nat) (y3l8 : Int32) (y4l8 : Int64) (y6l8 : Int32) (σl8 : zM) (H : Heap) (locs : List Loc) (ls : Array Slot), zG D aC A nl ad σl8 s H → va_S A s.heap H locs → lv_has ls 8 [(0, .ref (ad 10 0 0)), (1, .ref ks), (2, .int x2), (3, .int y3l8), (4, .long y4l8), (6, .int y6l8)] → zwh (fun (q : (Int32 × Int64 × Int32 × zM)) => f_X10_pack_L8 tx x2 q.1 q.2.1 q.2.2.1 q.2.2.2) n (y3l8, y4l8, y6l8, σl8) = some t8 → zWk p l e ({ frames := 4, cells := 0, slots := 0, locals := 85 } : Room) s m args below meth c A (some (.int r)) (fun t => zG D aC A nl ad σ' t t.heap ∧ True) H locs (F0 m 8 ls []) := by
      intro n
      induction n with
      | zero =>
        intro y3l8 y4l8 y6l8 σl8 H locs ls hG hS hl hw
        exact (zwh_0 hw).elim
      | succ n ih8 =>
        intro y3l8 y4l8 y6l8 σl8 H locs ls hG hS hl hw
        obtain ⟨rr8, hf, hk8⟩ := zwh_u hw
        have hf : f_X10_pack_L8 tx x2 y3l8 y4l8 y6l8 σl8 = some rr8 := hf
        unfold f_X10_pack_L8 at hf
        have KJ71_8 : ∀ (y3b71 : Int32) (y4b71 : Int64) (y6b71 : Int32)  (σb71_8 : zM) (H : Heap) (locs : List Loc) (ls : Array Slot), zG D aC A nl ad σb71_8 s H → va_S A s.heap H locs → lv_has ls 8 [(0, .ref (ad 10 0 0)), (1, .ref ks), (2, .int x2), (3, .int y3b71), (4, .long y4b71), (6, .int y6b71)] → (f_X10_pack_B71_8 σb71_8 tx x2 y3b71 y4b71 y6b71) = some rr8 → zWk p l e ({ frames := 4, cells := 0, slots := 0, locals := 85 } : Room) s m args below meth c A (some (.int r)) (fun t => zG D aC A nl ad σ' t t.heap ∧ True) H locs (F0 m 71 ls []) := by
          intro y3b71 y4b71 y6b71  σb71_8 H locs ls hG hS hl hf
          unfold f_X10_pack_B71_8 at hf
          refine lv_iinc (v := (y6b71 + 1)) (lv' := [(6, .int (y6b71 + 1)), (0, .ref (ad 10 0 0)), (1, .ref ks), (2, .int x2), (3, .int y3b71), (4, .long y4b71)]) hx hb dX10_pack_71 hl (k := 5) rfl rfl (by decide) rfl (fun ls hl => ?_)
          refine lv_goto (tgt := 8) hx hb dX10_pack_74 (by decide) ?_
          cases hf
          exact ih8 y3b71 y4b71 (y6b71 + 1) σb71_8 H locs ls hG hS (lv_sub hl [1, 2, 3, 4, 5, 0] rfl) hk8
        refine lv_iload hx hb dX10_pack_8 (lv_at hl 5 rfl) ?_
        refine lv_aload_n hx hb dX10_pack_10 rfl (lv_at hl 1 rfl) ?_
        refine z_callVE (n := 0) (rest := [.int y6l8]) (st1 := [.int (Int32.ofNat tx.length), .int y6l8]) (zStr_sta ks tx A) hT (zStr_recv hT hS) S hG hS hZ (c_J0_length_8abf5 l D aC zs A nl ad σl8 ks tx) zw_131 zw_132 zw_133 zw_134 zw_135 (by decide +kernel) ⟨rfl, rfl⟩ ⟨(Nat.le_of_ble_eq_true rfl), (Nat.le_of_ble_eq_true rfl)⟩ hl.1 rfl (by rfl) (by rfl) (Nat.le_of_ble_eq_true rfl) dX10_pack_11 ⟨Nat.zero_le _, Nat.zero_le _⟩ (fun H locs _ hG hS => ?_)
        refine lv_icmp_ge (tgt := 77) hx hb dX10_pack_14 (by decide) (fun c9 => ?_) (fun c9 => ?_)
        · have hf := zif_p c9 hf
          cases hf
          have hk8 : ((y3l8, σl8) : (Int32 × zM)) = t8 := hk8
          have hf := hfo8
          rw [← hk8] at hf
          have hf : (some (y3l8, σl8)) = some (r, σ') := hf
          refine lv_iload_n hx hb dX10_pack_77 rfl (lv_at hl 3 rfl) ?_
          obtain ⟨hq1, hq2⟩ := Prod.mk.inj (Option.some.inj hf)
          subst hq1
          subst hq2
          exact z_iret S hG hS hlocks trivial hr dX10_pack_78
        · have hf := zif_n c9 hf
          refine lv_aload_n hx hb dX10_pack_17 rfl (lv_at hl 1 rfl) ?_
          refine lv_iload hx hb dX10_pack_18 (lv_at hl 5 rfl) ?_
          obtain ⟨i10, hi10, hf⟩ := zbi hf
          refine z_callVE (n := 1) (rest := []) (st1 := [.int (tx.getD i10 0)]) (zStr_sta ks tx A) hT (zStr_recv hT hS) S hG hS hZ (c_J0_charAt_5068e l D aC zs A nl ad σl8 ks tx y6l8 i10 hi10 hn (hch i10 (zix_lt hi10))) zw_143 zw_144 zw_145 zw_134 zw_146 (by decide +kernel) ⟨rfl, rfl⟩ ⟨(Nat.le_of_ble_eq_true rfl), (Nat.le_of_ble_eq_true rfl)⟩ hl.1 rfl (by rfl) (by rfl) (Nat.le_of_ble_eq_true rfl) dX10_pack_20 ⟨Nat.zero_le _, Nat.zero_le _⟩ (fun H locs _ hG hS => ?_)
          refine lv_istore (lv' := [(7, .int (tx.getD i10 0)), (0, .ref (ad 10 0 0)), (1, .ref ks), (2, .int x2), (3, .int y3l8), (4, .long y4l8), (6, .int y6l8)]) hx hb dX10_pack_23 hl (by decide) rfl (fun ls hl => ?_)
          refine lv_iload hx hb dX10_pack_25 (lv_at hl 0 rfl) ?_
          refine lv_bipush (v := 32) hx hb dX10_pack_27 (by decide) ?_
          refine lv_icmp_eq (tgt := 44) hx hb dX10_pack_29 (by decide) (fun c11 => ?_) (fun c11 => ?_)
          · have hf := zif_p c11 hf
            refine lv_iload_n hx hb dX10_pack_44 rfl (lv_at hl 4 rfl) ?_
            refine lv_if_lt (tgt := 71) hx hb dX10_pack_45 (by decide) (fun c12 => ?_) (fun c12 => ?_)
            · have hf := zif_p c12 hf
              exact KJ71_8 y3l8 y4l8 y6l8 σl8 H locs ls hG hS (lv_sub hl [1, 2, 3, 4, 5, 6] rfl) hf
            · have hf := zif_n c12 hf
              refine lv_iload_n hx hb dX10_pack_48 rfl (lv_at hl 4 rfl) ?_
              refine lv_aload_n hx hb dX10_pack_49 rfl (lv_at hl 1 rfl) ?_
              refine z_get (c0 := 10) (i0 := 0) (k0 := 0) (T := TX10) (v := .ref (ad 10 0 1)) S hG h_this rfl inlX10 (by decide) rfl zw_126 rfl dX10_pack_50 ?_
              refine z_alen (c0 := 10) (i0 := 0) (k0 := 0) (n := 7) (v := 36) S hG h_this (by decide) rfl (by decide) (by rfl) dX10_pack_53 ?_
              refine lv_icmp_ge (tgt := 71) hx hb dX10_pack_54 (by decide) (fun c13 => ?_) (fun c13 => ?_)
              · have hf := zif_p c13 hf
                exact KJ71_8 y3l8 y4l8 y6l8 σl8 H locs ls hG hS (lv_sub hl [1, 2, 3, 4, 5, 6] rfl) hf
              · have hf := zif_n c13 hf
                refine lv_aload_n hx hb dX10_pack_57 rfl (lv_at hl 1 rfl) ?_
                refine z_get (c0 := 10) (i0 := 0) (k0 := 0) (T := TX10) (v := .ref (ad 10 0 1)) S hG h_this rfl inlX10 (by decide) rfl zw_126 rfl dX10_pack_58 ?_
                refine lv_iload_n hx hb dX10_pack_61 rfl (lv_at hl 4 rfl) ?_
                refine lv_lload hx hb dX10_pack_62 (lv_at hl 5 rfl) ?_
                obtain ⟨i14, hi14, hf⟩ := zbi hf
                refine z_last (c0 := 10) (i0 := 0) (k0 := 0) S hG hS h_this (by decide) rfl hi14 dX10_pack_64 (fun H locs hG hS => ?_)
                obtain ⟨σ15, eσ15, hf⟩ := zlt_s hf
                rw [← eσ15] at hG
                refine lv_iinc (v := (y3l8 + 1)) (lv' := [(3, .int (y3l8 + 1)), (7, .int (tx.getD i10 0)), (0, .ref (ad 10 0 0)), (1, .ref ks), (2, .int x2), (4, .long y4l8), (6, .int y6l8)]) hx hb dX10_pack_65 hl (k := 4) rfl rfl (by decide) rfl (fun ls hl => ?_)
                refine lv_lconst (v := 0) hx hb dX10_pack_68 (by decide) ?_
                refine lv_lstore (lv' := [(4, .long 0), (3, .int (y3l8 + 1)), (7, .int (tx.getD i10 0)), (0, .ref (ad 10 0 0)), (1, .ref ks), (2, .int x2), (6, .int y6l8)]) hx hb dX10_pack_69 hl (by decide) rfl (fun ls hl => ?_)
                exact KJ71_8 (y3l8 + 1) 0 y6l8 σ15 H locs ls hG hS (lv_sub hl [3, 4, 5, 1, 0, 6] rfl) hf
          · have hf := zif_n c11 hf
            refine lv_lload hx hb dX10_pack_32 (lv_at hl 5 rfl) ?_
            refine lv_iload hx hb dX10_pack_34 (lv_at hl 0 rfl) ?_
            refine z_callS (n := 2) (rest := []) (st1 := [.long (f_X10_join y4l8 (tx.getD i10 0))]) S hG hS hZ (fun _ _ h => h) (c_X10_join l D aC zs [] A nl ad σl8 y4l8 (tx.getD i10 0) (f_X10_join y4l8 (tx.getD i10 0)) rfl) zw_180 zw_181 zw_109 zw_182 (by decide +kernel) ⟨rfl, rfl⟩ ⟨(Nat.le_of_ble_eq_true rfl), (Nat.le_of_ble_eq_true rfl)⟩ hl.1 rfl (by rfl) (by rfl) (Nat.le_of_ble_eq_true rfl) dX10_pack_36 ⟨Nat.zero_le _, Nat.zero_le _⟩ (fun H locs hz16 hG hS => ?_)
            refine lv_lstore (lv' := [(4, .long (f_X10_join y4l8 (tx.getD i10 0))), (7, .int (tx.getD i10 0)), (0, .ref (ad 10 0 0)), (1, .ref ks), (2, .int x2), (3, .int y3l8), (6, .int y6l8)]) hx hb dX10_pack_39 hl (by decide) rfl (fun ls hl => ?_)
            refine lv_goto (tgt := 71) hx hb dX10_pack_41 (by decide) ?_
            exact KJ71_8 y3l8 (f_X10_join y4l8 (tx.getD i10 0)) y6l8 σl8 H locs ls hG hS (lv_sub hl [2, 3, 4, 5, 0, 6] rfl) hf
    exact KL8 zFu x2 0 0 σ H locs ls hG hS (lv_sub hl [3, 4, 5, 2, 1, 0] rfl) hw8
  exact hK0 _ _ ls hG hS hl hf
set_option maxRecDepth 100000 in
set_option maxHeartbeats 4000000 in
theorem c_X10_init (l : Launch) (D : va_G) (aC : Nat → ClassId) (zs : Nat × Nat) (A : Nat → Prop) (N0 nu : List (Nat × Nat × Nat)) (ad : Nat → Nat → Nat → Nat) (σ : zM)  (σ' : zM) (hobj : (10, 0, 0) ∈ N0) (hfr : ∀ k, k ∉ [0] → (10, 0, k) ∉ N0) (hF : ∀ q ∈ N0, (q.1, q.2.1) ∉ ([] : List (Nat × Nat))) (hnu : ∀ q ∈ nu, (q.1, q.2.1) ∉ ([(10, 0)] : List (Nat × Nat)))  (hf : f_X10_init σ = some σ') : Met l yX10_init (Cond.code yX10_init cX10_init 3 none :: wsL_law) ({ frames := 5, cells := 1, slots := 36, locals := 112 } : Room) (zPm D aC zs [] A (N0, (zks 10 0 [0] nu)) ad σ [.ref (ad 10 0 0)] (fun sz => ad 10 0 1 = sz + 0 ∧ True)) (zQ none (fun t => zG D aC A (N0 ++ [(10, 0, 1)], nu) ad σ' t t.heap ∧ True) A) 1 36 A := by
  refine Met.ofW (cc := cX10_init) (maxL := 3) (ret := none) (by decide) rfl ?_
  intro p e s m args below meth c s₁ B hml hv
  obtain ⟨rfl, ⟨hG, hZ⟩, hp0, -⟩ := hv
  have hx := B.exec
  have hb := B.bytes
  have hr := B.returns
  have hts : ∀ w ∈ wsL_law, w.before ([.ref (ad 10 0 0)] : List Value).toArray s = true := fun w h => (atoms_spec B.pre) w (List.mem_cons_of_mem _ h)
  have hown : s.vm.findClass RX10 = some m.cls := findClass_of_methodNamed B.named
  have hlocks := B.notSynchronized
  have hin2 : meth.name = "<init>" := (name_of_methodNamed B.named B.method).1
  have S : zS p m c cX10_init 3 s ([.ref (ad 10 0 0)] : List Value).toArray RX10 := ⟨hx, hb, hml, hown, hts⟩
  have hS : va_S A s.heap s.heap [] := va_S.rf
  have hl := lv_entry ([.ref (ad 10 0 0)]) (n := 3) (Nat.le_of_ble_eq_true rfl)
  rw [lg_entry_eq]
  generalize (lg_sl ([.ref (ad 10 0 0)]) ++ List.replicate (3 - (lg_sl ([.ref (ad 10 0 0)])).length) Slot.unset).toArray = ls at hl ⊢
  have hl : lv_has ls 3 [(0, .ref (ad 10 0 0))] := hl
  generalize hargs : ([.ref (ad 10 0 0)] : List Value).toArray = args at S hts ⊢
  obtain ⟨adK, adV, sf, hs0, hr0, hr1, hr2, hcs, hfm, hsf⟩ := hZ.2.2.2.2.2.2.1
  clear hargs
  unfold f_X10_init at hf
  have hB : zB ad s.heap.size N0 N0 [] 10 0 [0] ([] : List (Nat × Nat)) 0 := zB.start hobj hfr hF
  clear hobj hfr hF
  obtain ⟨N, eN⟩ : ∃ x, x = N0 := ⟨_, rfl⟩
  have hB : zB ad s.heap.size N0 N [] 10 0 [0] ([] : List (Nat × Nat)) 0 := by rw [eN]; exact hB
  have hG : zG D aC A (N, (zks 10 0 [0] nu)) ad σ s s.heap := by rw [eN]; exact hG
  refine lv_aload_n hx hb dX10_init_0 rfl (lv_at hl 0 rfl) ?_
  refine W.objInit hx hb hown (hts _ zw_125) (hts _ zw_11) (hts _ zw_12) rfl (by rw [S.2.2.1]; exact hl.1) rfl dX10_init_1 (Nat.le_of_ble_eq_true rfl) (Nat.le_of_ble_eq_true rfl) ?_
  refine W.eq (g2 := F0 m 4 ls []) rfl ?_
  refine lv_aload_n hx hb dX10_init_4 rfl (lv_at hl 0 rfl) ?_
  refine lv_bipush (v := 36) hx hb dX10_init_5 (by decide) ?_
  refine zd_newarr (atype := .long) (c0 := 10) (i0 := 0) (k0 := 0) (N1 := 36) (n' := 1) (slots' := 36) (made' := [(10, 0, 1)]) S hG hS hZ.1 hB zw_66 (Or.inr (Or.inr (Or.inr ⟨rfl, rfl⟩))) (by decide) (by decide) hp0 (by decide) (by decide) (by decide) (Nat.le_of_ble_eq_true rfl) rfl rfl rfl (Nat.le_of_ble_eq_true rfl) (Nat.le_of_ble_eq_true rfl) dX10_init_7 ?_
  clear hG hS hB
  intro H N hG hS hB hlast
  obtain ⟨σ1, eσ1, hf⟩ := zlt_s hf
  rw [← eσ1] at hG
  refine zc_putref (N := N) (nu := nu) (ty := .array .long) (c0 := 10) (i0 := 0) (k0 := 0) (T := TX10) S hG hS tyX10 tyX10_ok nmX10 hB.2.1 (fun h => hnu _ h List.mem_cons_self) rfl inlX10 (by decide) rfl rfl hin2 rfl zw_126 (by decide +kernel) rfl rfl rfl dX10_init_9 ?_
  clear hG hS
  intro H locs hG hS
  have hG : zG D aC A (N, nu) ad σ1 s _ := hG
  obtain ⟨nl, hnl⟩ : ∃ nl : zNL, nl = (N0 ++ [(10, 0, 1)], nu) := ⟨_, rfl⟩
  have hall : N = N0 ++ [(10, 0, 1)] := hB.1
  rw [hall, ← hnl] at hG
  rw [← hnl]
  have h_this : zin nl 10 0 := by
    rw [hnl, ← hall]
    refine ⟨hB.2.1, fun k h1 h2 => ?_, fun k h => hnu _ h List.mem_cons_self⟩
    have hk := (by decide +kernel : ∀ k, k < zN 10 → 4 ≤ zkd 10 k → k ∈ [0]) k h1 h2
    simp only [List.mem_cons, List.not_mem_nil, or_false] at hk
    rw [hall]
    rcases hk with rfl <;> exact List.mem_append_right _ (by simp)
  have hZ : zH zs [] A nl s := ⟨hZ.1, fun _ h => (by cases h), hZ.2.2⟩
  clear hB hall
  refine lv_aload_n hx hb dX10_init_12 rfl (lv_at hl 0 rfl) ?_
  refine va_ldcS hx hb hown hr0 dX10_init_13 ?_
  refine lv_iconst (v := 0) hx hb dX10_init_15 (by decide) ?_
  obtain ⟨q2, eq2, hf⟩ := zbi hf
  refine z_callVE (n := 2) (rest := []) (st1 := [.int q2.1]) (zStr_sta (adK 0) (zTb.getD 0 []) A) (zStr_of hs0 0 (by decide) (by decide +kernel)) (z_recv hG h_this (by rfl)) S hG hS hZ (c_X10_pack l D aC zs A nl ad σ1 (adK 0) (zTb.getD 0 []) 0 q2.1 q2.2 h_this (by decide +kernel) (zCh_of (by decide +kernel)) eq2) zw_127 zw_128 zw_129 zw_109 zw_130 (by decide +kernel) ⟨rfl, rfl⟩ ⟨(Nat.le_of_ble_eq_true rfl), (Nat.le_of_ble_eq_true rfl)⟩ hl.1 rfl (by rfl) (by rfl) (Nat.le_of_ble_eq_true rfl) dX10_init_16 ⟨(Nat.le_of_ble_eq_true rfl), (Nat.le_of_ble_eq_true rfl)⟩ (fun H locs _ hG hS => ?_)
  refine lv_istore_n (lv' := [(1, .int q2.1), (0, .ref (ad 10 0 0))]) hx hb dX10_init_19 rfl hl (by decide) rfl (fun ls hl => ?_)
  refine lv_aload_n hx hb dX10_init_20 rfl (lv_at hl 1 rfl) ?_
  refine va_ldcS hx hb hown hr1 dX10_init_21 ?_
  refine lv_iload_n hx hb dX10_init_23 rfl (lv_at hl 0 rfl) ?_
  obtain ⟨q3, eq3, hf⟩ := zbi hf
  refine z_callVE (n := 2) (rest := []) (st1 := [.int q3.1]) (zStr_sta (adK 1) (zTb.getD 1 []) A) (zStr_of hs0 1 (by decide) (by decide +kernel)) (z_recv hG h_this (by rfl)) S hG hS hZ (c_X10_pack l D aC zs A nl ad q2.2 (adK 1) (zTb.getD 1 []) q2.1 q3.1 q3.2 h_this (by decide +kernel) (zCh_of (by decide +kernel)) eq3) zw_127 zw_128 zw_129 zw_109 zw_130 (by decide +kernel) ⟨rfl, rfl⟩ ⟨(Nat.le_of_ble_eq_true rfl), (Nat.le_of_ble_eq_true rfl)⟩ hl.1 rfl (by rfl) (by rfl) (Nat.le_of_ble_eq_true rfl) dX10_init_24 ⟨(Nat.le_of_ble_eq_true rfl), (Nat.le_of_ble_eq_true rfl)⟩ (fun H locs _ hG hS => ?_)
  refine lv_istore_n (lv' := [(2, .int q3.1), (1, .int q2.1), (0, .ref (ad 10 0 0))]) hx hb dX10_init_27 rfl hl (by decide) rfl (fun ls hl => ?_)
  refine lv_aload_n hx hb dX10_init_28 rfl (lv_at hl 2 rfl) ?_
  refine va_ldcS hx hb hown hr2 dX10_init_29 ?_
  refine lv_iload_n hx hb dX10_init_31 rfl (lv_at hl 0 rfl) ?_
  obtain ⟨q4, eq4, hf⟩ := zbi hf
  refine z_callVE (n := 2) (rest := []) (st1 := [.int q4.1]) (zStr_sta (adK 2) (zTb.getD 2 []) A) (zStr_of hs0 2 (by decide) (by decide +kernel)) (z_recv hG h_this (by rfl)) S hG hS hZ (c_X10_pack l D aC zs A nl ad q3.2 (adK 2) (zTb.getD 2 []) q3.1 q4.1 q4.2 h_this (by decide +kernel) (zCh_of (by decide +kernel)) eq4) zw_127 zw_128 zw_129 zw_109 zw_130 (by decide +kernel) ⟨rfl, rfl⟩ ⟨(Nat.le_of_ble_eq_true rfl), (Nat.le_of_ble_eq_true rfl)⟩ hl.1 rfl (by rfl) (by rfl) (Nat.le_of_ble_eq_true rfl) dX10_init_32 ⟨(Nat.le_of_ble_eq_true rfl), (Nat.le_of_ble_eq_true rfl)⟩ (fun H locs _ hG hS => ?_)
  refine lv_pop hx hb dX10_init_35 rfl ?_
  have hq := (Option.some.inj hf)
  subst hq
  exact z_vret S hG hS hlocks trivial hr dX10_init_36
set_option maxRecDepth 100000 in
set_option maxHeartbeats 4000000 in
theorem c_X4_init (l : Launch) (D : va_G) (aC : Nat → ClassId) (zs : Nat × Nat) (A : Nat → Prop) (N0 nu : List (Nat × Nat × Nat)) (ad : Nat → Nat → Nat → Nat) (σ : zM)  (σ' : zM) (hobj : (4, 0, 0) ∈ N0) (hfr : ∀ k, k ∉ [0] → (4, 0, k) ∉ N0) (hF : ∀ q ∈ N0, (q.1, q.2.1) ∉ ([(10, 0), (0, 8)] : List (Nat × Nat))) (hnu : ∀ q ∈ nu, (q.1, q.2.1) ∉ ([(4, 0), (10, 0), (0, 8)] : List (Nat × Nat)))  (hf : f_X4_init σ = some σ') : Met l yX4_init (Cond.code yX4_init cX4_init 3 none :: wsL_law) ({ frames := 6, cells := 14, slots := 2787, locals := 134 } : Room) (zPm D aC zs [] A (N0, (zks 4 0 [2, 3, 4, 5, 6, 0, 1] nu)) ad σ [.ref (ad 4 0 0), .ref (ad 9 0 0), .ref (ad 5 0 0)] (fun sz => ad 10 0 0 = sz + 0 ∧ ad 10 0 1 = sz + 1 ∧ ad 4 0 4 = sz + 2 ∧ ad 4 0 5 = sz + 3 ∧ ad 4 0 6 = sz + 4 ∧ ad 4 0 7 = sz + 5 ∧ ad 0 8 0 = sz + 6 ∧ ad 0 8 6 = sz + 7 ∧ ad 0 8 7 = sz + 8 ∧ ad 0 8 1 = sz + 9 ∧ ad 0 8 2 = sz + 10 ∧ ad 0 8 3 = sz + 11 ∧ ad 0 8 4 = sz + 12 ∧ ad 0 8 5 = sz + 13 ∧ True)) (zQ none (fun t => zG D aC A (N0 ++ [(10, 0, 0), (10, 0, 1), (4, 0, 4), (4, 0, 5), (4, 0, 6), (4, 0, 7), (0, 8, 0), (0, 8, 6), (0, 8, 7), (0, 8, 1), (0, 8, 2), (0, 8, 3), (0, 8, 4), (0, 8, 5)], nu) ad σ' t t.heap ∧ True) A) 14 2787 A := by
  refine Met.ofW (cc := cX4_init) (maxL := 3) (ret := none) (by decide) rfl ?_
  intro p e s m args below meth c s₁ B hml hv
  obtain ⟨rfl, ⟨hG, hZ⟩, hp0, hp1, hp2, hp3, hp4, hp5, hp6, hp7, hp8, hp9, hp10, hp11, hp12, hp13, -⟩ := hv
  have hx := B.exec
  have hb := B.bytes
  have hr := B.returns
  have hts : ∀ w ∈ wsL_law, w.before ([.ref (ad 4 0 0), .ref (ad 9 0 0), .ref (ad 5 0 0)] : List Value).toArray s = true := fun w h => (atoms_spec B.pre) w (List.mem_cons_of_mem _ h)
  have hown : s.vm.findClass RX4 = some m.cls := findClass_of_methodNamed B.named
  have hlocks := B.notSynchronized
  have hin2 : meth.name = "<init>" := (name_of_methodNamed B.named B.method).1
  have S : zS p m c cX4_init 3 s ([.ref (ad 4 0 0), .ref (ad 9 0 0), .ref (ad 5 0 0)] : List Value).toArray RX4 := ⟨hx, hb, hml, hown, hts⟩
  have hS : va_S A s.heap s.heap [] := va_S.rf
  have hl := lv_entry ([.ref (ad 4 0 0), .ref (ad 9 0 0), .ref (ad 5 0 0)]) (n := 3) (Nat.le_of_ble_eq_true rfl)
  rw [lg_entry_eq]
  generalize (lg_sl ([.ref (ad 4 0 0), .ref (ad 9 0 0), .ref (ad 5 0 0)]) ++ List.replicate (3 - (lg_sl ([.ref (ad 4 0 0), .ref (ad 9 0 0), .ref (ad 5 0 0)])).length) Slot.unset).toArray = ls at hl ⊢
  have hl : lv_has ls 3 [(0, .ref (ad 4 0 0)), (1, .ref (ad 9 0 0)), (2, .ref (ad 5 0 0))] := hl
  generalize hargs : ([.ref (ad 4 0 0), .ref (ad 9 0 0), .ref (ad 5 0 0)] : List Value).toArray = args at S hts ⊢
  clear hargs
  unfold f_X4_init at hf
  have hB : zB ad s.heap.size N0 N0 [] 4 0 [0] ([(10, 0), (0, 8)] : List (Nat × Nat)) 0 := zB.start hobj hfr hF
  clear hobj hfr hF
  obtain ⟨N, eN⟩ : ∃ x, x = N0 := ⟨_, rfl⟩
  have hB : zB ad s.heap.size N0 N [] 4 0 [0] ([(10, 0), (0, 8)] : List (Nat × Nat)) 0 := by rw [eN]; exact hB
  have hG : zG D aC A (N, (zks 4 0 [2, 3, 4, 5, 6, 0, 1] nu)) ad σ s s.heap := by rw [eN]; exact hG
  refine lv_aload_n hx hb dX4_init_0 rfl (lv_at hl 0 rfl) ?_
  refine W.objInit hx hb hown (hts _ zw_106) (hts _ zw_11) (hts _ zw_12) rfl (by rw [S.2.2.1]; exact hl.1) rfl dX4_init_1 (Nat.le_of_ble_eq_true rfl) (Nat.le_of_ble_eq_true rfl) ?_
  refine W.eq (g2 := F0 m 4 ls []) rfl ?_
  refine lv_aload_n hx hb dX4_init_4 rfl (lv_at hl 0 rfl) ?_
  refine zd_new (c0 := 10) (i0 := 0) (C := RX10) (T := TX10) (n' := 1) (slots' := 1) S hG hS hZ.1 hB tyX10 tyX10_ok rfl inlX10 zw_107 zw_108 zw_109 [0] (by decide +kernel) (by decide +kernel) (by decide +kernel) (by decide) (zks_o hnu (by decide) (by decide)) hp0 rfl rfl (Nat.le_of_ble_eq_true rfl) (Nat.le_of_ble_eq_true rfl) dX4_init_5 ?_
  clear hG hS
  intro H N1 eN1 hG hS
  obtain ⟨σ1, eσ1, hf⟩ := zlt_s hf
  rw [← eσ1] at hG
  refine lv_dup hx hb dX4_init_8 rfl ?_
  obtain ⟨σ2, eσ2, hf⟩ := zbi hf
  refine zd_callI (n := 0) (rest := [.ref (ad 10 0 0), .ref (ad 4 0 0)]) (c0 := 10) (i0 := 0) (n' := 2) (slots' := 37) (made' := [(10, 0, 0), (10, 0, 1)]) (F' := ([(0, 8)] : List (Nat × Nat))) S hG hS hZ hB eN1 (by decide) (by decide) (by decide) hp0 rfl (fun h1 h2 h3 => c_X10_init l D aC zs A N1 (zks 4 0 [2, 3, 4, 5, 6, 0, 1] nu) ad σ1 σ2 h1 h2 h3 (zks_nu hnu (by decide) (by decide)) eσ2) (fun z hz => by subst hz; exact ⟨hp1, trivial⟩) zw_122 zw_123 zw_109 zw_124 rfl (by decide +kernel) ⟨rfl, rfl⟩ ⟨(Nat.le_of_ble_eq_true rfl), (Nat.le_of_ble_eq_true rfl)⟩ hl.1 rfl (by rfl) (Nat.le_of_ble_eq_true rfl) dX4_init_9 rfl rfl ⟨(Nat.le_of_ble_eq_true rfl), (Nat.le_of_ble_eq_true rfl)⟩ rfl (by decide) (by decide) (by decide) ⟨(10, 0, 1), by simp, by simp only [zad, hp1]⟩ ?_
  clear hG hS hB eN1
  intro H locs N hG hS hB
  refine zc_putref (N := N) (nu := (zks 4 0 [3, 4, 5, 6, 0, 1] nu)) (ty := .object RX10) (c0 := 4) (i0 := 0) (k0 := 2) (T := TX4) S hG hS tyX4 tyX4_ok nmX4 hB.2.1 (zks_n hnu (by decide)) rfl inlX4 (by decide) rfl rfl hin2 rfl zw_110 (by decide +kernel) rfl rfl rfl dX4_init_12 ?_
  clear hG hS
  intro H locs hG hS
  refine lv_aload_n hx hb dX4_init_15 rfl (lv_at hl 0 rfl) ?_
  refine lv_sipush (v := 901) hx hb dX4_init_16 (by decide) ?_
  refine zd_newarr (atype := .int) (c0 := 4) (i0 := 0) (k0 := 3) (N1 := 901) (n' := 3) (slots' := 938) (made' := [(10, 0, 0), (10, 0, 1), (4, 0, 4)]) S hG hS hZ.1 hB zw_60 (Or.inl ⟨rfl, rfl⟩) (by decide) (by decide) hp2 (by decide) (by decide) (by decide) (Nat.le_of_ble_eq_true rfl) rfl rfl rfl (Nat.le_of_ble_eq_true rfl) (Nat.le_of_ble_eq_true rfl) dX4_init_19 ?_
  clear hG hS hB
  intro H N hG hS hB hlast
  obtain ⟨σ3, eσ3, hf⟩ := zlt_s hf
  rw [← eσ3] at hG
  refine zc_putref (N := N) (nu := (zks 4 0 [4, 5, 6, 0, 1] nu)) (ty := .array .int) (c0 := 4) (i0 := 0) (k0 := 3) (T := TX4) S hG hS tyX4 tyX4_ok nmX4 hB.2.1 (zks_n hnu (by decide)) rfl inlX4 (by decide) rfl rfl hin2 rfl zw_111 (by decide +kernel) rfl rfl rfl dX4_init_21 ?_
  clear hG hS
  intro H locs hG hS
  refine lv_aload_n hx hb dX4_init_24 rfl (lv_at hl 0 rfl) ?_
  refine lv_sipush (v := 901) hx hb dX4_init_25 (by decide) ?_
  refine zd_newarr (atype := .int) (c0 := 4) (i0 := 0) (k0 := 4) (N1 := 901) (n' := 4) (slots' := 1839) (made' := [(10, 0, 0), (10, 0, 1), (4, 0, 4), (4, 0, 5)]) S hG hS hZ.1 hB zw_60 (Or.inl ⟨rfl, rfl⟩) (by decide) (by decide) hp3 (by decide) (by decide) (by decide) (Nat.le_of_ble_eq_true rfl) rfl rfl rfl (Nat.le_of_ble_eq_true rfl) (Nat.le_of_ble_eq_true rfl) dX4_init_28 ?_
  clear hG hS hB
  intro H N hG hS hB hlast
  obtain ⟨σ4, eσ4, hf⟩ := zlt_s hf
  rw [← eσ4] at hG
  refine zc_putref (N := N) (nu := (zks 4 0 [5, 6, 0, 1] nu)) (ty := .array .int) (c0 := 4) (i0 := 0) (k0 := 4) (T := TX4) S hG hS tyX4 tyX4_ok nmX4 hB.2.1 (zks_n hnu (by decide)) rfl inlX4 (by decide) rfl rfl hin2 rfl zw_112 (by decide +kernel) rfl rfl rfl dX4_init_30 ?_
  clear hG hS
  intro H locs hG hS
  refine lv_aload_n hx hb dX4_init_33 rfl (lv_at hl 0 rfl) ?_
  refine lv_sipush (v := 901) hx hb dX4_init_34 (by decide) ?_
  refine zd_newarr (atype := .long) (c0 := 4) (i0 := 0) (k0 := 5) (N1 := 901) (n' := 5) (slots' := 2740) (made' := [(10, 0, 0), (10, 0, 1), (4, 0, 4), (4, 0, 5), (4, 0, 6)]) S hG hS hZ.1 hB zw_66 (Or.inr (Or.inr (Or.inr ⟨rfl, rfl⟩))) (by decide) (by decide) hp4 (by decide) (by decide) (by decide) (Nat.le_of_ble_eq_true rfl) rfl rfl rfl (Nat.le_of_ble_eq_true rfl) (Nat.le_of_ble_eq_true rfl) dX4_init_37 ?_
  clear hG hS hB
  intro H N hG hS hB hlast
  obtain ⟨σ5, eσ5, hf⟩ := zlt_s hf
  rw [← eσ5] at hG
  refine zc_putref (N := N) (nu := (zks 4 0 [6, 0, 1] nu)) (ty := .array .long) (c0 := 4) (i0 := 0) (k0 := 5) (T := TX4) S hG hS tyX4 tyX4_ok nmX4 hB.2.1 (zks_n hnu (by decide)) rfl inlX4 (by decide) rfl rfl hin2 rfl zw_113 (by decide +kernel) rfl rfl rfl dX4_init_39 ?_
  clear hG hS
  intro H locs hG hS
  refine lv_aload_n hx hb dX4_init_42 rfl (lv_at hl 0 rfl) ?_
  refine lv_bipush (v := 13) hx hb dX4_init_43 (by decide) ?_
  refine zd_newarr (atype := .boolean) (c0 := 4) (i0 := 0) (k0 := 6) (N1 := 13) (n' := 6) (slots' := 2753) (made' := [(10, 0, 0), (10, 0, 1), (4, 0, 4), (4, 0, 5), (4, 0, 6), (4, 0, 7)]) S hG hS hZ.1 hB zw_114 (Or.inr (Or.inr (Or.inl ⟨rfl, rfl⟩))) (by decide) (by decide) hp5 (by decide) (by decide) (by decide) (Nat.le_of_ble_eq_true rfl) rfl rfl rfl (Nat.le_of_ble_eq_true rfl) (Nat.le_of_ble_eq_true rfl) dX4_init_45 ?_
  clear hG hS hB
  intro H N hG hS hB hlast
  obtain ⟨σ6, eσ6, hf⟩ := zlt_s hf
  rw [← eσ6] at hG
  refine zc_putref (N := N) (nu := (zks 4 0 [0, 1] nu)) (ty := .array .boolean) (c0 := 4) (i0 := 0) (k0 := 6) (T := TX4) S hG hS tyX4 tyX4_ok nmX4 hB.2.1 (zks_n hnu (by decide)) rfl inlX4 (by decide) rfl rfl hin2 rfl zw_115 (by decide +kernel) rfl rfl rfl dX4_init_47 ?_
  clear hG hS
  intro H locs hG hS
  refine lv_aload_n hx hb dX4_init_50 rfl (lv_at hl 0 rfl) ?_
  refine zd_new (c0 := 0) (i0 := 8) (C := RX0) (T := TX0) (n' := 7) (slots' := 2763) S hG hS hZ.1 hB tyX0 tyX0_ok rfl inlX0 zw_116 zw_75 zw_76 [5, 6, 0, 1, 2, 3, 4] (by decide +kernel) (by decide +kernel) (by decide +kernel) (by decide) (zks_o hnu (by decide) (by decide)) hp6 rfl rfl (Nat.le_of_ble_eq_true rfl) (Nat.le_of_ble_eq_true rfl) dX4_init_51 ?_
  clear hG hS
  intro H N1 eN1 hG hS
  obtain ⟨σ7, eσ7, hf⟩ := zlt_s hf
  rw [← eσ7] at hG
  refine lv_dup hx hb dX4_init_54 rfl ?_
  refine lv_iconst (v := 0) hx hb dX4_init_55 (by decide) ?_
  refine lv_iconst (v := 0) hx hb dX4_init_56 (by decide) ?_
  obtain ⟨σ8, eσ8, hf⟩ := zbi hf
  refine zd_callI (n := 2) (rest := [.ref (ad 0 8 0), .ref (ad 4 0 0)]) (c0 := 0) (i0 := 8) (n' := 14) (slots' := 2787) (made' := [(10, 0, 0), (10, 0, 1), (4, 0, 4), (4, 0, 5), (4, 0, 6), (4, 0, 7), (0, 8, 0), (0, 8, 6), (0, 8, 7), (0, 8, 1), (0, 8, 2), (0, 8, 3), (0, 8, 4), (0, 8, 5)]) (F' := ([] : List (Nat × Nat))) S hG hS hZ hB eN1 (by decide) (by decide) (by decide) hp6 rfl (fun h1 h2 h3 => c_X0_init8 l D aC zs A N1 (zks 4 0 [0, 1] nu) ad σ7 σ8 h1 h2 h3 (zks_nu hnu (by decide) (by decide)) eσ8) (fun z hz => by subst hz; exact ⟨hp7, hp8, hp9, hp10, hp11, hp12, hp13, trivial⟩) zw_184 zw_81 zw_76 zw_82 rfl (by decide +kernel) ⟨rfl, rfl⟩ ⟨(Nat.le_of_ble_eq_true rfl), (Nat.le_of_ble_eq_true rfl)⟩ hl.1 rfl (by rfl) (Nat.le_of_ble_eq_true rfl) dX4_init_57 rfl rfl ⟨(Nat.le_of_ble_eq_true rfl), (Nat.le_of_ble_eq_true rfl)⟩ rfl (by decide) (by decide) (by decide) ⟨(0, 8, 5), by simp, by simp only [zad, hp13]⟩ ?_
  clear hG hS hB eN1
  intro H locs N hG hS hB
  have h_kid : zin (N, (zks 4 0 [0, 1] nu)) 0 8 := by
    refine ⟨by rw [hB.1]; exact List.mem_append_right _ (by simp), fun k h1 h2 => ?_, zks_o hnu (by decide) (by decide)⟩
    have hk := (by decide +kernel : ∀ k, k < zN 0 → 4 ≤ zkd 0 k → k ∈ [0, 1, 2, 3, 4, 5, 6]) k h1 h2
    simp only [List.mem_cons, List.not_mem_nil, or_false] at hk
    rw [hB.1]
    rcases hk with rfl | rfl | rfl | rfl | rfl | rfl | rfl <;> exact List.mem_append_right _ (by simp)
  refine zc_putR (j0 := 8) h_kid (c0 := 4) (i0 := 0) (k0 := 7) (T := TX4) (cn := RX0) S hG hS tyX4 tyX4_ok nmX4 hB.2.1 (zks_n hnu (by decide)) rfl inlX4 (by decide) rfl (Or.inl rfl) zw_117 (by decide +kernel) rfl dX4_init_60 (fun H locs hG hS => ?_)
  obtain ⟨σ9, eσ9, hf⟩ := zlt_s hf
  rw [← eσ9] at hG
  refine lv_aload_n hx hb dX4_init_63 rfl (lv_at hl 0 rfl) ?_
  refine lv_iconst (v := 0) hx hb dX4_init_64 (by decide) ?_
  refine zc_putI (c0 := 4) (i0 := 0) (k0 := 8) (T := TX4) S hG hS tyX4 tyX4_ok nmX4 hB.2.1 (zks_n hnu (by decide)) rfl inlX4 (by decide) rfl (Or.inl rfl) zw_118 (by decide +kernel) rfl dX4_init_65 (fun H locs hG hS => ?_)
  obtain ⟨σ10, eσ10, hf⟩ := zlt_s hf
  rw [← eσ10] at hG
  refine lv_aload_n hx hb dX4_init_68 rfl (lv_at hl 0 rfl) ?_
  refine lv_iconst (v := 0) hx hb dX4_init_69 (by decide) ?_
  refine zc_putI (c0 := 4) (i0 := 0) (k0 := 9) (T := TX4) S hG hS tyX4 tyX4_ok nmX4 hB.2.1 (zks_n hnu (by decide)) rfl inlX4 (by decide) rfl (Or.inl rfl) zw_119 (by decide +kernel) rfl dX4_init_70 (fun H locs hG hS => ?_)
  obtain ⟨σ11, eσ11, hf⟩ := zlt_s hf
  rw [← eσ11] at hG
  refine lv_aload_n hx hb dX4_init_73 rfl (lv_at hl 0 rfl) ?_
  refine lv_aload_n hx hb dX4_init_74 rfl (lv_at hl 1 rfl) ?_
  refine zc_putref (N := N) (nu := (zks 4 0 [1] nu)) (ty := .object RX9) (c0 := 4) (i0 := 0) (k0 := 0) (T := TX4) S hG hS tyX4 tyX4_ok nmX4 hB.2.1 (zks_n hnu (by decide)) rfl inlX4 (by decide) rfl rfl hin2 rfl zw_120 (by decide +kernel) rfl rfl rfl dX4_init_75 ?_
  clear hG hS
  intro H locs hG hS
  refine lv_aload_n hx hb dX4_init_78 rfl (lv_at hl 0 rfl) ?_
  refine lv_aload_n hx hb dX4_init_79 rfl (lv_at hl 2 rfl) ?_
  refine zc_putref (N := N) (nu := nu) (ty := .object RX5) (c0 := 4) (i0 := 0) (k0 := 1) (T := TX4) S hG hS tyX4 tyX4_ok nmX4 hB.2.1 (fun h => hnu _ h List.mem_cons_self) rfl inlX4 (by decide) rfl rfl hin2 rfl zw_121 (by decide +kernel) rfl rfl rfl dX4_init_80 ?_
  clear hG hS
  intro H locs hG hS
  have hq := (Option.some.inj hf)
  subst hq
  rw [hB.1] at hG
  exact z_vret S hG hS hlocks trivial hr dX4_init_83
set_option maxRecDepth 100000 in
set_option maxHeartbeats 4000000 in
theorem c_X11_init (l : Launch) (D : va_G) (aC : Nat → ClassId) (zs : Nat × Nat) (A : Nat → Prop) (N0 nu : List (Nat × Nat × Nat)) (ad : Nat → Nat → Nat → Nat) (σ : zM)  (σ' : zM) (hobj : (11, 0, 0) ∈ N0) (hfr : ∀ k, k ∉ [0] → (11, 0, k) ∉ N0) (hF : ∀ q ∈ N0, (q.1, q.2.1) ∉ ([(9, 0), (5, 0), (1, 0), (0, 7), (4, 0), (10, 0), (0, 8), (8, 0), (3, 0), (2, 0), (6, 0), (6, 1)] : List (Nat × Nat))) (hnu : ∀ q ∈ nu, (q.1, q.2.1) ∉ ([(11, 0), (9, 0), (5, 0), (1, 0), (0, 7), (4, 0), (10, 0), (0, 8), (8, 0), (3, 0), (2, 0), (6, 0), (6, 1)] : List (Nat × Nat)))  (hf : f_X11_init σ = some σ') : Met l yX11_init (Cond.code yX11_init cX11_init 1 none :: wsL_law) ({ frames := 7, cells := 56, slots := 4906, locals := 156 } : Room) (zPm D aC zs [] A (N0, (zks 11 0 [0, 1, 2, 3, 4, 5, 6, 7, 8, 9] nu)) ad σ [.ref (ad 11 0 0)] (fun sz => ad 9 0 0 = sz + 0 ∧ ad 9 0 1 = sz + 1 ∧ ad 5 0 0 = sz + 2 ∧ ad 5 0 1 = sz + 3 ∧ ad 1 0 0 = sz + 4 ∧ ad 1 0 1 = sz + 5 ∧ ad 0 7 0 = sz + 6 ∧ ad 0 7 6 = sz + 7 ∧ ad 0 7 7 = sz + 8 ∧ ad 0 7 1 = sz + 9 ∧ ad 0 7 2 = sz + 10 ∧ ad 0 7 3 = sz + 11 ∧ ad 0 7 4 = sz + 12 ∧ ad 0 7 5 = sz + 13 ∧ ad 4 0 0 = sz + 14 ∧ ad 10 0 0 = sz + 15 ∧ ad 10 0 1 = sz + 16 ∧ ad 4 0 4 = sz + 17 ∧ ad 4 0 5 = sz + 18 ∧ ad 4 0 6 = sz + 19 ∧ ad 4 0 7 = sz + 20 ∧ ad 0 8 0 = sz + 21 ∧ ad 0 8 6 = sz + 22 ∧ ad 0 8 7 = sz + 23 ∧ ad 0 8 1 = sz + 24 ∧ ad 0 8 2 = sz + 25 ∧ ad 0 8 3 = sz + 26 ∧ ad 0 8 4 = sz + 27 ∧ ad 0 8 5 = sz + 28 ∧ ad 8 0 0 = sz + 29 ∧ ad 8 0 1 = sz + 30 ∧ ad 8 0 2 = sz + 31 ∧ ad 8 0 3 = sz + 32 ∧ ad 8 0 4 = sz + 33 ∧ ad 3 0 0 = sz + 34 ∧ ad 3 0 1 = sz + 35 ∧ ad 3 0 2 = sz + 36 ∧ ad 3 0 3 = sz + 37 ∧ ad 3 0 4 = sz + 38 ∧ ad 2 0 0 = sz + 39 ∧ ad 2 0 1 = sz + 40 ∧ ad 11 0 8 = sz + 41 ∧ ad 6 0 0 = sz + 42 ∧ ad 6 0 1 = sz + 43 ∧ ad 6 0 2 = sz + 44 ∧ ad 6 0 3 = sz + 45 ∧ ad 6 0 4 = sz + 46 ∧ ad 6 0 5 = sz + 47 ∧ ad 6 0 6 = sz + 48 ∧ ad 6 1 0 = sz + 49 ∧ ad 6 1 1 = sz + 50 ∧ ad 6 1 2 = sz + 51 ∧ ad 6 1 3 = sz + 52 ∧ ad 6 1 4 = sz + 53 ∧ ad 6 1 5 = sz + 54 ∧ ad 6 1 6 = sz + 55 ∧ True)) (zQ none (fun t => zG D aC A (N0 ++ [(9, 0, 0), (9, 0, 1), (5, 0, 0), (5, 0, 1), (1, 0, 0), (1, 0, 1), (0, 7, 0), (0, 7, 6), (0, 7, 7), (0, 7, 1), (0, 7, 2), (0, 7, 3), (0, 7, 4), (0, 7, 5), (4, 0, 0), (10, 0, 0), (10, 0, 1), (4, 0, 4), (4, 0, 5), (4, 0, 6), (4, 0, 7), (0, 8, 0), (0, 8, 6), (0, 8, 7), (0, 8, 1), (0, 8, 2), (0, 8, 3), (0, 8, 4), (0, 8, 5), (8, 0, 0), (8, 0, 1), (8, 0, 2), (8, 0, 3), (8, 0, 4), (3, 0, 0), (3, 0, 1), (3, 0, 2), (3, 0, 3), (3, 0, 4), (2, 0, 0), (2, 0, 1), (11, 0, 8), (6, 0, 0), (6, 0, 1), (6, 0, 2), (6, 0, 3), (6, 0, 4), (6, 0, 5), (6, 0, 6), (6, 1, 0), (6, 1, 1), (6, 1, 2), (6, 1, 3), (6, 1, 4), (6, 1, 5), (6, 1, 6)], nu) ad σ' t t.heap ∧ True) A) 56 4906 A := by
  refine Met.ofW (cc := cX11_init) (maxL := 1) (ret := none) (by decide) rfl ?_
  intro p e s m args below meth c s₁ B hml hv
  obtain ⟨rfl, ⟨hG, hZ⟩, hp0, hp1, hp2, hp3, hp4, hp5, hp6, hp7, hp8, hp9, hp10, hp11, hp12, hp13, hp14, hp15, hp16, hp17, hp18, hp19, hp20, hp21, hp22, hp23, hp24, hp25, hp26, hp27, hp28, hp29, hp30, hp31, hp32, hp33, hp34, hp35, hp36, hp37, hp38, hp39, hp40, hp41, hp42, hp43, hp44, hp45, hp46, hp47, hp48, hp49, hp50, hp51, hp52, hp53, hp54, hp55, -⟩ := hv
  have hx := B.exec
  have hb := B.bytes
  have hr := B.returns
  have hts : ∀ w ∈ wsL_law, w.before ([.ref (ad 11 0 0)] : List Value).toArray s = true := fun w h => (atoms_spec B.pre) w (List.mem_cons_of_mem _ h)
  have hown : s.vm.findClass RX11 = some m.cls := findClass_of_methodNamed B.named
  have hlocks := B.notSynchronized
  have hin2 : meth.name = "<init>" := (name_of_methodNamed B.named B.method).1
  have S : zS p m c cX11_init 1 s ([.ref (ad 11 0 0)] : List Value).toArray RX11 := ⟨hx, hb, hml, hown, hts⟩
  have hS : va_S A s.heap s.heap [] := va_S.rf
  have hl := lv_entry ([.ref (ad 11 0 0)]) (n := 1) (Nat.le_of_ble_eq_true rfl)
  rw [lg_entry_eq]
  generalize (lg_sl ([.ref (ad 11 0 0)]) ++ List.replicate (1 - (lg_sl ([.ref (ad 11 0 0)])).length) Slot.unset).toArray = ls at hl ⊢
  have hl : lv_has ls 1 [(0, .ref (ad 11 0 0))] := hl
  generalize hargs : ([.ref (ad 11 0 0)] : List Value).toArray = args at S hts ⊢
  clear hargs
  unfold f_X11_init at hf
  have hB : zB ad s.heap.size N0 N0 [] 11 0 [0] ([(9, 0), (5, 0), (1, 0), (0, 7), (4, 0), (10, 0), (0, 8), (8, 0), (3, 0), (2, 0), (6, 0), (6, 1)] : List (Nat × Nat)) 0 := zB.start hobj hfr hF
  clear hobj hfr hF
  obtain ⟨N, eN⟩ : ∃ x, x = N0 := ⟨_, rfl⟩
  have hB : zB ad s.heap.size N0 N [] 11 0 [0] ([(9, 0), (5, 0), (1, 0), (0, 7), (4, 0), (10, 0), (0, 8), (8, 0), (3, 0), (2, 0), (6, 0), (6, 1)] : List (Nat × Nat)) 0 := by rw [eN]; exact hB
  have hG : zG D aC A (N, (zks 11 0 [0, 1, 2, 3, 4, 5, 6, 7, 8, 9] nu)) ad σ s s.heap := by rw [eN]; exact hG
  refine lv_aload_n hx hb dX11_init_0 rfl (lv_at hl 0 rfl) ?_
  refine W.objInit hx hb hown (hts _ zw_10) (hts _ zw_11) (hts _ zw_12) rfl (by rw [S.2.2.1]; exact hl.1) rfl dX11_init_1 (Nat.le_of_ble_eq_true rfl) (Nat.le_of_ble_eq_true rfl) ?_
  refine W.eq (g2 := F0 m 4 ls []) rfl ?_
  refine lv_aload_n hx hb dX11_init_4 rfl (lv_at hl 0 rfl) ?_
  refine zd_new (c0 := 9) (i0 := 0) (C := RX9) (T := TX9) (n' := 1) (slots' := 2) S hG hS hZ.1 hB tyX9 tyX9_ok rfl inlX9 zw_13 zw_14 zw_15 [0] (by decide +kernel) (by decide +kernel) (by decide +kernel) (by decide) (zks_o hnu (by decide) (by decide)) hp0 rfl rfl (Nat.le_of_ble_eq_true rfl) (Nat.le_of_ble_eq_true rfl) dX11_init_5 ?_
  clear hG hS
  intro H N1 eN1 hG hS
  obtain ⟨σ1, eσ1, hf⟩ := zlt_s hf
  rw [← eσ1] at hG
  refine lv_dup hx hb dX11_init_8 rfl ?_
  obtain ⟨σ2, eσ2, hf⟩ := zlt_s hf
  refine zd_callIN (n := 0) (rest := [.ref (ad 9 0 0), .ref (ad 11 0 0)]) (c0 := 9) (i0 := 0) (n' := 2) (slots' := 902) (made' := [(9, 0, 0), (9, 0, 1)]) (F' := ([(5, 0), (1, 0), (0, 7), (4, 0), (10, 0), (0, 8), (8, 0), (3, 0), (2, 0), (6, 0), (6, 1)] : List (Nat × Nat))) S hG hS hZ hB eN1 (by decide) (by decide) (by decide) hp0 rfl (fun h1 h2 h3 => c_X9_init l D aC zs A N1 (zks 11 0 [0, 1, 2, 3, 4, 5, 6, 7, 8, 9] nu) ad σ1 σ2 h1 h2 h3 (zks_nu hnu (by decide) (by decide)) eσ2.symm) (fun z hz => by subst hz; exact ⟨hp1, trivial⟩) (hZ.2.2.2.2.2.2.2.2.2.1) zw_57 zw_15 zw_58 rfl (by decide +kernel) ⟨rfl, rfl⟩ ⟨(Nat.le_of_ble_eq_true rfl), (Nat.le_of_ble_eq_true rfl)⟩ hl.1 rfl (by rfl) (Nat.le_of_ble_eq_true rfl) dX11_init_9 rfl rfl ⟨(Nat.le_of_ble_eq_true rfl), (Nat.le_of_ble_eq_true rfl)⟩ rfl (by decide) (by decide) (by decide) ⟨(9, 0, 1), by simp, by simp only [zad, hp1]⟩ ?_
  clear hG hS hB eN1
  intro H locs N hG hS hB
  refine zc_putref (N := N) (nu := (zks 11 0 [1, 2, 3, 4, 5, 6, 7, 8, 9] nu)) (ty := .object RX9) (c0 := 11) (i0 := 0) (k0 := 0) (T := TX11) S hG hS tyX11 tyX11_ok nmX11 hB.2.1 (zks_n hnu (by decide)) rfl inlX11 (by decide) rfl rfl hin2 rfl zw_16 (by decide +kernel) rfl rfl rfl dX11_init_12 ?_
  clear hG hS
  intro H locs hG hS
  refine lv_aload_n hx hb dX11_init_15 rfl (lv_at hl 0 rfl) ?_
  refine zd_new (c0 := 5) (i0 := 0) (C := RX5) (T := TX5) (n' := 3) (slots' := 905) S hG hS hZ.1 hB tyX5 tyX5_ok rfl inlX5 zw_17 zw_18 zw_19 [0] (by decide +kernel) (by decide +kernel) (by decide +kernel) (by decide) (zks_o hnu (by decide) (by decide)) hp2 rfl rfl (Nat.le_of_ble_eq_true rfl) (Nat.le_of_ble_eq_true rfl) dX11_init_16 ?_
  clear hG hS
  intro H N1 eN1 hG hS
  obtain ⟨σ3, eσ3, hf⟩ := zlt_s hf
  rw [← eσ3] at hG
  refine lv_dup hx hb dX11_init_19 rfl ?_
  obtain ⟨σ4, eσ4, hf⟩ := zlt_s hf
  refine zd_callIN (n := 0) (rest := [.ref (ad 5 0 0), .ref (ad 11 0 0)]) (c0 := 5) (i0 := 0) (n' := 4) (slots' := 917) (made' := [(9, 0, 0), (9, 0, 1), (5, 0, 0), (5, 0, 1)]) (F' := ([(1, 0), (0, 7), (4, 0), (10, 0), (0, 8), (8, 0), (3, 0), (2, 0), (6, 0), (6, 1)] : List (Nat × Nat))) S hG hS hZ hB eN1 (by decide) (by decide) (by decide) hp2 rfl (fun h1 h2 h3 => c_X5_init l D aC zs A N1 (zks 11 0 [1, 2, 3, 4, 5, 6, 7, 8, 9] nu) ad σ3 σ4 h1 h2 h3 (zks_nu hnu (by decide) (by decide)) eσ4.symm) (fun z hz => by subst hz; exact ⟨hp3, trivial⟩) (hZ.2.2.2.2.2.2.2.2.2.2.1) zw_63 zw_19 zw_64 rfl (by decide +kernel) ⟨rfl, rfl⟩ ⟨(Nat.le_of_ble_eq_true rfl), (Nat.le_of_ble_eq_true rfl)⟩ hl.1 rfl (by rfl) (Nat.le_of_ble_eq_true rfl) dX11_init_20 rfl rfl ⟨(Nat.le_of_ble_eq_true rfl), (Nat.le_of_ble_eq_true rfl)⟩ rfl (by decide) (by decide) (by decide) ⟨(5, 0, 1), by simp, by simp only [zad, hp3]⟩ ?_
  clear hG hS hB eN1
  intro H locs N hG hS hB
  refine zc_putref (N := N) (nu := (zks 11 0 [2, 3, 4, 5, 6, 7, 8, 9] nu)) (ty := .object RX5) (c0 := 11) (i0 := 0) (k0 := 1) (T := TX11) S hG hS tyX11 tyX11_ok nmX11 hB.2.1 (zks_n hnu (by decide)) rfl inlX11 (by decide) rfl rfl hin2 rfl zw_20 (by decide +kernel) rfl rfl rfl dX11_init_23 ?_
  clear hG hS
  intro H locs hG hS
  refine lv_aload_n hx hb dX11_init_26 rfl (lv_at hl 0 rfl) ?_
  refine zd_new (c0 := 1) (i0 := 0) (C := RX1) (T := TX1) (n' := 5) (slots' := 921) S hG hS hZ.1 hB tyX1 tyX1_ok rfl inlX1 zw_21 zw_22 zw_23 [0, 1] (by decide +kernel) (by decide +kernel) (by decide +kernel) (by decide) (zks_o hnu (by decide) (by decide)) hp4 rfl rfl (Nat.le_of_ble_eq_true rfl) (Nat.le_of_ble_eq_true rfl) dX11_init_27 ?_
  clear hG hS
  intro H N1 eN1 hG hS
  obtain ⟨σ5, eσ5, hf⟩ := zlt_s hf
  rw [← eσ5] at hG
  refine lv_dup hx hb dX11_init_30 rfl ?_
  obtain ⟨σ6, eσ6, hf⟩ := zbi hf
  refine zd_callIN (n := 0) (rest := [.ref (ad 1 0 0), .ref (ad 11 0 0)]) (c0 := 1) (i0 := 0) (n' := 14) (slots' := 961) (made' := [(9, 0, 0), (9, 0, 1), (5, 0, 0), (5, 0, 1), (1, 0, 0), (1, 0, 1), (0, 7, 0), (0, 7, 6), (0, 7, 7), (0, 7, 1), (0, 7, 2), (0, 7, 3), (0, 7, 4), (0, 7, 5)]) (F' := ([(4, 0), (10, 0), (0, 8), (8, 0), (3, 0), (2, 0), (6, 0), (6, 1)] : List (Nat × Nat))) S hG hS hZ hB eN1 (by decide) (by decide) (by decide) hp4 rfl (fun h1 h2 h3 => c_X1_init l D aC zs A N1 (zks 11 0 [2, 3, 4, 5, 6, 7, 8, 9] nu) ad σ5 σ6 h1 h2 h3 (zks_nu hnu (by decide) (by decide)) eσ6) (fun z hz => by subst hz; exact ⟨hp5, hp6, hp7, hp8, hp9, hp10, hp11, hp12, hp13, trivial⟩) (hZ.2.2.2.2.2.2.2.2.2.2.2.1) zw_70 zw_23 zw_71 rfl (by decide +kernel) ⟨rfl, rfl⟩ ⟨(Nat.le_of_ble_eq_true rfl), (Nat.le_of_ble_eq_true rfl)⟩ hl.1 rfl (by rfl) (Nat.le_of_ble_eq_true rfl) dX11_init_31 rfl rfl ⟨(Nat.le_of_ble_eq_true rfl), (Nat.le_of_ble_eq_true rfl)⟩ rfl (by decide) (by decide) (by decide) ⟨(0, 7, 5), by simp, by simp only [zad, hp13]⟩ ?_
  clear hG hS hB eN1
  intro H locs N hG hS hB
  refine zc_putref (N := N) (nu := (zks 11 0 [3, 4, 5, 6, 7, 8, 9] nu)) (ty := .object RX1) (c0 := 11) (i0 := 0) (k0 := 2) (T := TX11) S hG hS tyX11 tyX11_ok nmX11 hB.2.1 (zks_n hnu (by decide)) rfl inlX11 (by decide) rfl rfl hin2 rfl zw_24 (by decide +kernel) rfl rfl rfl dX11_init_34 ?_
  clear hG hS
  intro H locs hG hS
  refine lv_aload_n hx hb dX11_init_37 rfl (lv_at hl 0 rfl) ?_
  refine zd_new (c0 := 4) (i0 := 0) (C := RX4) (T := TX4) (n' := 15) (slots' := 971) S hG hS hZ.1 hB tyX4 tyX4_ok rfl inlX4 zw_25 zw_26 zw_27 [2, 3, 4, 5, 6, 0, 1] (by decide +kernel) (by decide +kernel) (by decide +kernel) (by decide) (zks_o hnu (by decide) (by decide)) hp14 rfl rfl (Nat.le_of_ble_eq_true rfl) (Nat.le_of_ble_eq_true rfl) dX11_init_38 ?_
  clear hG hS
  intro H N1 eN1 hG hS
  obtain ⟨σ7, eσ7, hf⟩ := zlt_s hf
  rw [← eσ7] at hG
  refine lv_dup hx hb dX11_init_41 rfl ?_
  refine lv_aload_n hx hb dX11_init_42 rfl (lv_at hl 0 rfl) ?_
  refine zc_get (c0 := 11) (i0 := 0) (k0 := 0) (T := TX11) (v := .ref (ad 9 0 0)) S hG (by rw [eN1]; exact List.mem_append_left _ hB.2.1) (zks_i (by decide) (zks_n hnu (by decide))) rfl inlX11 (by decide) rfl zw_16 rfl dX11_init_43 ?_
  refine lv_aload_n hx hb dX11_init_46 rfl (lv_at hl 0 rfl) ?_
  refine zc_get (c0 := 11) (i0 := 0) (k0 := 1) (T := TX11) (v := .ref (ad 5 0 0)) S hG (by rw [eN1]; exact List.mem_append_left _ hB.2.1) (zks_i (by decide) (zks_n hnu (by decide))) rfl inlX11 (by decide) rfl zw_20 rfl dX11_init_47 ?_
  obtain ⟨σ8, eσ8, hf⟩ := zbi hf
  refine zd_callI (n := 2) (rest := [.ref (ad 4 0 0), .ref (ad 11 0 0)]) (c0 := 4) (i0 := 0) (n' := 29) (slots' := 3758) (made' := [(9, 0, 0), (9, 0, 1), (5, 0, 0), (5, 0, 1), (1, 0, 0), (1, 0, 1), (0, 7, 0), (0, 7, 6), (0, 7, 7), (0, 7, 1), (0, 7, 2), (0, 7, 3), (0, 7, 4), (0, 7, 5), (4, 0, 0), (10, 0, 0), (10, 0, 1), (4, 0, 4), (4, 0, 5), (4, 0, 6), (4, 0, 7), (0, 8, 0), (0, 8, 6), (0, 8, 7), (0, 8, 1), (0, 8, 2), (0, 8, 3), (0, 8, 4), (0, 8, 5)]) (F' := ([(8, 0), (3, 0), (2, 0), (6, 0), (6, 1)] : List (Nat × Nat))) S hG hS hZ hB eN1 (by decide) (by decide) (by decide) hp14 rfl (fun h1 h2 h3 => c_X4_init l D aC zs A N1 (zks 11 0 [3, 4, 5, 6, 7, 8, 9] nu) ad σ7 σ8 h1 h2 h3 (zks_nu hnu (by decide) (by decide)) eσ8) (fun z hz => by subst hz; exact ⟨hp15, hp16, hp17, hp18, hp19, hp20, hp21, hp22, hp23, hp24, hp25, hp26, hp27, hp28, trivial⟩) zw_103 zw_104 zw_27 zw_105 rfl (by decide +kernel) ⟨rfl, rfl⟩ ⟨(Nat.le_of_ble_eq_true rfl), (Nat.le_of_ble_eq_true rfl)⟩ hl.1 rfl (by rfl) (Nat.le_of_ble_eq_true rfl) dX11_init_50 rfl rfl ⟨(Nat.le_of_ble_eq_true rfl), (Nat.le_of_ble_eq_true rfl)⟩ rfl (by decide) (by decide) (by decide) ⟨(0, 8, 5), by simp, by simp only [zad, hp28]⟩ ?_
  clear hG hS hB eN1
  intro H locs N hG hS hB
  refine zc_putref (N := N) (nu := (zks 11 0 [4, 5, 6, 7, 8, 9] nu)) (ty := .object RX4) (c0 := 11) (i0 := 0) (k0 := 3) (T := TX11) S hG hS tyX11 tyX11_ok nmX11 hB.2.1 (zks_n hnu (by decide)) rfl inlX11 (by decide) rfl rfl hin2 rfl zw_28 (by decide +kernel) rfl rfl rfl dX11_init_53 ?_
  clear hG hS
  intro H locs hG hS
  refine lv_aload_n hx hb dX11_init_56 rfl (lv_at hl 0 rfl) ?_
  refine zd_new (c0 := 8) (i0 := 0) (C := RX8) (T := TX8) (n' := 30) (slots' := 3763) S hG hS hZ.1 hB tyX8 tyX8_ok rfl inlX8 zw_29 zw_30 zw_31 [0, 1, 2, 3] (by decide +kernel) (by decide +kernel) (by decide +kernel) (by decide) (zks_o hnu (by decide) (by decide)) hp29 rfl rfl (Nat.le_of_ble_eq_true rfl) (Nat.le_of_ble_eq_true rfl) dX11_init_57 ?_
  clear hG hS
  intro H N1 eN1 hG hS
  obtain ⟨σ9, eσ9, hf⟩ := zlt_s hf
  rw [← eσ9] at hG
  refine lv_dup hx hb dX11_init_60 rfl ?_
  obtain ⟨σ10, eσ10, hf⟩ := zlt_s hf
  refine zd_callIN (n := 0) (rest := [.ref (ad 8 0 0), .ref (ad 11 0 0)]) (c0 := 8) (i0 := 0) (n' := 34) (slots' := 4172) (made' := [(9, 0, 0), (9, 0, 1), (5, 0, 0), (5, 0, 1), (1, 0, 0), (1, 0, 1), (0, 7, 0), (0, 7, 6), (0, 7, 7), (0, 7, 1), (0, 7, 2), (0, 7, 3), (0, 7, 4), (0, 7, 5), (4, 0, 0), (10, 0, 0), (10, 0, 1), (4, 0, 4), (4, 0, 5), (4, 0, 6), (4, 0, 7), (0, 8, 0), (0, 8, 6), (0, 8, 7), (0, 8, 1), (0, 8, 2), (0, 8, 3), (0, 8, 4), (0, 8, 5), (8, 0, 0), (8, 0, 1), (8, 0, 2), (8, 0, 3), (8, 0, 4)]) (F' := ([(3, 0), (2, 0), (6, 0), (6, 1)] : List (Nat × Nat))) S hG hS hZ hB eN1 (by decide) (by decide) (by decide) hp29 rfl (fun h1 h2 h3 => c_X8_init l D aC zs A N1 (zks 11 0 [4, 5, 6, 7, 8, 9] nu) ad σ9 σ10 h1 h2 h3 (zks_nu hnu (by decide) (by decide)) eσ10.symm) (fun z hz => by subst hz; exact ⟨hp30, hp31, hp32, hp33, trivial⟩) (hZ.2.2.2.2.2.2.2.2.2.2.2.2.1) zw_185 zw_31 zw_186 rfl (by decide +kernel) ⟨rfl, rfl⟩ ⟨(Nat.le_of_ble_eq_true rfl), (Nat.le_of_ble_eq_true rfl)⟩ hl.1 rfl (by rfl) (Nat.le_of_ble_eq_true rfl) dX11_init_61 rfl rfl ⟨(Nat.le_of_ble_eq_true rfl), (Nat.le_of_ble_eq_true rfl)⟩ rfl (by decide) (by decide) (by decide) ⟨(8, 0, 4), by simp, by simp only [zad, hp33]⟩ ?_
  clear hG hS hB eN1
  intro H locs N hG hS hB
  refine zc_putref (N := N) (nu := (zks 11 0 [5, 6, 7, 8, 9] nu)) (ty := .object RX8) (c0 := 11) (i0 := 0) (k0 := 4) (T := TX11) S hG hS tyX11 tyX11_ok nmX11 hB.2.1 (zks_n hnu (by decide)) rfl inlX11 (by decide) rfl rfl hin2 rfl zw_32 (by decide +kernel) rfl rfl rfl dX11_init_64 ?_
  clear hG hS
  intro H locs hG hS
  refine lv_aload_n hx hb dX11_init_67 rfl (lv_at hl 0 rfl) ?_
  refine zd_new (c0 := 3) (i0 := 0) (C := RX3) (T := TX3) (n' := 35) (slots' := 4178) S hG hS hZ.1 hB tyX3 tyX3_ok rfl inlX3 zw_33 zw_34 zw_35 [0, 1, 2, 3] (by decide +kernel) (by decide +kernel) (by decide +kernel) (by decide) (zks_o hnu (by decide) (by decide)) hp34 rfl rfl (Nat.le_of_ble_eq_true rfl) (Nat.le_of_ble_eq_true rfl) dX11_init_68 ?_
  clear hG hS
  intro H N1 eN1 hG hS
  obtain ⟨σ11, eσ11, hf⟩ := zlt_s hf
  rw [← eσ11] at hG
  refine lv_dup hx hb dX11_init_71 rfl ?_
  obtain ⟨σ12, eσ12, hf⟩ := zlt_s hf
  refine zd_callIN (n := 0) (rest := [.ref (ad 3 0 0), .ref (ad 11 0 0)]) (c0 := 3) (i0 := 0) (n' := 39) (slots' := 4368) (made' := [(9, 0, 0), (9, 0, 1), (5, 0, 0), (5, 0, 1), (1, 0, 0), (1, 0, 1), (0, 7, 0), (0, 7, 6), (0, 7, 7), (0, 7, 1), (0, 7, 2), (0, 7, 3), (0, 7, 4), (0, 7, 5), (4, 0, 0), (10, 0, 0), (10, 0, 1), (4, 0, 4), (4, 0, 5), (4, 0, 6), (4, 0, 7), (0, 8, 0), (0, 8, 6), (0, 8, 7), (0, 8, 1), (0, 8, 2), (0, 8, 3), (0, 8, 4), (0, 8, 5), (8, 0, 0), (8, 0, 1), (8, 0, 2), (8, 0, 3), (8, 0, 4), (3, 0, 0), (3, 0, 1), (3, 0, 2), (3, 0, 3), (3, 0, 4)]) (F' := ([(2, 0), (6, 0), (6, 1)] : List (Nat × Nat))) S hG hS hZ hB eN1 (by decide) (by decide) (by decide) hp34 rfl (fun h1 h2 h3 => c_X3_init l D aC zs A N1 (zks 11 0 [5, 6, 7, 8, 9] nu) ad σ11 σ12 h1 h2 h3 (zks_nu hnu (by decide) (by decide)) eσ12.symm) (fun z hz => by subst hz; exact ⟨hp35, hp36, hp37, hp38, trivial⟩) (hZ.2.2.2.2.2.2.2.2.2.2.2.2.2.1) zw_193 zw_35 zw_194 rfl (by decide +kernel) ⟨rfl, rfl⟩ ⟨(Nat.le_of_ble_eq_true rfl), (Nat.le_of_ble_eq_true rfl)⟩ hl.1 rfl (by rfl) (Nat.le_of_ble_eq_true rfl) dX11_init_72 rfl rfl ⟨(Nat.le_of_ble_eq_true rfl), (Nat.le_of_ble_eq_true rfl)⟩ rfl (by decide) (by decide) (by decide) ⟨(3, 0, 4), by simp, by simp only [zad, hp38]⟩ ?_
  clear hG hS hB eN1
  intro H locs N hG hS hB
  refine zc_putref (N := N) (nu := (zks 11 0 [6, 7, 8, 9] nu)) (ty := .object RX3) (c0 := 11) (i0 := 0) (k0 := 5) (T := TX11) S hG hS tyX11 tyX11_ok nmX11 hB.2.1 (zks_n hnu (by decide)) rfl inlX11 (by decide) rfl rfl hin2 rfl zw_36 (by decide +kernel) rfl rfl rfl dX11_init_75 ?_
  clear hG hS
  intro H locs hG hS
  refine lv_aload_n hx hb dX11_init_78 rfl (lv_at hl 0 rfl) ?_
  refine zd_new (c0 := 2) (i0 := 0) (C := RX2) (T := TX2) (n' := 40) (slots' := 4370) S hG hS hZ.1 hB tyX2 tyX2_ok rfl inlX2 zw_37 zw_38 zw_39 [0] (by decide +kernel) (by decide +kernel) (by decide +kernel) (by decide) (zks_o hnu (by decide) (by decide)) hp39 rfl rfl (Nat.le_of_ble_eq_true rfl) (Nat.le_of_ble_eq_true rfl) dX11_init_79 ?_
  clear hG hS
  intro H N1 eN1 hG hS
  obtain ⟨σ13, eσ13, hf⟩ := zlt_s hf
  rw [← eσ13] at hG
  refine lv_dup hx hb dX11_init_82 rfl ?_
  obtain ⟨σ14, eσ14, hf⟩ := zbi hf
  refine zd_callI (n := 0) (rest := [.ref (ad 2 0 0), .ref (ad 11 0 0)]) (c0 := 2) (i0 := 0) (n' := 41) (slots' := 4650) (made' := [(9, 0, 0), (9, 0, 1), (5, 0, 0), (5, 0, 1), (1, 0, 0), (1, 0, 1), (0, 7, 0), (0, 7, 6), (0, 7, 7), (0, 7, 1), (0, 7, 2), (0, 7, 3), (0, 7, 4), (0, 7, 5), (4, 0, 0), (10, 0, 0), (10, 0, 1), (4, 0, 4), (4, 0, 5), (4, 0, 6), (4, 0, 7), (0, 8, 0), (0, 8, 6), (0, 8, 7), (0, 8, 1), (0, 8, 2), (0, 8, 3), (0, 8, 4), (0, 8, 5), (8, 0, 0), (8, 0, 1), (8, 0, 2), (8, 0, 3), (8, 0, 4), (3, 0, 0), (3, 0, 1), (3, 0, 2), (3, 0, 3), (3, 0, 4), (2, 0, 0), (2, 0, 1)]) (F' := ([(6, 0), (6, 1)] : List (Nat × Nat))) S hG hS hZ hB eN1 (by decide) (by decide) (by decide) hp39 rfl (fun h1 h2 h3 => c_X2_init l D aC zs A N1 (zks 11 0 [6, 7, 8, 9] nu) ad σ13 σ14 h1 h2 h3 (zks_nu hnu (by decide) (by decide)) eσ14) (fun z hz => by subst hz; exact ⟨hp40, trivial⟩) zw_202 zw_203 zw_39 zw_204 rfl (by decide +kernel) ⟨rfl, rfl⟩ ⟨(Nat.le_of_ble_eq_true rfl), (Nat.le_of_ble_eq_true rfl)⟩ hl.1 rfl (by rfl) (Nat.le_of_ble_eq_true rfl) dX11_init_83 rfl rfl ⟨(Nat.le_of_ble_eq_true rfl), (Nat.le_of_ble_eq_true rfl)⟩ rfl (by decide) (by decide) (by decide) ⟨(2, 0, 1), by simp, by simp only [zad, hp40]⟩ ?_
  clear hG hS hB eN1
  intro H locs N hG hS hB
  refine zc_putref (N := N) (nu := (zks 11 0 [7, 8, 9] nu)) (ty := .object RX2) (c0 := 11) (i0 := 0) (k0 := 6) (T := TX11) S hG hS tyX11 tyX11_ok nmX11 hB.2.1 (zks_n hnu (by decide)) rfl inlX11 (by decide) rfl rfl hin2 rfl zw_40 (by decide +kernel) rfl rfl rfl dX11_init_86 ?_
  clear hG hS
  intro H locs hG hS
  refine lv_aload_n hx hb dX11_init_89 rfl (lv_at hl 0 rfl) ?_
  refine lv_bipush (v := 10) hx hb dX11_init_90 (by decide) ?_
  refine zd_newq (t0 := 4) (n0 := 8) (c1 := 7) (C := RX7) (c0 := 11) (i0 := 0) (k0 := 7) (N1 := 10) (n' := 42) (slots' := 4660) (made' := [(9, 0, 0), (9, 0, 1), (5, 0, 0), (5, 0, 1), (1, 0, 0), (1, 0, 1), (0, 7, 0), (0, 7, 6), (0, 7, 7), (0, 7, 1), (0, 7, 2), (0, 7, 3), (0, 7, 4), (0, 7, 5), (4, 0, 0), (10, 0, 0), (10, 0, 1), (4, 0, 4), (4, 0, 5), (4, 0, 6), (4, 0, 7), (0, 8, 0), (0, 8, 6), (0, 8, 7), (0, 8, 1), (0, 8, 2), (0, 8, 3), (0, 8, 4), (0, 8, 5), (8, 0, 0), (8, 0, 1), (8, 0, 2), (8, 0, 3), (8, 0, 4), (3, 0, 0), (3, 0, 1), (3, 0, 2), (3, 0, 3), (3, 0, 4), (2, 0, 0), (2, 0, 1), (11, 0, 8)]) S hG hS hZ.1 hB hZ.2.2.2.2.2.2.2.2.1 zw_41 rfl (fun _ => rfl) (by decide) (by decide) hp41 (by decide) (by decide) (by decide) (Nat.le_of_ble_eq_true rfl) rfl rfl rfl (Nat.le_of_ble_eq_true rfl) (Nat.le_of_ble_eq_true rfl) dX11_init_92 ?_
  clear hG hS hB
  intro H N hG hS hB hlast
  obtain ⟨σ15, eσ15, hf⟩ := zlt_s hf
  rw [← eσ15] at hG
  refine zc_putref (N := N) (nu := (zks 11 0 [8, 9] nu)) (ty := .array (.object RX7)) (c0 := 11) (i0 := 0) (k0 := 7) (T := TX11) S hG hS tyX11 tyX11_ok nmX11 hB.2.1 (zks_n hnu (by decide)) rfl inlX11 (by decide) rfl rfl hin2 rfl zw_42 (by decide +kernel) rfl rfl rfl dX11_init_95 ?_
  clear hG hS
  intro H locs hG hS
  refine lv_aload_n hx hb dX11_init_98 rfl (lv_at hl 0 rfl) ?_
  refine zd_new (c0 := 6) (i0 := 0) (C := RX6) (T := TX6) (n' := 43) (slots' := 4669) S hG hS hZ.1 hB tyX6 tyX6_ok rfl inlX6 zw_43 zw_44 zw_45 [0, 1, 2, 3, 4, 5] (by decide +kernel) (by decide +kernel) (by decide +kernel) (by decide) (zks_o hnu (by decide) (by decide)) hp42 rfl rfl (Nat.le_of_ble_eq_true rfl) (Nat.le_of_ble_eq_true rfl) dX11_init_99 ?_
  clear hG hS
  intro H N1 eN1 hG hS
  obtain ⟨σ16, eσ16, hf⟩ := zlt_s hf
  rw [← eσ16] at hG
  refine lv_dup hx hb dX11_init_102 rfl ?_
  obtain ⟨σ17, eσ17, hf⟩ := zlt_s hf
  refine zd_callIN (n := 0) (rest := [.ref (ad 6 0 0), .ref (ad 11 0 0)]) (c0 := 6) (i0 := 0) (n' := 49) (slots' := 4783) (made' := [(9, 0, 0), (9, 0, 1), (5, 0, 0), (5, 0, 1), (1, 0, 0), (1, 0, 1), (0, 7, 0), (0, 7, 6), (0, 7, 7), (0, 7, 1), (0, 7, 2), (0, 7, 3), (0, 7, 4), (0, 7, 5), (4, 0, 0), (10, 0, 0), (10, 0, 1), (4, 0, 4), (4, 0, 5), (4, 0, 6), (4, 0, 7), (0, 8, 0), (0, 8, 6), (0, 8, 7), (0, 8, 1), (0, 8, 2), (0, 8, 3), (0, 8, 4), (0, 8, 5), (8, 0, 0), (8, 0, 1), (8, 0, 2), (8, 0, 3), (8, 0, 4), (3, 0, 0), (3, 0, 1), (3, 0, 2), (3, 0, 3), (3, 0, 4), (2, 0, 0), (2, 0, 1), (11, 0, 8), (6, 0, 0), (6, 0, 1), (6, 0, 2), (6, 0, 3), (6, 0, 4), (6, 0, 5), (6, 0, 6)]) (F' := ([(6, 1)] : List (Nat × Nat))) S hG hS hZ hB eN1 (by decide) (by decide) (by decide) hp42 rfl (fun h1 h2 h3 => c_X6_init l D aC zs A N1 (zks 11 0 [8, 9] nu) ad σ16 0 σ17 h1 h2 h3 (zks_nu hnu (by decide) (by decide)) eσ17.symm) (fun z hz => by subst hz; exact ⟨hp43, hp44, hp45, hp46, hp47, hp48, trivial⟩) (hZ.2.2.2.2.2.2.2.2.2.2.2.2.2.2) zw_208 zw_45 zw_209 rfl (by decide +kernel) ⟨rfl, rfl⟩ ⟨(Nat.le_of_ble_eq_true rfl), (Nat.le_of_ble_eq_true rfl)⟩ hl.1 rfl (by rfl) (Nat.le_of_ble_eq_true rfl) dX11_init_103 rfl rfl ⟨(Nat.le_of_ble_eq_true rfl), (Nat.le_of_ble_eq_true rfl)⟩ rfl (by decide) (by decide) (by decide) ⟨(6, 0, 6), by simp, by simp only [zad, hp48]⟩ ?_
  clear hG hS hB eN1
  intro H locs N hG hS hB
  refine zc_putref (N := N) (nu := (zks 11 0 [9] nu)) (ty := .object RX6) (c0 := 11) (i0 := 0) (k0 := 8) (T := TX11) S hG hS tyX11 tyX11_ok nmX11 hB.2.1 (zks_n hnu (by decide)) rfl inlX11 (by decide) rfl rfl hin2 rfl zw_46 (by decide +kernel) rfl rfl rfl dX11_init_106 ?_
  clear hG hS
  intro H locs hG hS
  refine lv_aload_n hx hb dX11_init_109 rfl (lv_at hl 0 rfl) ?_
  refine zd_new (c0 := 6) (i0 := 1) (C := RX6) (T := TX6) (n' := 50) (slots' := 4792) S hG hS hZ.1 hB tyX6 tyX6_ok rfl inlX6 zw_43 zw_44 zw_45 [0, 1, 2, 3, 4, 5] (by decide +kernel) (by decide +kernel) (by decide +kernel) (by decide) (zks_o hnu (by decide) (by decide)) hp49 rfl rfl (Nat.le_of_ble_eq_true rfl) (Nat.le_of_ble_eq_true rfl) dX11_init_110 ?_
  clear hG hS
  intro H N1 eN1 hG hS
  obtain ⟨σ18, eσ18, hf⟩ := zlt_s hf
  rw [← eσ18] at hG
  refine lv_dup hx hb dX11_init_113 rfl ?_
  obtain ⟨σ19, eσ19, hf⟩ := zlt_s hf
  refine zd_callIN (n := 0) (rest := [.ref (ad 6 1 0), .ref (ad 11 0 0)]) (c0 := 6) (i0 := 1) (n' := 56) (slots' := 4906) (made' := [(9, 0, 0), (9, 0, 1), (5, 0, 0), (5, 0, 1), (1, 0, 0), (1, 0, 1), (0, 7, 0), (0, 7, 6), (0, 7, 7), (0, 7, 1), (0, 7, 2), (0, 7, 3), (0, 7, 4), (0, 7, 5), (4, 0, 0), (10, 0, 0), (10, 0, 1), (4, 0, 4), (4, 0, 5), (4, 0, 6), (4, 0, 7), (0, 8, 0), (0, 8, 6), (0, 8, 7), (0, 8, 1), (0, 8, 2), (0, 8, 3), (0, 8, 4), (0, 8, 5), (8, 0, 0), (8, 0, 1), (8, 0, 2), (8, 0, 3), (8, 0, 4), (3, 0, 0), (3, 0, 1), (3, 0, 2), (3, 0, 3), (3, 0, 4), (2, 0, 0), (2, 0, 1), (11, 0, 8), (6, 0, 0), (6, 0, 1), (6, 0, 2), (6, 0, 3), (6, 0, 4), (6, 0, 5), (6, 0, 6), (6, 1, 0), (6, 1, 1), (6, 1, 2), (6, 1, 3), (6, 1, 4), (6, 1, 5), (6, 1, 6)]) (F' := ([] : List (Nat × Nat))) S hG hS hZ hB eN1 (by decide) (by decide) (by decide) hp49 rfl (fun h1 h2 h3 => c_X6_init l D aC zs A N1 (zks 11 0 [9] nu) ad σ18 1 σ19 h1 h2 h3 (zks_nu hnu (by decide) (by decide)) eσ19.symm) (fun z hz => by subst hz; exact ⟨hp50, hp51, hp52, hp53, hp54, hp55, trivial⟩) (hZ.2.2.2.2.2.2.2.2.2.2.2.2.2.2) zw_208 zw_45 zw_209 rfl (by decide +kernel) ⟨rfl, rfl⟩ ⟨(Nat.le_of_ble_eq_true rfl), (Nat.le_of_ble_eq_true rfl)⟩ hl.1 rfl (by rfl) (Nat.le_of_ble_eq_true rfl) dX11_init_114 rfl rfl ⟨(Nat.le_of_ble_eq_true rfl), (Nat.le_of_ble_eq_true rfl)⟩ rfl (by decide) (by decide) (by decide) ⟨(6, 1, 6), by simp, by simp only [zad, hp55]⟩ ?_
  clear hG hS hB eN1
  intro H locs N hG hS hB
  refine zc_putref (N := N) (nu := nu) (ty := .object RX6) (c0 := 11) (i0 := 0) (k0 := 9) (T := TX11) S hG hS tyX11 tyX11_ok nmX11 hB.2.1 (fun h => hnu _ h List.mem_cons_self) rfl inlX11 (by decide) rfl rfl hin2 rfl zw_47 (by decide +kernel) rfl rfl rfl dX11_init_117 ?_
  clear hG hS
  intro H locs hG hS
  refine lv_aload_n hx hb dX11_init_120 rfl (lv_at hl 0 rfl) ?_
  refine lv_iconst (v := 0) hx hb dX11_init_121 (by decide) ?_
  refine zc_putI (c0 := 11) (i0 := 0) (k0 := 10) (T := TX11) S hG hS tyX11 tyX11_ok nmX11 hB.2.1 (fun h => hnu _ h List.mem_cons_self) rfl inlX11 (by decide) rfl (Or.inl rfl) zw_48 (by decide +kernel) rfl dX11_init_122 (fun H locs hG hS => ?_)
  obtain ⟨σ20, eσ20, hf⟩ := zlt_s hf
  rw [← eσ20] at hG
  refine lv_aload_n hx hb dX11_init_125 rfl (lv_at hl 0 rfl) ?_
  refine lv_iconst (v := (-1)) hx hb dX11_init_126 (by decide) ?_
  refine zc_putI (c0 := 11) (i0 := 0) (k0 := 11) (T := TX11) S hG hS tyX11 tyX11_ok nmX11 hB.2.1 (fun h => hnu _ h List.mem_cons_self) rfl inlX11 (by decide) rfl (Or.inl rfl) zw_49 (by decide +kernel) rfl dX11_init_127 (fun H locs hG hS => ?_)
  obtain ⟨σ21, eσ21, hf⟩ := zlt_s hf
  rw [← eσ21] at hG
  refine lv_aload_n hx hb dX11_init_130 rfl (lv_at hl 0 rfl) ?_
  refine lv_iconst (v := 0) hx hb dX11_init_131 (by decide) ?_
  refine zc_putI (c0 := 11) (i0 := 0) (k0 := 12) (T := TX11) S hG hS tyX11 tyX11_ok nmX11 hB.2.1 (fun h => hnu _ h List.mem_cons_self) rfl inlX11 (by decide) rfl (Or.inl rfl) zw_50 (by decide +kernel) rfl dX11_init_132 (fun H locs hG hS => ?_)
  obtain ⟨σ22, eσ22, hf⟩ := zlt_s hf
  rw [← eσ22] at hG
  refine lv_aload_n hx hb dX11_init_135 rfl (lv_at hl 0 rfl) ?_
  refine lv_lconst (v := 0) hx hb dX11_init_136 (by decide) ?_
  refine zc_putJ (c0 := 11) (i0 := 0) (k0 := 13) (T := TX11) S hG hS tyX11 tyX11_ok nmX11 hB.2.1 (fun h => hnu _ h List.mem_cons_self) rfl inlX11 (by decide) rfl (Or.inl rfl) zw_51 (by decide +kernel) rfl dX11_init_137 (fun H locs hG hS => ?_)
  obtain ⟨σ23, eσ23, hf⟩ := zlt_s hf
  rw [← eσ23] at hG
  refine lv_aload_n hx hb dX11_init_140 rfl (lv_at hl 0 rfl) ?_
  refine lv_iconst (v := 0) hx hb dX11_init_141 (by decide) ?_
  refine zc_putI (c0 := 11) (i0 := 0) (k0 := 14) (T := TX11) S hG hS tyX11 tyX11_ok nmX11 hB.2.1 (fun h => hnu _ h List.mem_cons_self) rfl inlX11 (by decide) rfl (Or.inl rfl) zw_52 (by decide +kernel) rfl dX11_init_142 (fun H locs hG hS => ?_)
  obtain ⟨σ24, eσ24, hf⟩ := zlt_s hf
  rw [← eσ24] at hG
  refine lv_aload_n hx hb dX11_init_145 rfl (lv_at hl 0 rfl) ?_
  refine lv_iconst (v := 0) hx hb dX11_init_146 (by decide) ?_
  refine zc_putI (c0 := 11) (i0 := 0) (k0 := 15) (T := TX11) S hG hS tyX11 tyX11_ok nmX11 hB.2.1 (fun h => hnu _ h List.mem_cons_self) rfl inlX11 (by decide) rfl (Or.inl rfl) zw_53 (by decide +kernel) rfl dX11_init_147 (fun H locs hG hS => ?_)
  obtain ⟨σ25, eσ25, hf⟩ := zlt_s hf
  rw [← eσ25] at hG
  refine lv_aload_n hx hb dX11_init_150 rfl (lv_at hl 0 rfl) ?_
  refine lv_iconst (v := 0) hx hb dX11_init_151 (by decide) ?_
  refine zc_putI (c0 := 11) (i0 := 0) (k0 := 16) (T := TX11) S hG hS tyX11 tyX11_ok nmX11 hB.2.1 (fun h => hnu _ h List.mem_cons_self) rfl inlX11 (by decide) rfl (Or.inl rfl) zw_54 (by decide +kernel) rfl dX11_init_152 (fun H locs hG hS => ?_)
  obtain ⟨σ26, eσ26, hf⟩ := zlt_s hf
  rw [← eσ26] at hG
  refine lv_aload_n hx hb dX11_init_155 rfl (lv_at hl 0 rfl) ?_
  refine lv_iconst (v := 0) hx hb dX11_init_156 (by decide) ?_
  refine zc_putI (c0 := 11) (i0 := 0) (k0 := 17) (T := TX11) S hG hS tyX11 tyX11_ok nmX11 hB.2.1 (fun h => hnu _ h List.mem_cons_self) rfl inlX11 (by decide) rfl (Or.inl rfl) zw_55 (by decide +kernel) rfl dX11_init_157 (fun H locs hG hS => ?_)
  obtain ⟨σ27, eσ27, hf⟩ := zlt_s hf
  rw [← eσ27] at hG
  refine lv_aload_n hx hb dX11_init_160 rfl (lv_at hl 0 rfl) ?_
  refine lv_iconst (v := 0) hx hb dX11_init_161 (by decide) ?_
  refine zc_putI (c0 := 11) (i0 := 0) (k0 := 18) (T := TX11) S hG hS tyX11 tyX11_ok nmX11 hB.2.1 (fun h => hnu _ h List.mem_cons_self) rfl inlX11 (by decide) rfl (Or.inl rfl) zw_56 (by decide +kernel) rfl dX11_init_162 (fun H locs hG hS => ?_)
  obtain ⟨σ28, eσ28, hf⟩ := zlt_s hf
  rw [← eσ28] at hG
  have hq := (Option.some.inj hf)
  subst hq
  rw [hB.1] at hG
  exact z_vret S hG hS hlocks trivial hr dX11_init_165
