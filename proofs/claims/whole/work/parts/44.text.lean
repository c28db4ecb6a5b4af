/-! texts: what a text is, calls that carry it along, the JDK's length and charAt -/
def zStr (k : Nat) (tx : List Int32) (A : Nat → Prop) (U : State) (H : Heap) : Prop := va_O RJ0 k A U H ∧ va_OF RJ0 "coder" "B" (.int 0) k A U H ∧ ∃ v, va_OF RJ0 "value" "[B" (.ref v) k A U H ∧ va_T .byte v tx.length (fun j => .int (tx.getD j 0)) A U H
/-- what stays while the state goes on -/
def zSta (A : Nat → Prop) (E : State → Heap → Prop) : Prop := (∀ (u U : State) (H : Heap), u.WarmedH U.vm → E u H → E U H) ∧ (∀ (u U : State) (H : Heap), U.vm = u.vm → E u H → E U H) ∧ ∀ (U : State) (H H1 : Heap), (∀ a : Nat, a < H.size → ¬ A a → H1[a]? = H[a]?) → E U H → E U H1
theorem zAlk {u U : State} (h : U.vm = u.vm) : u.vm.Alike U.vm := by rw [h]; exact Vm.Alike.refl _
theorem zStr_sta (k : Nat) (tx : List Int32) (A : Nat → Prop) : zSta A (zStr k tx A) := ⟨fun u U H hW h => ⟨va_O.moved hW.alike h.1, va_OF.moved hW.alike h.2.1, by obtain ⟨v, h1, h2⟩ := h.2.2; exact ⟨v, va_OF.moved hW.alike h1, va_T.moved hW.alike h2⟩⟩, fun u U H hv h => ⟨va_O.moved (zAlk hv) h.1, va_OF.moved (zAlk hv) h.2.1, by obtain ⟨v, h1, h2⟩ := h.2.2; exact ⟨v, va_OF.moved (zAlk hv) h1, va_T.moved (zAlk hv) h2⟩⟩, fun U H H1 hq h => ⟨h.1.kept hq, h.2.1.kept hq, by obtain ⟨v, h1, h2⟩ := h.2.2; exact ⟨v, h1.kept hq, h2.kept hq⟩⟩⟩
theorem zT_sta (ty : FieldType) (v n : Nat) (f : Nat → Value) (A : Nat → Prop) : zSta A (va_T ty v n f A) := ⟨fun _ _ _ hW h => va_T.moved hW.alike h, fun _ _ _ hv h => va_T.moved (zAlk hv) h, fun _ _ _ hq h => h.kept hq⟩
def zPe (D : va_G) (aC : Nat → ClassId) (zs : Nat × Nat) (A : Nat → Prop) (nl : zNL) (ad : Nat → Nat → Nat → Nat) (σ : zM) (E : State → Heap → Prop) (av : List Value) : Array Value → State → Prop := va_Pc av (fun U => (zG D aC A nl ad σ U U.heap ∧ zH zs [] A nl U) ∧ E U U.heap)
theorem zPe_blind {D : va_G} {aC : Nat → ClassId} {zs : Nat × Nat} {A : Nat → Prop} {nl : zNL} {ad : Nat → Nat → Nat → Nat} {σ : zM} {E : State → Heap → Prop} {av : List Value} (hE : zSta A E) : FrameBlind (zPe D aC zs A nl ad σ E av) := by
  intro a U g mk h
  obtain ⟨h0, ⟨h1, h2, h3, h4⟩, h5⟩ := h
  exact ⟨h0, ⟨h1.kept (U := U.calling g mk a) (Vm.Alike.refl U.vm), h2, h3, zSt.same (u := U) (U := U.calling g mk a) rfl h4⟩, hE.2.1 U _ _ rfl h5⟩
theorem zPe_of {D : va_G} {aC : Nat → ClassId} {zs : Nat × Nat} {fx : List (Nat × Nat)} {A : Nat → Prop} {nl nl0 : zNL} {ad : Nat → Nat → Nat → Nat} {σ : zM} {E : State → Heap → Prop} {av : List Value} {s U : State} {H : Heap} {locs : List Loc} (hsta : zSta A E) (hG : zG D aC A nl ad σ s H) (hZ : zH zs fx A nl0 s) (hE : E s s.heap) (hS : va_S A s.heap H locs) (hU : U.heap = H) (hW : s.WarmedH U.vm) : zPe D aC zs A nl ad σ E av av.toArray U := by
  refine ⟨rfl, ⟨?_, ?_, fun _ h => (by cases h), ?_⟩, ?_⟩
  · rw [hU]; exact hG.kept hW.alike
  · intro q h
    rw [hU] at h
    exact hZ.1 q (Nat.le_trans hS.1 h)
  · rw [hU]
    exact (hZ.2.2.moved hW).kept hS.2.1
  · rw [hU]
    exact hsta.2.2 _ _ _ hS.2.1 (hsta.1 _ _ _ hW hE)
section ZTEXT
variable {p : Program} {l : Launch} {e : Env} {R : Room} {s : State} {m : MethodId} {args : Array Value} {below : List Frame} {meth : Method} {c : Code} {H : Heap} {locs : List Loc} {cells slots : Nat} {Q : State → Prop}
variable {cc : ByteArray} {nL pc : Nat} {ls : Array Slot} {rest : List Value} {D : va_G} {A : Nat → Prop} {aC : Nat → ClassId} {nl : zNL} {ad : Nat → Nat → Nat → Nat} {σ : zM} {H0 : Heap} {own : String}
variable {y : MethodName} {bytes : ByteArray} {maxL index n : Nat} {ret : Option FieldType} {rm : Room} {zs : Nat × Nat} {fx : List (Nat × Nat)} {nl0 : zNL} {As : List Value} {v0 : Option Value} {σ' : zM} {E : State → Heap → Prop}
theorem z_callVE {Px : Prop} {b : Nat} {C : String} (hsta : zSta A E) (hE : E s s.heap) (hrc : ∃ cell : Cell, H[b]? = some cell ∧ cell.vm.isStatics = false ∧ s.vm.findClass C = some cell.cls) (S : zS p m c cc nL s args own) (hG : zG D aC A nl ad σ s H) (hS : va_S A s.heap H locs) (hZ : zH zs fx A nl0 s) (hM : Met l y (Cond.code y bytes maxL ret :: wsL_law) rm (zPe D aC zs A nl ad σ E (.ref b :: As)) (zQ v0 (fun t => zG D aC A nl ad σ' t t.heap ∧ Px) A) 0 0 A) (w1 : Cond.methodLink own index y ∈ wsL_law) (w2 : Cond.instanceMethod y ∈ wsL_law) (w3 : Cond.selects C y y ∈ wsL_law) (w4 : Cond.initialized C ∈ wsL_law) (w5 : Cond.code y bytes maxL ret ∈ wsL_law) (hd : y.cls = C ∧ y.cls ≠ "java/lang/invoke/MethodHandle" ∧ y.cls ≠ "java/lang/invoke/VarHandle" ∧ (parseMethodDescriptor y.desc).map (fun d => d.parameters.length) = some n) (hrm : rm.cells = 0 ∧ rm.slots = 0) (hR : rm.frames + 1 ≤ R.frames ∧ 8 + (maxL + 11) + rm.locals ≤ R.locals) (hl : ls.size = nL) (hlen : As.length = n) {st0 st1 : List Value} (hst : st0 = As.reverse ++ .ref b :: rest) (hst1 : v0.toList ++ rest = st1) (hw : (rest.map fun v => v.category).sum ≤ 8) (hdg : decode cc pc = .ok (.invokevirtual index, 3)) (hroom : cells ≤ R.cells ∧ slots ≤ R.slots)
    (kk : ∀ (H1 : Heap) (locs1 : List Loc), Px → zG D aC A nl ad σ' s H1 → va_S A s.heap H1 locs1 → W p l e R s m args below meth c H1 locs1 cells slots Q (F0 m (pc + 3) ls st1)) : W p l e R s m args below meth c H locs cells slots Q (F0 m pc ls st0) := by
  subst hst1
  refine z_run (va_runV S hM (cwV n S.2.2.2.2 (zGV w1 w2 w3 w4 w5) rfl hrm.1 hrm.2 hd hR) ⟨zPe_blind hsta, hrc, fun U hU hW => zPe_of hsta hG hZ hE hS hU hW⟩ rfl hlen hl hst (lv_room hw) hdg hroom) hS (fun t H1 locs1 ht hvm hg hS1 => ?_)
  have hg1 := hg.1
  rw [ht] at hg1
  exact kk H1 locs1 hg.2 (zG.kept hg1 hvm.symm) hS1
theorem z_callSE {Px : Prop} (hsta : zSta A E) (hE : E s s.heap) (S : zS p m c cc nL s args own) (hG : zG D aC A nl ad σ s H) (hS : va_S A s.heap H locs) (hZ : zH zs fx A nl0 s) (hM : Met l y (Cond.code y bytes maxL ret :: wsL_law) rm (zPe D aC zs A nl ad σ E As) (zQ v0 (fun t => zG D aC A nl ad σ' t t.heap ∧ Px) A) 0 0 A) (w1 : Cond.methodLink own index y ∈ wsL_law) (w2 : Cond.static y ∈ wsL_law) (w4 : Cond.initialized y.cls ∈ wsL_law) (w5 : Cond.code y bytes maxL ret ∈ wsL_law) (hd : y.cls ≠ "java/lang/invoke/MethodHandle" ∧ y.cls ≠ "java/lang/invoke/VarHandle" ∧ (parseMethodDescriptor y.desc).map (fun d => d.parameters.length) = some n) (hrm : rm.cells = 0 ∧ rm.slots = 0) (hR : rm.frames + 1 ≤ R.frames ∧ 8 + (maxL + 11) + rm.locals ≤ R.locals) (hl : ls.size = nL) (hlen : As.length = n) {st0 st1 : List Value} (hst : st0 = As.reverse ++ rest) (hst1 : v0.toList ++ rest = st1) (hw : (rest.map fun v => v.category).sum ≤ 8) (hdg : decode cc pc = .ok (.invokestatic index, 3)) (hroom : cells ≤ R.cells ∧ slots ≤ R.slots)
    (kk : ∀ (H1 : Heap) (locs1 : List Loc), Px → zG D aC A nl ad σ' s H1 → va_S A s.heap H1 locs1 → W p l e R s m args below meth c H1 locs1 cells slots Q (F0 m (pc + 3) ls st1)) : W p l e R s m args below meth c H locs cells slots Q (F0 m pc ls st0) := by
  subst hst1
  refine z_run (va_runS S hM (va_cwS n S.2.2.2.2 (zGS w1 w2 w4 w5) rfl hrm.1 hrm.2 hd hR) ⟨zPe_blind hsta, fun U hU hW => zPe_of hsta hG hZ hE hS hU hW⟩ rfl hlen hl hst (lv_room hw) hdg hroom) hS (fun t H1 locs1 ht hvm hg hS1 => ?_)
  have hg1 := hg.1
  rw [ht] at hg1
  exact kk H1 locs1 hg.2 (zG.kept hg1 hvm.symm) hS1
theorem zStr_recv {k : Nat} {tx : List Int32} (hT : zStr k tx A s s.heap) (hS : va_S A s.heap H locs) : ∃ cell : Cell, H[k]? = some cell ∧ cell.vm.isStatics = false ∧ s.vm.findClass RJ0 = some cell.cls := by
  obtain ⟨cell, h1, h2, h3, -⟩ := hT.1.kept hS.2.1
  exact ⟨cell, h1, h2, h3⟩
end ZTEXT
/-- a byte that is a letter or a blank comes out as itself -/
def zCh (b : Int32) : Prop := ((b &&& 255).toUInt32 % 65536).toInt32 = b ∧ narrow .char (.int b) = .int b
theorem zCh_of {tx : List Int32} (h : tx.all (fun b => decide (((b &&& 255).toUInt32 % 65536).toInt32 = b) && decide (b.toUInt32.toUInt16.toUInt32.toInt32 = b)) = true) (j : Nat) (hj : j < tx.length) : zCh (tx.getD j 0) := by
  have h1 := List.all_eq_true.mp h (tx.getD j 0) (by rw [List.getD_eq_getElem?_getD, List.getElem?_eq_getElem hj]; exact List.getElem_mem hj)
  simp only [Bool.and_eq_true, decide_eq_true_eq] at h1
  refine ⟨h1.1, ?_⟩
  show narrow .char (.int (tx.getD j 0)) = _
  simp only [narrow, h1.2]
theorem zlt_of {i : Int32} {n : Nat} (h : vp_in i n) (hn : n < 2147483648) : i < Int32.ofNat n := by
  have h0 : ¬ i < 0 := fun h' => h (Or.inl h')
  have h1 : ¬ n ≤ i.toNatClampNeg := fun h' => h (Or.inr h')
  have h2 : (0 : Int) ≤ i.toInt := by
    have := Int32.not_lt.mp h0
    simpa using Int32.le_iff_toInt_le.mp this
  have h3 : (i.toNatClampNeg : Int) = i.toInt := by
    show ((i.toInt.toNat : Nat) : Int) = _
    omega
  rw [Int32.lt_iff_toInt_lt, Int32.toInt_ofNat_of_lt hn]
  omega

set_option maxRecDepth 100000 in
set_option maxHeartbeats 4000000 in
theorem c_J0_coder_7d493 (l : Launch) (D : va_G) (aC : Nat → ClassId) (zs : Nat × Nat) (A : Nat → Prop) (nl : zNL) (ad : Nat → Nat → Nat → Nat) (σ : zM) (k : Nat) (tx : List Int32) : Met l yJ0_coder_7d493 (Cond.code yJ0_coder_7d493 cJ0_coder_7d493 1 (some .byte) :: wsL_law) ({ frames := 0, cells := 0, slots := 0, locals := 0 } : Room) (zPe D aC zs A nl ad σ (zStr k tx A) [.ref k]) (zQ (some (.int 0)) (fun t => zG D aC A nl ad σ t t.heap ∧ True) A) 0 0 A := by
  refine Met.ofW (cc := cJ0_coder_7d493) (maxL := 1) (ret := (some .byte)) (by decide) rfl ?_
  intro p e s m args below meth c s₁ B hml hv
  obtain ⟨rfl, ⟨hG, hZ⟩, hT⟩ := hv
  have hx := B.exec
  have hb := B.bytes
  have hr := B.returns
  have hts : ∀ w ∈ wsL_law, w.before ([.ref k] : List Value).toArray s = true := fun w h => (atoms_spec B.pre) w (List.mem_cons_of_mem _ h)
  have hown : s.vm.findClass RJ0 = some m.cls := findClass_of_methodNamed B.named
  have hlocks := B.notSynchronized
  have S : zS p m c cJ0_coder_7d493 1 s ([.ref k] : List Value).toArray RJ0 := ⟨hx, hb, hml, hown, hts⟩
  have hS : va_S A s.heap s.heap [] := va_S.rf
  have hl := lv_entry ([.ref k]) (n := 1) (Nat.le_of_ble_eq_true rfl)
  rw [lg_entry_eq]
  generalize (lg_sl ([.ref k]) ++ List.replicate (1 - (lg_sl ([.ref k])).length) Slot.unset).toArray = ls at hl ⊢
  have hl : lv_has ls 1 [(0, .ref k)] := hl
  generalize hargs : ([.ref k] : List Value).toArray = args at S hts ⊢
  clear hargs
  obtain ⟨adK, adV, sf, hs0, hr0, hr1, hr2, hcs, hfm, hsf⟩ := hZ.2.2.2.2.2.2.1
  refine z_gets (v := .int 1) S hcs hS zw_141 dJ0_coder_7d493_0 ?_
  refine lv_if_eq (tgt := 13) hx hb dJ0_coder_7d493_3 (by decide) (fun h => absurd h (by decide)) (fun _ => ?_)
  refine lv_aload_n hx hb dJ0_coder_7d493_6 rfl (lv_at hl 0 rfl) ?_
  refine vk_getf hx hb hT.2.1 hS hown (hts _ zw_142) (fun _ h => h) dJ0_coder_7d493_7 ?_
  refine lv_goto (tgt := 14) hx hb dJ0_coder_7d493_10 (by decide) ?_
  exact W.zret S.1 S.2.1 hr (rfl) (fun t ht hW => z_ret S hG hS trivial _ t ht hW) hS.2.2 dJ0_coder_7d493_14 hlocks
set_option maxRecDepth 100000 in
set_option maxHeartbeats 4000000 in
theorem c_J0_isLatin1_aae02 (l : Launch) (D : va_G) (aC : Nat → ClassId) (zs : Nat × Nat) (A : Nat → Prop) (nl : zNL) (ad : Nat → Nat → Nat → Nat) (σ : zM) (k : Nat) (tx : List Int32) : Met l yJ0_isLatin1_aae02 (Cond.code yJ0_isLatin1_aae02 cJ0_isLatin1_aae02 1 (some .boolean) :: wsL_law) ({ frames := 0, cells := 0, slots := 0, locals := 0 } : Room) (zPe D aC zs A nl ad σ (zStr k tx A) [.ref k]) (zQ (some (.int 1)) (fun t => zG D aC A nl ad σ t t.heap ∧ True) A) 0 0 A := by
  refine Met.ofW (cc := cJ0_isLatin1_aae02) (maxL := 1) (ret := (some .boolean)) (by decide) rfl ?_
  intro p e s m args below meth c s₁ B hml hv
  obtain ⟨rfl, ⟨hG, hZ⟩, hT⟩ := hv
  have hx := B.exec
  have hb := B.bytes
  have hr := B.returns
  have hts : ∀ w ∈ wsL_law, w.before ([.ref k] : List Value).toArray s = true := fun w h => (atoms_spec B.pre) w (List.mem_cons_of_mem _ h)
  have hown : s.vm.findClass RJ0 = some m.cls := findClass_of_methodNamed B.named
  have hlocks := B.notSynchronized
  have S : zS p m c cJ0_isLatin1_aae02 1 s ([.ref k] : List Value).toArray RJ0 := ⟨hx, hb, hml, hown, hts⟩
  have hS : va_S A s.heap s.heap [] := va_S.rf
  have hl := lv_entry ([.ref k]) (n := 1) (Nat.le_of_ble_eq_true rfl)
  rw [lg_entry_eq]
  generalize (lg_sl ([.ref k]) ++ List.replicate (1 - (lg_sl ([.ref k])).length) Slot.unset).toArray = ls at hl ⊢
  have hl : lv_has ls 1 [(0, .ref k)] := hl
  generalize hargs : ([.ref k] : List Value).toArray = args at S hts ⊢
  clear hargs
  obtain ⟨adK, adV, sf, hs0, hr0, hr1, hr2, hcs, hfm, hsf⟩ := hZ.2.2.2.2.2.2.1
  refine z_gets (v := .int 1) S hcs hS zw_141 dJ0_isLatin1_aae02_0 ?_
  refine lv_if_eq (tgt := 17) hx hb dJ0_isLatin1_aae02_3 (by decide) (fun h => absurd h (by decide)) (fun _ => ?_)
  refine lv_aload_n hx hb dJ0_isLatin1_aae02_6 rfl (lv_at hl 0 rfl) ?_
  refine vk_getf hx hb hT.2.1 hS hown (hts _ zw_142) (fun _ h => h) dJ0_isLatin1_aae02_7 ?_
  refine lv_if_ne (tgt := 17) hx hb dJ0_isLatin1_aae02_10 (by decide) (fun h => absurd rfl h) (fun _ => ?_)
  refine lv_iconst (v := 1) hx hb dJ0_isLatin1_aae02_13 (by decide) ?_
  refine lv_goto (tgt := 18) hx hb dJ0_isLatin1_aae02_14 (by decide) ?_
  exact W.zret S.1 S.2.1 hr (rfl) (fun t ht hW => z_ret S hG hS trivial _ t ht hW) hS.2.2 dJ0_isLatin1_aae02_18 hlocks
set_option maxRecDepth 100000 in
set_option maxHeartbeats 4000000 in
theorem c_J0_length_8abf5 (l : Launch) (D : va_G) (aC : Nat → ClassId) (zs : Nat × Nat) (A : Nat → Prop) (nl : zNL) (ad : Nat → Nat → Nat → Nat) (σ : zM) (k : Nat) (tx : List Int32) : Met l yJ0_length_8abf5 (Cond.code yJ0_length_8abf5 cJ0_length_8abf5 1 (some .int) :: wsL_law) ({ frames := 1, cells := 0, slots := 0, locals := 20 } : Room) (zPe D aC zs A nl ad σ (zStr k tx A) [.ref k]) (zQ (some (.int (Int32.ofNat tx.length))) (fun t => zG D aC A nl ad σ t t.heap ∧ True) A) 0 0 A := by
  refine Met.ofW (cc := cJ0_length_8abf5) (maxL := 1) (ret := (some .int)) (by decide) rfl ?_
  intro p e s m args below meth c s₁ B hml hv
  obtain ⟨rfl, ⟨hG, hZ⟩, hT⟩ := hv
  have hx := B.exec
  have hb := B.bytes
  have hr := B.returns
  have hts : ∀ w ∈ wsL_law, w.before ([.ref k] : List Value).toArray s = true := fun w h => (atoms_spec B.pre) w (List.mem_cons_of_mem _ h)
  have hown : s.vm.findClass RJ0 = some m.cls := findClass_of_methodNamed B.named
  have hlocks := B.notSynchronized
  have S : zS p m c cJ0_length_8abf5 1 s ([.ref k] : List Value).toArray RJ0 := ⟨hx, hb, hml, hown, hts⟩
  have hS : va_S A s.heap s.heap [] := va_S.rf
  have hl := lv_entry ([.ref k]) (n := 1) (Nat.le_of_ble_eq_true rfl)
  rw [lg_entry_eq]
  generalize (lg_sl ([.ref k]) ++ List.replicate (1 - (lg_sl ([.ref k])).length) Slot.unset).toArray = ls at hl ⊢
  have hl : lv_has ls 1 [(0, .ref k)] := hl
  generalize hargs : ([.ref k] : List Value).toArray = args at S hts ⊢
  clear hargs
  obtain ⟨adK, adV, sf, hs0, hr0, hr1, hr2, hcs, hfm, hsf⟩ := hZ.2.2.2.2.2.2.1
  obtain ⟨v, hv1, hv2⟩ := hT.2.2
  refine lv_aload_n hx hb dJ0_length_8abf5_0 rfl (lv_at hl 0 rfl) ?_
  refine vk_getf hx hb hv1 hS hown (hts _ zw_136) (fun _ h => h) dJ0_length_8abf5_1 ?_
  refine va_tlen (v := Int32.ofNat tx.length) hx hb hv2 hS rfl dJ0_length_8abf5_4 ?_
  refine lv_aload_n hx hb dJ0_length_8abf5_5 rfl (lv_at hl 0 rfl) ?_
  refine z_callVE (n := 0) (rest := [.int (Int32.ofNat tx.length)]) (st1 := [.int 0, .int (Int32.ofNat tx.length)]) (zStr_sta k tx A) hT (zStr_recv hT hS) S hG hS hZ (c_J0_coder_7d493 l D aC zs A nl ad σ k tx) zw_137 zw_138 zw_139 zw_134 zw_140 (by decide +kernel) ⟨rfl, rfl⟩ ⟨(Nat.le_of_ble_eq_true rfl), (Nat.le_of_ble_eq_true rfl)⟩ hl.1 rfl (by rfl) (by rfl) (Nat.le_of_ble_eq_true rfl) dJ0_length_8abf5_6 ⟨Nat.zero_le _, Nat.zero_le _⟩ (fun H locs _ hG hS => ?_)
  refine lv_ishr hx hb dJ0_length_8abf5_9 ?_
  have e0 : Int32.ofNat tx.length >>> ((0 : Int32) &&& 31) = Int32.ofNat tx.length := by simp
  rw [e0]
  exact z_iret S hG hS hlocks trivial hr dJ0_length_8abf5_10
set_option maxRecDepth 100000 in
set_option maxHeartbeats 4000000 in
theorem c_J3_checkIndex_8e157n (l : Launch) (D : va_G) (aC : Nat → ClassId) (zs : Nat × Nat) (A : Nat → Prop) (nl : zNL) (ad : Nat → Nat → Nat → Nat) (σ : zM) (i n : Int32) (h1 : ¬ i < 0) (h2 : i < n) : Met l yJ3_checkIndex_8e157 (Cond.code yJ3_checkIndex_8e157 cJ3_checkIndex_8e157 3 (some .int) :: wsL_law) ({ frames := 0, cells := 0, slots := 0, locals := 0 } : Room) (zP D aC zs [] A nl ad σ [.int i, .int n, .null]) (zQ (some (.int i)) (fun t => zG D aC A nl ad σ t t.heap ∧ True) A) 0 0 A := by
  refine Met.ofW (cc := cJ3_checkIndex_8e157) (maxL := 3) (ret := (some .int)) (by decide) rfl ?_
  intro p e s m args below meth c s₁ B hml hv
  obtain ⟨rfl, ⟨hG, hZ⟩⟩ := hv
  have hx := B.exec
  have hb := B.bytes
  have hr := B.returns
  have hts : ∀ w ∈ wsL_law, w.before ([.int i, .int n, .null] : List Value).toArray s = true := fun w h => (atoms_spec B.pre) w (List.mem_cons_of_mem _ h)
  have hown : s.vm.findClass RJ3 = some m.cls := findClass_of_methodNamed B.named
  have hlocks := B.notSynchronized
  have S : zS p m c cJ3_checkIndex_8e157 3 s ([.int i, .int n, .null] : List Value).toArray RJ3 := ⟨hx, hb, hml, hown, hts⟩
  have hS : va_S A s.heap s.heap [] := va_S.rf
  have hl := lv_entry ([.int i, .int n, .null]) (n := 3) (Nat.le_of_ble_eq_true rfl)
  rw [lg_entry_eq]
  generalize (lg_sl ([.int i, .int n, .null]) ++ List.replicate (3 - (lg_sl ([.int i, .int n, .null])).length) Slot.unset).toArray = ls at hl ⊢
  have hl : lv_has ls 3 [(0, .int i), (1, .int n), (2, .null)] := hl
  generalize hargs : ([.int i, .int n, .null] : List Value).toArray = args at S hts ⊢
  clear hargs
  refine lv_iload_n hx hb dJ3_checkIndex_8e157_0 rfl (lv_at hl 0 rfl) ?_
  refine lv_if_lt (tgt := 9) hx hb dJ3_checkIndex_8e157_1 (by decide) (fun h => absurd h h1) (fun _ => ?_)
  refine lv_iload_n hx hb dJ3_checkIndex_8e157_4 rfl (lv_at hl 0 rfl) ?_
  refine lv_iload_n hx hb dJ3_checkIndex_8e157_5 rfl (lv_at hl 1 rfl) ?_
  refine lv_icmp_lt (tgt := 16) hx hb dJ3_checkIndex_8e157_6 (by decide) (fun _ => ?_) (fun h => absurd h2 h)
  refine lv_iload_n hx hb dJ3_checkIndex_8e157_16 rfl (lv_at hl 0 rfl) ?_
  exact z_iret S hG hS hlocks trivial hr dJ3_checkIndex_8e157_17
set_option maxRecDepth 100000 in
set_option maxHeartbeats 4000000 in
theorem c_J3_checkIndex_8e157r (l : Launch) (D : va_G) (aC : Nat → ClassId) (zs : Nat × Nat) (A : Nat → Prop) (nl : zNL) (ad : Nat → Nat → Nat → Nat) (σ : zM) (a : Nat) (i n : Int32) (h1 : ¬ i < 0) (h2 : i < n) : Met l yJ3_checkIndex_8e157 (Cond.code yJ3_checkIndex_8e157 cJ3_checkIndex_8e157 3 (some .int) :: wsL_law) ({ frames := 0, cells := 0, slots := 0, locals := 0 } : Room) (zP D aC zs [] A nl ad σ [.int i, .int n, .ref a]) (zQ (some (.int i)) (fun t => zG D aC A nl ad σ t t.heap ∧ True) A) 0 0 A := by
  refine Met.ofW (cc := cJ3_checkIndex_8e157) (maxL := 3) (ret := (some .int)) (by decide) rfl ?_
  intro p e s m args below meth c s₁ B hml hv
  obtain ⟨rfl, ⟨hG, hZ⟩⟩ := hv
  have hx := B.exec
  have hb := B.bytes
  have hr := B.returns
  have hts : ∀ w ∈ wsL_law, w.before ([.int i, .int n, .ref a] : List Value).toArray s = true := fun w h => (atoms_spec B.pre) w (List.mem_cons_of_mem _ h)
  have hown : s.vm.findClass RJ3 = some m.cls := findClass_of_methodNamed B.named
  have hlocks := B.notSynchronized
  have S : zS p m c cJ3_checkIndex_8e157 3 s ([.int i, .int n, .ref a] : List Value).toArray RJ3 := ⟨hx, hb, hml, hown, hts⟩
  have hS : va_S A s.heap s.heap [] := va_S.rf
  have hl := lv_entry ([.int i, .int n, .ref a]) (n := 3) (Nat.le_of_ble_eq_true rfl)
  rw [lg_entry_eq]
  generalize (lg_sl ([.int i, .int n, .ref a]) ++ List.replicate (3 - (lg_sl ([.int i, .int n, .ref a])).length) Slot.unset).toArray = ls at hl ⊢
  have hl : lv_has ls 3 [(0, .int i), (1, .int n), (2, .ref a)] := hl
  generalize hargs : ([.int i, .int n, .ref a] : List Value).toArray = args at S hts ⊢
  clear hargs
  refine lv_iload_n hx hb dJ3_checkIndex_8e157_0 rfl (lv_at hl 0 rfl) ?_
  refine lv_if_lt (tgt := 9) hx hb dJ3_checkIndex_8e157_1 (by decide) (fun h => absurd h h1) (fun _ => ?_)
  refine lv_iload_n hx hb dJ3_checkIndex_8e157_4 rfl (lv_at hl 0 rfl) ?_
  refine lv_iload_n hx hb dJ3_checkIndex_8e157_5 rfl (lv_at hl 1 rfl) ?_
  refine lv_icmp_lt (tgt := 16) hx hb dJ3_checkIndex_8e157_6 (by decide) (fun _ => ?_) (fun h => absurd h2 h)
  refine lv_iload_n hx hb dJ3_checkIndex_8e157_16 rfl (lv_at hl 0 rfl) ?_
  exact z_iret S hG hS hlocks trivial hr dJ3_checkIndex_8e157_17
set_option maxRecDepth 100000 in
set_option maxHeartbeats 4000000 in
theorem c_J3_checkIndex_8e157 (l : Launch) (D : va_G) (aC : Nat → ClassId) (zs : Nat × Nat) (A : Nat → Prop) (nl : zNL) (ad : Nat → Nat → Nat → Nat) (σ : zM) (i n : Int32) (sf : Value) (hsf : sf = .null ∨ ∃ a, sf = .ref a) (h1 : ¬ i < 0) (h2 : i < n) : Met l yJ3_checkIndex_8e157 (Cond.code yJ3_checkIndex_8e157 cJ3_checkIndex_8e157 3 (some .int) :: wsL_law) ({ frames := 0, cells := 0, slots := 0, locals := 0 } : Room) (zP D aC zs [] A nl ad σ [.int i, .int n, sf]) (zQ (some (.int i)) (fun t => zG D aC A nl ad σ t t.heap ∧ True) A) 0 0 A := by
  rcases hsf with rfl | ⟨a, rfl⟩
  · exact c_J3_checkIndex_8e157n l D aC zs A nl ad σ i n h1 h2
  · exact c_J3_checkIndex_8e157r l D aC zs A nl ad σ a i n h1 h2
set_option maxRecDepth 100000 in
set_option maxHeartbeats 4000000 in
theorem c_J0_checkIndex_df160 (l : Launch) (D : va_G) (aC : Nat → ClassId) (zs : Nat × Nat) (A : Nat → Prop) (nl : zNL) (ad : Nat → Nat → Nat → Nat) (σ : zM) (i n : Int32) (h1 : ¬ i < 0) (h2 : i < n) : Met l yJ0_checkIndex_df160 (Cond.code yJ0_checkIndex_df160 cJ0_checkIndex_df160 2 none :: wsL_law) ({ frames := 1, cells := 0, slots := 0, locals := 22 } : Room) (zP D aC zs [] A nl ad σ [.int i, .int n]) (zQ none (fun t => zG D aC A nl ad σ t t.heap ∧ True) A) 0 0 A := by
  refine Met.ofW (cc := cJ0_checkIndex_df160) (maxL := 2) (ret := none) (by decide) rfl ?_
  intro p e s m args below meth c s₁ B hml hv
  obtain ⟨rfl, ⟨hG, hZ⟩⟩ := hv
  have hx := B.exec
  have hb := B.bytes
  have hr := B.returns
  have hts : ∀ w ∈ wsL_law, w.before ([.int i, .int n] : List Value).toArray s = true := fun w h => (atoms_spec B.pre) w (List.mem_cons_of_mem _ h)
  have hown : s.vm.findClass RJ0 = some m.cls := findClass_of_methodNamed B.named
  have hlocks := B.notSynchronized
  have S : zS p m c cJ0_checkIndex_df160 2 s ([.int i, .int n] : List Value).toArray RJ0 := ⟨hx, hb, hml, hown, hts⟩
  have hS : va_S A s.heap s.heap [] := va_S.rf
  have hl := lv_entry ([.int i, .int n]) (n := 2) (Nat.le_of_ble_eq_true rfl)
  rw [lg_entry_eq]
  generalize (lg_sl ([.int i, .int n]) ++ List.replicate (2 - (lg_sl ([.int i, .int n])).length) Slot.unset).toArray = ls at hl ⊢
  have hl : lv_has ls 2 [(0, .int i), (1, .int n)] := hl
  generalize hargs : ([.int i, .int n] : List Value).toArray = args at S hts ⊢
  clear hargs
  obtain ⟨adK, adV, sf, hs0, hr0, hr1, hr2, hcs, hfm, hsf⟩ := hZ.2.2.2.2.2.2.1
  refine lv_iload_n hx hb dJ0_checkIndex_df160_0 rfl (lv_at hl 0 rfl) ?_
  refine lv_iload_n hx hb dJ0_checkIndex_df160_1 rfl (lv_at hl 1 rfl) ?_
  refine z_gets (v := sf) S hfm hS zw_158 dJ0_checkIndex_df160_2 ?_
  refine z_callS (n := 3) (rest := []) (st1 := [.int i]) S hG hS hZ (fun _ _ h => h) (c_J3_checkIndex_8e157 l D aC zs A nl ad σ i n sf hsf h1 h2) zw_159 zw_160 zw_161 zw_162 (by decide +kernel) ⟨rfl, rfl⟩ ⟨(Nat.le_of_ble_eq_true rfl), (Nat.le_of_ble_eq_true rfl)⟩ hl.1 rfl (by rfl) (by rfl) (Nat.le_of_ble_eq_true rfl) dJ0_checkIndex_df160_5 ⟨Nat.zero_le _, Nat.zero_le _⟩ (fun H locs _ hG hS => ?_)
  refine lv_pop hx hb dJ0_checkIndex_df160_8 rfl ?_
  exact z_vret S hG hS hlocks trivial hr dJ0_checkIndex_df160_9
set_option maxRecDepth 100000 in
set_option maxHeartbeats 4000000 in
theorem c_J1_charAt_3b067 (l : Launch) (D : va_G) (aC : Nat → ClassId) (zs : Nat × Nat) (A : Nat → Prop) (nl : zNL) (ad : Nat → Nat → Nat → Nat) (σ : zM) (v : Nat) (tx : List Int32) (i : Int32) (j : Nat) (hj : zix i tx.length = some j) (hn : tx.length < 2147483648) (hch : zCh (tx.getD j 0)) : Met l yJ1_charAt_3b067 (Cond.code yJ1_charAt_3b067 cJ1_charAt_3b067 2 (some .char) :: wsL_law) ({ frames := 2, cells := 0, slots := 0, locals := 43 } : Room) (zPe D aC zs A nl ad σ (va_T .byte v tx.length (fun j => .int (tx.getD j 0)) A) [.ref v, .int i]) (zQ (some (.int (tx.getD j 0))) (fun t => zG D aC A nl ad σ t t.heap ∧ True) A) 0 0 A := by
  refine Met.ofW (cc := cJ1_charAt_3b067) (maxL := 2) (ret := (some .char)) (by decide) rfl ?_
  intro p e s m args below meth c s₁ B hml hv
  obtain ⟨rfl, ⟨hG, hZ⟩, hT⟩ := hv
  have hx := B.exec
  have hb := B.bytes
  have hr := B.returns
  have hts : ∀ w ∈ wsL_law, w.before ([.ref v, .int i] : List Value).toArray s = true := fun w h => (atoms_spec B.pre) w (List.mem_cons_of_mem _ h)
  have hown : s.vm.findClass RJ1 = some m.cls := findClass_of_methodNamed B.named
  have hlocks := B.notSynchronized
  have S : zS p m c cJ1_charAt_3b067 2 s ([.ref v, .int i] : List Value).toArray RJ1 := ⟨hx, hb, hml, hown, hts⟩
  have hS : va_S A s.heap s.heap [] := va_S.rf
  have hl := lv_entry ([.ref v, .int i]) (n := 2) (Nat.le_of_ble_eq_true rfl)
  rw [lg_entry_eq]
  generalize (lg_sl ([.ref v, .int i]) ++ List.replicate (2 - (lg_sl ([.ref v, .int i])).length) Slot.unset).toArray = ls at hl ⊢
  have hl : lv_has ls 2 [(0, .ref v), (1, .int i)] := hl
  generalize hargs : ([.ref v, .int i] : List Value).toArray = args at S hts ⊢
  clear hargs
  obtain ⟨adK, adV, sf, hs0, hr0, hr1, hr2, hcs, hfm, hsf⟩ := hZ.2.2.2.2.2.2.1
  obtain ⟨hin, hjj⟩ := zix_s hj
  have h1 : ¬ i < 0 := fun h => hin (Or.inl h)
  have h2 : i < Int32.ofNat tx.length := zlt_of hin hn
  refine lv_iload_n hx hb dJ1_charAt_3b067_0 rfl (lv_at hl 1 rfl) ?_
  refine lv_aload_n hx hb dJ1_charAt_3b067_1 rfl (lv_at hl 0 rfl) ?_
  refine va_tlen (v := Int32.ofNat tx.length) hx hb hT hS rfl dJ1_charAt_3b067_2 ?_
  refine z_callS (n := 2) (rest := []) (st1 := []) S hG hS hZ (fun _ _ h => h) (c_J0_checkIndex_df160 l D aC zs A nl ad σ i (Int32.ofNat tx.length) h1 h2) zw_155 zw_156 zw_134 zw_157 (by decide +kernel) ⟨rfl, rfl⟩ ⟨(Nat.le_of_ble_eq_true rfl), (Nat.le_of_ble_eq_true rfl)⟩ hl.1 rfl (by rfl) (by rfl) (Nat.le_of_ble_eq_true rfl) dJ1_charAt_3b067_3 ⟨Nat.zero_le _, Nat.zero_le _⟩ (fun H locs _ hG hS => ?_)
  refine lv_aload_n hx hb dJ1_charAt_3b067_6 rfl (lv_at hl 0 rfl) ?_
  refine lv_iload_n hx hb dJ1_charAt_3b067_7 rfl (lv_at hl 1 rfl) ?_
  refine va_tb (v := .int (tx.getD j 0)) hx hb hT hS hin (by rw [hjj]) dJ1_charAt_3b067_8 ?_
  refine lv_sipush (v := 255) hx hb dJ1_charAt_3b067_9 (by decide) ?_
  refine lv_iand hx hb dJ1_charAt_3b067_12 ?_
  refine lv_i2c (v := tx.getD j 0) hx hb dJ1_charAt_3b067_13 hch.1 ?_
  exact W.zret S.1 S.2.1 hr (hch.2) (fun t ht hW => z_ret S hG hS trivial _ t ht hW) hS.2.2 dJ1_charAt_3b067_14 hlocks
set_option maxRecDepth 100000 in
set_option maxHeartbeats 4000000 in
theorem c_J0_charAt_5068e (l : Launch) (D : va_G) (aC : Nat → ClassId) (zs : Nat × Nat) (A : Nat → Prop) (nl : zNL) (ad : Nat → Nat → Nat → Nat) (σ : zM) (k : Nat) (tx : List Int32) (i : Int32) (j : Nat) (hj : zix i tx.length = some j) (hn : tx.length < 2147483648) (hch : zCh (tx.getD j 0)) : Met l yJ0_charAt_5068e (Cond.code yJ0_charAt_5068e cJ0_charAt_5068e 2 (some .char) :: wsL_law) ({ frames := 3, cells := 0, slots := 0, locals := 64 } : Room) (zPe D aC zs A nl ad σ (zStr k tx A) [.ref k, .int i]) (zQ (some (.int (tx.getD j 0))) (fun t => zG D aC A nl ad σ t t.heap ∧ True) A) 0 0 A := by
  refine Met.ofW (cc := cJ0_charAt_5068e) (maxL := 2) (ret := (some .char)) (by decide) rfl ?_
  intro p e s m args below meth c s₁ B hml hv
  obtain ⟨rfl, ⟨hG, hZ⟩, hT⟩ := hv
  have hx := B.exec
  have hb := B.bytes
  have hr := B.returns
  have hts : ∀ w ∈ wsL_law, w.before ([.ref k, .int i] : List Value).toArray s = true := fun w h => (atoms_spec B.pre) w (List.mem_cons_of_mem _ h)
  have hown : s.vm.findClass RJ0 = some m.cls := findClass_of_methodNamed B.named
  have hlocks := B.notSynchronized
  have S : zS p m c cJ0_charAt_5068e 2 s ([.ref k, .int i] : List Value).toArray RJ0 := ⟨hx, hb, hml, hown, hts⟩
  have hS : va_S A s.heap s.heap [] := va_S.rf
  have hl := lv_entry ([.ref k, .int i]) (n := 2) (Nat.le_of_ble_eq_true rfl)
  rw [lg_entry_eq]
  generalize (lg_sl ([.ref k, .int i]) ++ List.replicate (2 - (lg_sl ([.ref k, .int i])).length) Slot.unset).toArray = ls at hl ⊢
  have hl : lv_has ls 2 [(0, .ref k), (1, .int i)] := hl
  generalize hargs : ([.ref k, .int i] : List Value).toArray = args at S hts ⊢
  clear hargs
  obtain ⟨adK, adV, sf, hs0, hr0, hr1, hr2, hcs, hfm, hsf⟩ := hZ.2.2.2.2.2.2.1
  obtain ⟨v, hv1, hv2⟩ := hT.2.2
  refine lv_aload_n hx hb dJ0_charAt_5068e_0 rfl (lv_at hl 0 rfl) ?_
  refine z_callVE (n := 0) (rest := []) (st1 := [.int 1]) (zStr_sta k tx A) hT (zStr_recv hT hS) S hG hS hZ (c_J0_isLatin1_aae02 l D aC zs A nl ad σ k tx) zw_147 zw_148 zw_149 zw_134 zw_150 (by decide +kernel) ⟨rfl, rfl⟩ ⟨(Nat.le_of_ble_eq_true rfl), (Nat.le_of_ble_eq_true rfl)⟩ hl.1 rfl (by rfl) (by rfl) (Nat.le_of_ble_eq_true rfl) dJ0_charAt_5068e_1 ⟨Nat.zero_le _, Nat.zero_le _⟩ (fun H locs _ hG hS => ?_)
  refine lv_if_eq (tgt := 16) hx hb dJ0_charAt_5068e_4 (by decide) (fun h => absurd h (by decide)) (fun _ => ?_)
  refine lv_aload_n hx hb dJ0_charAt_5068e_7 rfl (lv_at hl 0 rfl) ?_
  refine vk_getf hx hb hv1 hS hown (hts _ zw_136) (fun _ h => h) dJ0_charAt_5068e_8 ?_
  refine lv_iload_n hx hb dJ0_charAt_5068e_11 rfl (lv_at hl 1 rfl) ?_
  refine z_callSE (n := 2) (rest := []) (st1 := [.int (tx.getD j 0)]) (zT_sta _ _ _ _ A) hv2 S hG hS hZ (c_J1_charAt_3b067 l D aC zs A nl ad σ v tx i j hj hn hch) zw_151 zw_152 zw_153 zw_154 (by decide +kernel) ⟨rfl, rfl⟩ ⟨(Nat.le_of_ble_eq_true rfl), (Nat.le_of_ble_eq_true rfl)⟩ hl.1 rfl (by rfl) (by rfl) (Nat.le_of_ble_eq_true rfl) dJ0_charAt_5068e_12 ⟨Nat.zero_le _, Nat.zero_le _⟩ (fun H locs _ hG hS => ?_)
  exact W.zret S.1 S.2.1 hr (hch.2) (fun t ht hW => z_ret S hG hS trivial _ t ht hW) hS.2.2 dJ0_charAt_5068e_15 hlocks
