/-! calls of what makes cells; names that live, names that are nothing still -/
abbrev zks (c i : Nat) (ks : List Nat) (nu : List (Nat × Nat × Nat)) : List (Nat × Nat × Nat) := ks.map (fun k => (c, i, k)) ++ nu
theorem zks_n {c i k : Nat} {ks : List Nat} {F : List (Nat × Nat)} {nu : List (Nat × Nat × Nat)} (hnu : ∀ q ∈ nu, (q.1, q.2.1) ∉ (c, i) :: F) (h : k ∉ ks) : (c, i, k) ∉ zks c i ks nu := by
  intro hm
  rcases List.mem_append.mp hm with hm | hm
  · obtain ⟨k', hk', e⟩ := List.mem_map.mp hm
    cases e
    exact h hk'
  · exact hnu _ hm List.mem_cons_self
theorem zks_o {c i c' i' : Nat} {ks : List Nat} {F : List (Nat × Nat)} {nu : List (Nat × Nat × Nat)} (hnu : ∀ q ∈ nu, (q.1, q.2.1) ∉ (c, i) :: F) (hp : (c', i') ∈ F) (hne : (c', i') ≠ (c, i)) : ∀ k, (c', i', k) ∉ zks c i ks nu := by
  intro k hm
  rcases List.mem_append.mp hm with hm | hm
  · obtain ⟨k', hk', e⟩ := List.mem_map.mp hm
    cases e
    exact hne rfl
  · exact hnu _ hm (List.mem_cons_of_mem _ hp)
theorem zks_nu {c i : Nat} {ks : List Nat} {F F' : List (Nat × Nat)} {nu : List (Nat × Nat × Nat)} (hnu : ∀ q ∈ nu, (q.1, q.2.1) ∉ (c, i) :: F) (hs : ∀ p ∈ F', p ∈ F) (hne : (c, i) ∉ F') : ∀ q ∈ zks c i ks nu, (q.1, q.2.1) ∉ F' := by
  intro q hm hq
  rcases List.mem_append.mp hm with hm | hm
  · obtain ⟨k', hk', e⟩ := List.mem_map.mp hm
    subst e
    exact hne hq
  · exact hnu _ hm (List.mem_cons_of_mem _ (hs _ hq))
theorem zfr_s {c i a : Nat} {L : List Nat} {N : List (Nat × Nat × Nat)} (h : ∀ k, k ∉ L → (c, i, k) ∉ N) : ∀ k, k ∉ a :: L → (c, i, k) ∉ N ++ [(c, i, a)] := by
  intro k hk hm
  rcases List.mem_append.mp hm with hm | hm
  · exact h k (fun h => hk (List.mem_cons_of_mem _ h)) hm
  · cases List.mem_singleton.mp hm
    exact hk List.mem_cons_self
theorem zfr_o {c i : Nat} {L : List Nat} {N M : List (Nat × Nat × Nat)} (h : ∀ k, k ∉ L → (c, i, k) ∉ N) (hM : ∀ q ∈ M, (q.1, q.2.1) ≠ (c, i)) : ∀ k, k ∉ L → (c, i, k) ∉ N ++ M := by
  intro k hk hm
  rcases List.mem_append.mp hm with hm | hm
  · exact h k hk hm
  · exact hM _ hm rfl
theorem zF_s {F F' : List (Nat × Nat)} {N M : List (Nat × Nat × Nat)} (h : ∀ q ∈ N, (q.1, q.2.1) ∉ F) (hs : ∀ p ∈ F', p ∈ F) (hM : ∀ q ∈ M, (q.1, q.2.1) ∉ F') : ∀ q ∈ N ++ M, (q.1, q.2.1) ∉ F' := by
  intro q hm hq
  rcases List.mem_append.mp hm with hm | hm
  · exact h _ hm (hs _ hq)
  · exact hM _ hm hq
theorem zfr_c {c' i' : Nat} {F : List (Nat × Nat)} {N : List (Nat × Nat × Nat)} (h : ∀ q ∈ N, (q.1, q.2.1) ∉ F) (hp : (c', i') ∈ F) : ∀ k, k ∉ [0] → (c', i', k) ∉ N ++ [(c', i', 0)] := by
  intro k hk hm
  rcases List.mem_append.mp hm with hm | hm
  · exact h _ hm hp
  · cases List.mem_singleton.mp hm
    exact hk (List.mem_singleton.mpr rfl)
theorem zm_l {q : Nat × Nat × Nat} {N : List (Nat × Nat × Nat)} : q ∈ N ++ [q] := List.mem_append_right _ (List.mem_singleton.mpr rfl)
theorem zapp {q : Nat × Nat × Nat} {N L : List (Nat × Nat × Nat)} {N1 N2 : List (Nat × Nat × Nat)} (h1 : N1 = N ++ L) (h2 : N2 = N1 ++ [q]) : N2 = N ++ (L ++ [q]) := by rw [h2, h1, List.append_assoc]
theorem zappL {N L M : List (Nat × Nat × Nat)} {N1 N2 : List (Nat × Nat × Nat)} (h1 : N1 = N ++ L) (h2 : N2 = N1 ++ M) : N2 = N ++ (L ++ M) := by rw [h2, h1, List.append_assoc]
theorem zG_lt {D : va_G} {aC : Nat → ClassId} {A : Nat → Prop} {nl : zNL} {ad : Nat → Nat → Nat → Nat} {σ : zM} {s : State} {H : Heap} (hG : zG D aC A nl ad σ s H) {q : Nat × Nat × Nat} (hq : q ∈ nl.1) : zad ad q < H.size := by
  obtain ⟨k, -, hk⟩ := zG_at hG hq
  exact (hG.1 k _ hk).lt
/-- what is known of the names while an object is made -/
def zB (ad : Nat → Nat → Nat → Nat) (sz : Nat) (N0 N made : List (Nat × Nat × Nat)) (c i : Nat) (L : List Nat) (F : List (Nat × Nat)) (n : Nat) : Prop := N = N0 ++ made ∧ (c, i, 0) ∈ N ∧ (∀ k, k ∉ L → (c, i, k) ∉ N) ∧ (∀ q ∈ N, (q.1, q.2.1) ∉ F) ∧ (n = 0 ∨ ∃ q ∈ N, zad ad q + 1 = sz + n)
theorem zB.start {ad : Nat → Nat → Nat → Nat} {sz : Nat} {N : List (Nat × Nat × Nat)} {c i : Nat} {F : List (Nat × Nat)} (hobj : (c, i, 0) ∈ N) (hfr : ∀ k, k ∉ [0] → (c, i, k) ∉ N) (hF : ∀ q ∈ N, (q.1, q.2.1) ∉ F) : zB ad sz N N [] c i [0] F 0 := ⟨(List.append_nil N).symm, hobj, hfr, hF, Or.inl rfl⟩
theorem zB.own {ad : Nat → Nat → Nat → Nat} {sz : Nat} {N0 N made made' : List (Nat × Nat × Nat)} {c i k : Nat} {L : List Nat} {F : List (Nat × Nat)} {n n' : Nat} (h : zB ad sz N0 N made c i L F n) (hF : (c, i) ∉ F) (hm : made ++ [(c, i, k)] = made') (hn : n + 1 = n') (had : ad c i k = sz + n) : zB ad sz N0 (N ++ [(c, i, k)]) made' c i (k :: L) F n' := by
  obtain ⟨h1, h2, h3, h4, -⟩ := h
  subst hm hn
  refine ⟨by rw [h1, List.append_assoc], List.mem_append_left _ h2, zfr_s h3, zF_s h4 (fun _ h => h) (fun q hq => ?_), Or.inr ⟨_, zm_l, ?_⟩⟩
  · rw [List.mem_singleton.mp hq]; exact hF
  · show ad c i k + 1 = _; omega
theorem zB.kid {ad : Nat → Nat → Nat → Nat} {sz : Nat} {N0 N made made' M : List (Nat × Nat × Nat)} {c i : Nat} {L : List Nat} {F F' : List (Nat × Nat)} {n n' : Nat} (h : zB ad sz N0 N made c i L F n) (hm : made ++ M = made') (hM : ∀ q ∈ M, (q.1, q.2.1) ≠ (c, i)) (hs : ∀ p ∈ F', p ∈ F) (hM' : ∀ q ∈ M, (q.1, q.2.1) ∉ F') (hl : ∃ q ∈ M, zad ad q + 1 = sz + n') : zB ad sz N0 (N ++ M) made' c i L F' n' := by
  obtain ⟨h1, h2, h3, h4, -⟩ := h
  subst hm
  obtain ⟨q, hq, hl⟩ := hl
  exact ⟨by rw [h1, List.append_assoc], List.mem_append_left _ h2, zfr_o h3 hM, zF_s h4 hs hM', Or.inr ⟨q, List.mem_append_right _ hq, hl⟩⟩
theorem zB.size {D : va_G} {aC : Nat → ClassId} {A : Nat → Prop} {ad : Nat → Nat → Nat → Nat} {sz : Nat} {N0 N made nu : List (Nat × Nat × Nat)} {c i : Nat} {L : List Nat} {F : List (Nat × Nat)} {n : Nat} {σ : zM} {s : State} {H : Heap} (h : zB ad sz N0 N made c i L F n) (hG : zG D aC A (N, nu) ad σ s H) (h1 : sz ≤ H.size) (h2 : H.size ≤ sz + n) : H.size = sz + n := by
  rcases h.2.2.2.2 with h | ⟨q, hq, h⟩
  · omega
  · have h3 := zG_lt hG (q := q) hq
    omega
theorem zB.hF {ad : Nat → Nat → Nat → Nat} {sz : Nat} {N0 N made : List (Nat × Nat × Nat)} {c i : Nat} {L : List Nat} {F : List (Nat × Nat)} {n : Nat} (h : zB ad sz N0 N made c i L F n) : ∀ q ∈ N, (q.1, q.2.1) ∉ F := h.2.2.2.1
theorem zB.eq {ad : Nat → Nat → Nat → Nat} {sz : Nat} {N0 N made : List (Nat × Nat × Nat)} {c i : Nat} {L : List Nat} {F : List (Nat × Nat)} {n : Nat} (h : zB ad sz N0 N made c i L F n) : N = N0 ++ made := h.1
def zPm (D : va_G) (aC : Nat → ClassId) (zs : Nat × Nat) (fx : List (Nat × Nat)) (A : Nat → Prop) (nl : zNL) (ad : Nat → Nat → Nat → Nat) (σ : zM) (av : List Value) (Px : Nat → Prop) : Array Value → State → Prop := va_Pc av (fun U => (zG D aC A nl ad σ U U.heap ∧ zH zs fx A nl U) ∧ Px U.heap.size)
theorem zPm_blind {D : va_G} {aC : Nat → ClassId} {zs : Nat × Nat} {fx : List (Nat × Nat)} {A : Nat → Prop} {nl : zNL} {ad : Nat → Nat → Nat → Nat} {σ : zM} {av : List Value} {Px : Nat → Prop} : FrameBlind (zPm D aC zs fx A nl ad σ av Px) := by
  intro a U g mk h
  obtain ⟨h0, ⟨h1, h2, h3, h4⟩, h5⟩ := h
  exact ⟨h0, ⟨h1.kept (U := U.calling g mk a) (Vm.Alike.refl U.vm), h2, h3, zSt.same (u := U) (U := U.calling g mk a) rfl h4⟩, h5⟩
theorem zPm_of {D : va_G} {aC : Nat → ClassId} {zs : Nat × Nat} {fx fx' : List (Nat × Nat)} {A : Nat → Prop} {nl nl0 : zNL} {ad : Nat → Nat → Nat → Nat} {σ : zM} {av : List Value} {s U : State} {H : Heap} {locs : List Loc} {Px : Nat → Prop} (hG : zG D aC A nl ad σ s H) (hZ : zH zs fx A nl0 s) (hn : ∀ q ∈ fx', zin nl q.1 q.2) (hS : va_S A s.heap H locs) (hU : U.heap = H) (hW : s.WarmedH U.vm) (hP : Px H.size) : zPm D aC zs fx' A nl ad σ av Px av.toArray U := by
  refine ⟨rfl, ⟨?_, ?_, ?_, ?_⟩, ?_⟩
  · rw [hU]; exact hG.kept hW.alike
  · intro q h
    rw [hU] at h
    exact hZ.1 q (Nat.le_trans hS.1 h)
  · exact hn
  · rw [hU]
    exact (hZ.2.2.moved hW).kept hS.2.1
  · rw [hU]; exact hP
theorem zwin {y : MethodName} {bytes : ByteArray} {maxL : Nat} {ret : Option FieldType} (w5 : Cond.code y bytes maxL ret ∈ wsL_law) : GoodIn wsL_law (Cond.code y bytes maxL ret :: wsL_law) := by
  intro w hw
  rcases List.mem_cons.mp hw with h | h
  · rw [h]; exact zB_in _ w5
  · exact zB_in w h
section ZCALL
variable {p : Program} {l : Launch} {e : Env} {R : Room} {s : State} {m : MethodId} {args : Array Value} {below : List Frame} {meth : Method} {c : Code} {H : Heap} {locs : List Loc} {cells slots : Nat} {Q : State → Prop}
variable {cc : ByteArray} {nL pc : Nat} {ls : Array Slot} {rest : List Value} {D : va_G} {A : Nat → Prop} {aC : Nat → ClassId} {nl : zNL} {ad : Nat → Nat → Nat → Nat} {σ : zM} {H0 : Heap} {own : String}
variable {y : MethodName} {bytes : ByteArray} {maxL index n mc ms : Nat} {rm : Room} {zs : Nat × Nat} {fx fx' : List (Nat × Nat)} {nl0 nl' : zNL} {As : List Value} {v0 : Option Value} {σ' : zM} {Px0 : Nat → Prop}
theorem z_callI {Px : Prop} {c0 i0 : Nat} (S : zS p m c cc nL s args own) (hG : zG D aC A nl ad σ s H) (hS : va_S A s.heap H locs) (hZ : zH zs fx A nl0 s) (hfx : ∀ q ∈ fx', zin nl q.1 q.2) (hM : Met l y (Cond.code y bytes maxL none :: wsL_law) rm (zPm D aC zs fx' A nl ad σ (.ref (ad c0 i0 0) :: As) Px0) (zQ none (fun t => zG D aC A nl' ad σ' t t.heap ∧ Px) A) mc ms A) (hP0 : Px0 H.size) (w1 : Cond.methodLink own index y ∈ wsL_law) (w2 : Cond.instanceMethod y ∈ wsL_law) (w4 : Cond.initialized y.cls ∈ wsL_law) (w5 : Cond.code y bytes maxL none ∈ wsL_law) (hy1 : y.name = "<init>") (hd : y.cls ≠ "java/lang/invoke/MethodHandle" ∧ y.cls ≠ "java/lang/invoke/VarHandle" ∧ (parseMethodDescriptor y.desc).map (fun d => d.parameters.length) = some n) (hrm : rm.cells = mc ∧ rm.slots = ms) (hR : rm.frames + 1 ≤ R.frames ∧ 8 + (maxL + 11) + rm.locals ≤ R.locals) (hl : ls.size = nL) (hlen : As.length = n) {st0 : List Value} (hst : st0 = As.reverse ++ .ref (ad c0 i0 0) :: rest) (hw : (rest.map fun v => v.category).sum ≤ 8) (hdg : decode cc pc = .ok (.invokespecial index, 3)) (hroom : cells + mc ≤ R.cells ∧ slots + ms ≤ R.slots)
    (kk : ∀ (H1 : Heap) (locs1 : List Loc), Px → zG D aC A nl' ad σ' s H1 → va_S A s.heap H1 locs1 → W p l e R s m args below meth c H1 locs1 (cells + mc) (slots + ms) Q (F0 m (pc + 3) ls rest)) : W p l e R s m args below meth c H locs cells slots Q (F0 m pc ls st0) := by
  have hts := S.2.2.2.2
  refine z_run (va_runI S hM (cwI n hts (zwin w5) rfl hrm.1 hrm.2 (hts _ w4) (hts _ w1) (hts _ w2) hy1 hd hR) ⟨zPm_blind, fun U hU hW => zPm_of hG hZ hfx hS hU hW hP0⟩ rfl hlen hl hst (lv_room hw) hdg hroom) hS (fun t H1 locs1 ht hvm hg hS1 => ?_)
  have hg1 := hg.1
  rw [ht] at hg1
  exact kk H1 locs1 hg.2 (zG.kept hg1 hvm.symm) hS1
theorem z_callIN {Px : Prop} {c0 i0 : Nat} {host : String} (S : zS p m c cc nL s args own) (hG : zG D aC A nl ad σ s H) (hS : va_S A s.heap H locs) (hZ : zH zs fx A nl0 s) (hfx : ∀ q ∈ fx', zin nl q.1 q.2) (hM : Met l y (Cond.code y bytes maxL none :: wsL_law) rm (zPm D aC zs fx' A nl ad σ (.ref (ad c0 i0 0) :: As) Px0) (zQ none (fun t => zG D aC A nl' ad σ' t t.heap ∧ Px) A) mc ms A) (hP0 : Px0 H.size) (w1 : va_Nw (.methodLinkNest own index y host) s) (w2 : Cond.instanceMethod y ∈ wsL_law) (w4 : Cond.initialized y.cls ∈ wsL_law) (w5 : Cond.code y bytes maxL none ∈ wsL_law) (hy1 : y.name = "<init>") (hd : y.cls ≠ "java/lang/invoke/MethodHandle" ∧ y.cls ≠ "java/lang/invoke/VarHandle" ∧ (parseMethodDescriptor y.desc).map (fun d => d.parameters.length) = some n) (hrm : rm.cells = mc ∧ rm.slots = ms) (hR : rm.frames + 1 ≤ R.frames ∧ 8 + (maxL + 11) + rm.locals ≤ R.locals) (hl : ls.size = nL) (hlen : As.length = n) {st0 : List Value} (hst : st0 = As.reverse ++ .ref (ad c0 i0 0) :: rest) (hw : (rest.map fun v => v.category).sum ≤ 8) (hdg : decode cc pc = .ok (.invokespecial index, 3)) (hroom : cells + mc ≤ R.cells ∧ slots + ms ≤ R.slots)
    (kk : ∀ (H1 : Heap) (locs1 : List Loc), Px → zG D aC A nl' ad σ' s H1 → va_S A s.heap H1 locs1 → W p l e R s m args below meth c H1 locs1 (cells + mc) (slots + ms) Q (F0 m (pc + 3) ls rest)) : W p l e R s m args below meth c H locs cells slots Q (F0 m pc ls st0) := by
  have hts := S.2.2.2.2
  refine z_run (va_runIN S hM ⟨va_cnB n hts (zwin w5) rfl hrm.1 hrm.2 w1 (hts _ w4) hd hR, hy1, hts _ w2⟩ ⟨zPm_blind, fun U hU hW => zPm_of hG hZ hfx hS hU hW hP0⟩ rfl hlen hl hst (lv_room hw) hdg hroom) hS (fun t H1 locs1 ht hvm hg hS1 => ?_)
  have hg1 := hg.1
  rw [ht] at hg1
  exact kk H1 locs1 hg.2 (zG.kept hg1 hvm.symm) hS1
/-- a method that makes -/
theorem z_callVM {Px : Prop} {c0 i0 : Nat} {q : vw_C} {ret : Option FieldType} (hn : zin nl c0 i0) (hc : vwCl[c0]? = some q) (S : zS p m c cc nL s args own) (hG : zG D aC A nl ad σ s H) (hS : va_S A s.heap H locs) (hZ : zH zs fx A nl0 s) (hfx : ∀ q ∈ fx', zin nl q.1 q.2) (hM : Met l y (Cond.code y bytes maxL ret :: wsL_law) rm (zPm D aC zs fx' A nl ad σ (.ref (ad c0 i0 0) :: As) Px0) (zQ v0 (fun t => zG D aC A nl' ad σ' t t.heap ∧ Px) A) mc ms A) (hP0 : Px0 H.size) (w1 : Cond.methodLink own index y ∈ wsL_law) (w2 : Cond.instanceMethod y ∈ wsL_law) (w3 : Cond.selects q.1 y y ∈ wsL_law) (w4 : Cond.initialized q.1 ∈ wsL_law) (w5 : Cond.code y bytes maxL ret ∈ wsL_law) (hd : y.cls = q.1 ∧ y.cls ≠ "java/lang/invoke/MethodHandle" ∧ y.cls ≠ "java/lang/invoke/VarHandle" ∧ (parseMethodDescriptor y.desc).map (fun d => d.parameters.length) = some n) (hrm : rm.cells = mc ∧ rm.slots = ms) (hR : rm.frames + 1 ≤ R.frames ∧ 8 + (maxL + 11) + rm.locals ≤ R.locals) (hl : ls.size = nL) (hlen : As.length = n) {st0 st1 : List Value} (hst : st0 = As.reverse ++ .ref (ad c0 i0 0) :: rest) (hst1 : v0.toList ++ rest = st1) (hw : (rest.map fun v => v.category).sum ≤ 8) (hdg : decode cc pc = .ok (.invokevirtual index, 3)) (hroom : cells + mc ≤ R.cells ∧ slots + ms ≤ R.slots)
    (kk : ∀ (H1 : Heap) (locs1 : List Loc), Px → zG D aC A nl' ad σ' s H1 → va_S A s.heap H1 locs1 → W p l e R s m args below meth c H1 locs1 (cells + mc) (slots + ms) Q (F0 m (pc + 3) ls st1)) : W p l e R s m args below meth c H locs cells slots Q (F0 m pc ls st0) := by
  subst hst1
  refine z_run (va_runV S hM (cwV n S.2.2.2.2 (zGV w1 w2 w3 w4 w5) rfl hrm.1 hrm.2 hd hR) ⟨zPm_blind, z_recv hG hn hc, fun U hU hW => zPm_of hG hZ hfx hS hU hW hP0⟩ rfl hlen hl hst (lv_room hw) hdg hroom) hS (fun t H1 locs1 ht hvm hg hS1 => ?_)
  have hg1 := hg.1
  rw [ht] at hg1
  exact kk H1 locs1 hg.2 (zG.kept hg1 hvm.symm) hS1
/-- a field of an object that isn't whole -/
theorem zc_get (S : zS p m c cc nL s args own) (hG : zG D aC A nl ad σ s H) {c0 i0 k0 index : Nat} {C : String} {T : u_T} (hobj : (c0, i0, 0) ∈ nl.1) (hnn : (c0, i0, k0) ∉ nl.2) (hc : vwCl[c0]? = some (C, T, zN c0)) (hin : ∀ w ∈ u_ws C T (zN c0), w ∈ wsL_law) (hk : k0 < zN c0) (hT : (T k0).1 = C) (hlink : Cond.fieldLink own index C (T k0).2.1 (T k0).2.2.1 ∈ wsL_law) {v : Value} (hv : zval0 ad σ c0 i0 k0 = v) (hdg : decode cc pc = .ok (.getfield index, 3))
    (kk : W p l e R s m args below meth c H locs cells slots Q (F0 m (pc + 3) ls (v :: rest))) : W p l e R s m args below meth c H locs cells slots Q (F0 m pc ls (.ref (ad c0 i0 0) :: rest)) := by
  obtain ⟨hx, hb, -, hown, hts⟩ := S
  obtain ⟨q0, -, hq⟩ := zG_at hG hobj
  exact va_get hx hb hts hin hown hG.2.2.1 hG.1 q0 hq hc k0 hk (hts _ hlink) (fun _ h => by rw [hT] at h; exact h) (zfs_at nl ad σ c0 i0 k0 hk (by rw [zval, if_neg hnn]; exact hv)) hdg kk
section ZD
variable {N0 N made made' nu : List (Nat × Nat × Nat)} {L : List Nat} {F F' : List (Nat × Nat)} {n' slots' : Nat}
theorem zd_newarr (S : zS p m c cc nL s args own) {c0 i0 k0 N1 : Nat} (hG : zG D aC A (N, nu) ad σ s H) (hS : va_S A s.heap H locs) (hA : ∀ q : Nat, s.heap.size ≤ q → A q) (hB : zB ad s.heap.size N0 N made c0 i0 L F cells) {atype : ArrayType} (w1 : Cond.arrayClass (newarray.typeOf atype) ∈ wsL_law) (hkd : (atype = .int ∧ zkd c0 k0 = 4) ∨ (atype = .byte ∧ zkd c0 k0 = 5) ∨ (atype = .boolean ∧ zkd c0 k0 = 6) ∨ (atype = .long ∧ zkd c0 k0 = 7)) (hfr : k0 + 1 ∉ L) (hFo : (c0, i0) ∉ F) (had : ad c0 i0 (k0 + 1) = s.heap.size + cells) {n : Int32} (hn : ¬ n < 0) (hN : n.toNatClampNeg = N1) (hln : zln c0 i0 k0 = N1) (hsm : N1 ≤ 10000) (hm : made ++ [(c0, i0, k0 + 1)] = made') (hc' : cells + 1 = n') (hs' : slots + N1 = slots') (hcells : n' ≤ R.cells) (hslots : slots' ≤ R.slots) (hdg : decode cc pc = .ok (.newarray atype, 2))
    (kk : ∀ (H1 : Heap) (N2 : List (Nat × Nat × Nat)), zG D aC A (N2, nu) ad (zclA σ c0 i0 k0) s H1 → va_S A s.heap H1 locs → zB ad s.heap.size N0 N2 made' c0 i0 ((k0 + 1) :: L) F n' → (c0, i0, k0 + 1) ∈ N2 → W p l e R s m args below meth c H1 locs n' slots' Q (F0 m (pc + 2) ls (.ref (ad c0 i0 (k0 + 1)) :: rest))) : W p l e R s m args below meth c H locs cells slots Q (F0 m pc ls (.int n :: rest)) := by
  subst hc' hs'
  refine W_size (fun hle => ?_)
  exact zc_newarr S hG hS hA w1 hkd (hB.2.2.1 _ hfr) (had.trans (hB.size hG hS.1 hle).symm) hn hN hln hsm hcells hslots hdg (fun H1 _ hG1 hS1 => kk H1 _ hG1 hS1 (hB.own hFo hm rfl had) zm_l)
theorem zd_newq (S : zS p m c cc nL s args own) {c0 i0 k0 N1 index t0 n0 c1 : Nat} (hG : zG D aC A (N, nu) ad σ s H) (hS : va_S A s.heap H locs) (hA : ∀ q : Nat, s.heap.size ≤ q → A q) (hB : zB ad s.heap.size N0 N made c0 i0 L F cells) {C : String} (hover : va_AO C s) (w1 : Cond.classLink own index C ∈ wsL_law) (ht : (ztys aC)[t0]? = some (aC n0, .object C)) (hz : ∀ (σ : zM), zarr aC ad σ c0 i0 k0 = .inl (aC n0, zln c0 i0 k0, .inr (.inr (.inr (.inr (fun j => (zO σ c0 i0 k0 j).map fun x => ad c1 x 0)))))) (hfr : k0 + 1 ∉ L) (hFo : (c0, i0) ∉ F) (had : ad c0 i0 (k0 + 1) = s.heap.size + cells) {n : Int32} (hn : ¬ n < 0) (hN : n.toNatClampNeg = N1) (hln : zln c0 i0 k0 = N1) (hsm : N1 ≤ 10000) (hm : made ++ [(c0, i0, k0 + 1)] = made') (hc' : cells + 1 = n') (hs' : slots + N1 = slots') (hcells : n' ≤ R.cells) (hslots : slots' ≤ R.slots) (hdg : decode cc pc = .ok (.anewarray index, 3))
    (kk : ∀ (H1 : Heap) (N2 : List (Nat × Nat × Nat)), zG D aC A (N2, nu) ad (zclA σ c0 i0 k0) s H1 → va_S A s.heap H1 locs → zB ad s.heap.size N0 N2 made' c0 i0 ((k0 + 1) :: L) F n' → (c0, i0, k0 + 1) ∈ N2 → W p l e R s m args below meth c H1 locs n' slots' Q (F0 m (pc + 3) ls (.ref (ad c0 i0 (k0 + 1)) :: rest))) : W p l e R s m args below meth c H locs cells slots Q (F0 m pc ls (.int n :: rest)) := by
  subst hc' hs'
  refine W_size (fun hle => ?_)
  exact zc_newq S hG hS hA hover w1 ht hz (hB.2.2.1 _ hfr) (had.trans (hB.size hG hS.1 hle).symm) hn hN hln hsm hcells hslots hdg (fun H1 _ hG1 hS1 => kk H1 _ hG1 hS1 (hB.own hFo hm rfl had) zm_l)
/-- a child's object -/
theorem zd_new (S : zS p m c cc nL s args own) {c9 i9 c0 i0 index : Nat} (hG : zG D aC A (N, nu) ad σ s H) (hS : va_S A s.heap H locs) (hA : ∀ q : Nat, s.heap.size ≤ q → A q) (hB : zB ad s.heap.size N0 N made c9 i9 L F cells) {C : String} {T : u_T} (ty0 : Nat → FieldType) (hty : ∀ k, k < zN c0 → parseFieldDescriptor (T k).2.2.1 = some (ty0 k)) (hc : vwCl[c0]? = some (C, T, zN c0)) (hin : ∀ w ∈ u_ws C T (zN c0), w ∈ wsL_law) (w1 : Cond.classLink own index C ∈ wsL_law) (w2 : Cond.instantiable C (zN c0) ∈ wsL_law) (w3 : Cond.initialized C ∈ wsL_law) (ks : List Nat) (hks : ∀ k, k < zN c0 → 3 ≤ zkd c0 k → k ∈ ks) (hks2 : ∀ k ∈ ks, 3 ≤ zkd c0 k) (hdv : ∀ k, k < zN c0 → defaultValue (ty0 k) = zdv c0 k) (hfr : (c0, i0) ∈ F) (hfr2 : ∀ k, (c0, i0, k) ∉ nu) (had : ad c0 i0 0 = s.heap.size + cells) (hc' : cells + 1 = n') (hs' : slots + zN c0 = slots') (hcells : n' ≤ R.cells) (hslots : slots' ≤ R.slots) (hdg : decode cc pc = .ok (.new index, 3))
    (kk : ∀ (H1 : Heap) (N2 : List (Nat × Nat × Nat)), N2 = N ++ [(c0, i0, 0)] → zG D aC A (N2, zks c0 i0 ks nu) ad (zclr σ c0 i0) s H1 → va_S A s.heap H1 locs → W p l e R s m args below meth c H1 locs n' slots' Q (F0 m (pc + 3) ls (.ref (ad c0 i0 0) :: rest))) : W p l e R s m args below meth c H locs cells slots Q (F0 m pc ls rest) := by
  subst hc' hs'
  refine W_size (fun hle => ?_)
  exact zc_new S hG hS hA ty0 hty hc hin w1 w2 w3 ks hks hks2 hdv (fun h => hB.hF _ h hfr) hfr2 (had.trans (hB.size hG hS.1 hle).symm) hcells hslots hdg (fun H1 _ hG1 hS1 => kk H1 _ rfl hG1 hS1)
/-- the child's constructor -/
theorem zd_callI {c9 i9 c0 i0 k1 : Nat} {FC : List (Nat × Nat)} {nuC nu' names : List (Nat × Nat × Nat)} {N1 : List (Nat × Nat × Nat)} (S : zS p m c cc nL s args own) (hG : zG D aC A (N1, nuC) ad σ s H) (hS : va_S A s.heap H locs) (hZ : zH zs fx A nl0 s) (hB : zB ad s.heap.size N0 N made c9 i9 L F k1) (eN : N1 = N ++ [(c0, i0, 0)]) (hin : (c0, i0) ∈ F) (hsub : ∀ p ∈ FC, p ∈ F) (hne : (c0, i0) ∉ FC) (had : ad c0 i0 0 = s.heap.size + k1) (hk1 : k1 + 1 = cells)
    (hM : (c0, i0, 0) ∈ N1 → (∀ k, k ∉ [0] → (c0, i0, k) ∉ N1) → (∀ q ∈ N1, (q.1, q.2.1) ∉ FC) → Met l y (Cond.code y bytes maxL none :: wsL_law) rm (zPm D aC zs [] A (N1, nuC) ad σ (.ref (ad c0 i0 0) :: As) Px0) (zQ none (fun t => zG D aC A (N1 ++ names, nu') ad σ' t t.heap ∧ True) A) mc ms A) (hP0 : ∀ z, z = s.heap.size + cells → Px0 z) (w1 : Cond.methodLink own index y ∈ wsL_law) (w2 : Cond.instanceMethod y ∈ wsL_law) (w4 : Cond.initialized y.cls ∈ wsL_law) (w5 : Cond.code y bytes maxL none ∈ wsL_law) (hy1 : y.name = "<init>") (hd : y.cls ≠ "java/lang/invoke/MethodHandle" ∧ y.cls ≠ "java/lang/invoke/VarHandle" ∧ (parseMethodDescriptor y.desc).map (fun d => d.parameters.length) = some n) (hrm : rm.cells = mc ∧ rm.slots = ms) (hR : rm.frames + 1 ≤ R.frames ∧ 8 + (maxL + 11) + rm.locals ≤ R.locals) (hl : ls.size = nL) (hlen : As.length = n) {st0 : List Value} (hst : st0 = As.reverse ++ .ref (ad c0 i0 0) :: rest) (hw : (rest.map fun v => v.category).sum ≤ 8) (hdg : decode cc pc = .ok (.invokespecial index, 3)) (hc' : cells + mc = n') (hs' : slots + ms = slots') (hroom : n' ≤ R.cells ∧ slots' ≤ R.slots) (hm : made ++ ((c0, i0, 0) :: names) = made') (hMo : ∀ q ∈ ((c0, i0, 0) :: names), (q.1, q.2.1) ≠ (c9, i9)) (hs : ∀ p ∈ F', p ∈ F) (hM' : ∀ q ∈ ((c0, i0, 0) :: names), (q.1, q.2.1) ∉ F') (hlq : ∃ q ∈ ((c0, i0, 0) :: names), zad ad q + 1 = s.heap.size + n')
    (kk : ∀ (H1 : Heap) (locs1 : List Loc) (N2 : List (Nat × Nat × Nat)), zG D aC A (N2, nu') ad σ' s H1 → va_S A s.heap H1 locs1 → zB ad s.heap.size N0 N2 made' c9 i9 L F' n' → W p l e R s m args below meth c H1 locs1 n' slots' Q (F0 m (pc + 3) ls rest)) : W p l e R s m args below meth c H locs cells slots Q (F0 m pc ls st0) := by
  subst hc' hs'
  refine W_size (fun hle => ?_)
  have hsz : H.size = s.heap.size + cells := by
    have h3 := zG_lt hG (q := (c0, i0, 0)) (by rw [eN]; exact zm_l)
    simp only [zad, had] at h3
    omega
  refine z_callI S hG hS hZ (fun _ h => by cases h) (hM (by rw [eN]; exact zm_l) (by rw [eN]; exact zfr_c hB.hF hin) (by rw [eN]; exact zF_s hB.hF hsub (fun q hq => by rw [List.mem_singleton.mp hq]; exact hne))) (hP0 _ hsz) w1 w2 w4 w5 hy1 hd hrm hR hl hlen hst hw hdg hroom (fun H1 locs1 _ hG1 hS1 => ?_)
  have e2 : N1 ++ names = N ++ ((c0, i0, 0) :: names) := by rw [eN, List.append_assoc]; rfl
  rw [e2] at hG1
  exact kk H1 locs1 _ hG1 hS1 (hB.kid hm hMo hs hM' hlq)
theorem zd_callIN {host : String} {c9 i9 c0 i0 k1 : Nat} {FC : List (Nat × Nat)} {nuC nu' names : List (Nat × Nat × Nat)} {N1 : List (Nat × Nat × Nat)} (S : zS p m c cc nL s args own) (hG : zG D aC A (N1, nuC) ad σ s H) (hS : va_S A s.heap H locs) (hZ : zH zs fx A nl0 s) (hB : zB ad s.heap.size N0 N made c9 i9 L F k1) (eN : N1 = N ++ [(c0, i0, 0)]) (hin : (c0, i0) ∈ F) (hsub : ∀ p ∈ FC, p ∈ F) (hne : (c0, i0) ∉ FC) (had : ad c0 i0 0 = s.heap.size + k1) (hk1 : k1 + 1 = cells)
    (hM : (c0, i0, 0) ∈ N1 → (∀ k, k ∉ [0] → (c0, i0, k) ∉ N1) → (∀ q ∈ N1, (q.1, q.2.1) ∉ FC) → Met l y (Cond.code y bytes maxL none :: wsL_law) rm (zPm D aC zs [] A (N1, nuC) ad σ (.ref (ad c0 i0 0) :: As) Px0) (zQ none (fun t => zG D aC A (N1 ++ names, nu') ad σ' t t.heap ∧ True) A) mc ms A) (hP0 : ∀ z, z = s.heap.size + cells → Px0 z) (w1 : va_Nw (.methodLinkNest own index y host) s) (w2 : Cond.instanceMethod y ∈ wsL_law) (w4 : Cond.initialized y.cls ∈ wsL_law) (w5 : Cond.code y bytes maxL none ∈ wsL_law) (hy1 : y.name = "<init>") (hd : y.cls ≠ "java/lang/invoke/MethodHandle" ∧ y.cls ≠ "java/lang/invoke/VarHandle" ∧ (parseMethodDescriptor y.desc).map (fun d => d.parameters.length) = some n) (hrm : rm.cells = mc ∧ rm.slots = ms) (hR : rm.frames + 1 ≤ R.frames ∧ 8 + (maxL + 11) + rm.locals ≤ R.locals) (hl : ls.size = nL) (hlen : As.length = n) {st0 : List Value} (hst : st0 = As.reverse ++ .ref (ad c0 i0 0) :: rest) (hw : (rest.map fun v => v.category).sum ≤ 8) (hdg : decode cc pc = .ok (.invokespecial index, 3)) (hc' : cells + mc = n') (hs' : slots + ms = slots') (hroom : n' ≤ R.cells ∧ slots' ≤ R.slots) (hm : made ++ ((c0, i0, 0) :: names) = made') (hMo : ∀ q ∈ ((c0, i0, 0) :: names), (q.1, q.2.1) ≠ (c9, i9)) (hs : ∀ p ∈ F', p ∈ F) (hM' : ∀ q ∈ ((c0, i0, 0) :: names), (q.1, q.2.1) ∉ F') (hlq : ∃ q ∈ ((c0, i0, 0) :: names), zad ad q + 1 = s.heap.size + n')
    (kk : ∀ (H1 : Heap) (locs1 : List Loc) (N2 : List (Nat × Nat × Nat)), zG D aC A (N2, nu') ad σ' s H1 → va_S A s.heap H1 locs1 → zB ad s.heap.size N0 N2 made' c9 i9 L F' n' → W p l e R s m args below meth c H1 locs1 n' slots' Q (F0 m (pc + 3) ls rest)) : W p l e R s m args below meth c H locs cells slots Q (F0 m pc ls st0) := by
  subst hc' hs'
  refine W_size (fun hle => ?_)
  have hsz : H.size = s.heap.size + cells := by
    have h3 := zG_lt hG (q := (c0, i0, 0)) (by rw [eN]; exact zm_l)
    simp only [zad, had] at h3
    omega
  refine z_callIN S hG hS hZ (fun _ h => by cases h) (hM (by rw [eN]; exact zm_l) (by rw [eN]; exact zfr_c hB.hF hin) (by rw [eN]; exact zF_s hB.hF hsub (fun q hq => by rw [List.mem_singleton.mp hq]; exact hne))) (hP0 _ hsz) w1 w2 w4 w5 hy1 hd hrm hR hl hlen hst hw hdg hroom (fun H1 locs1 _ hG1 hS1 => ?_)
  have e2 : N1 ++ names = N ++ ((c0, i0, 0) :: names) := by rw [eN, List.append_assoc]; rfl
  rw [e2] at hG1
  exact kk H1 locs1 _ hG1 hS1 (hB.kid hm hMo hs hM' hlq)
end ZD
end ZCALL
