set_option maxRecDepth 100000 in
set_option maxHeartbeats 4000000 in
theorem zl_day {p : Program} {l : Launch} {e : Env} {s : State} {m : MethodId} {below : List Frame} {meth : Method} {c : Code} {b L : Nat} {xs : Nat → Int32} {D : va_G} {aC : Nat → ClassId} {zs : Nat × Nat} {A : Nat → Prop} {nl : zNL} {ad : Nat → Nat → Nat → Nat} {σ : zM} {a11 a12 : Nat} {H : Heap} {locs : List Loc} {ls : Array Slot} {i : Int32} {n cells slots : Nat} {Q : State → Prop} {Inv : Nat → zM → Prop} (e11 : ad 11 0 0 = a11) (e12 : ad 12 0 0 = a12) (S : zS p m c code 4 s #[Value.ref b] RL) (hX : va_X b L xs s s.heap) (hbl : b < s.heap.size) (hbA : ¬ A b) (hL : L ≤ 4096) (hZX : zH zs zfX A nl s) (hZM : zH zs zfM A nl s) (hIv : Inv n σ) (hG : zG D aC A nl ad σ s H) (hS : va_S A s.heap H locs) (hi : i = Int32.ofNat n) (hn : n + 8 ≤ L) (hroom : cells ≤ 600000 ∧ slots ≤ 7302249) (hl : lv_has ls 4 [(3, .int i), (2, .ref a12), (1, .ref a11), (0, .ref b)]) (hob : ∀ (x1 : Int32), zOb Inv (fun σ => some (f_X11_day σ x1)) (fun σ => some (f_X12_day σ x1))) (kk : ∀ (σ2 : zM) (H1 : Heap) (locs1 : List Loc), zG D aC A nl ad σ2 s H1 → va_S A s.heap H1 locs1 → Inv (n + 8) σ2 → zSc σ2 = zSc σ → zMd σ2 = zMd σ → W p l e room_1 s m #[Value.ref b] below meth c H1 locs1 cells slots Q (F0 m 1307 ls [])) : W p l e room_1 s m #[Value.ref b] below meth c H locs cells slots Q (F0 m 188 ls []) := by
  subst e11 e12
  obtain ⟨hx, hb, -, hown, hts⟩ := id S
  obtain ⟨r, σ1, σ2, h1, h2, hI2, hs2, hm2⟩ := hob (xs (i + 1).toNatClampNeg) n σ (by omega) hIv
  have h1 : some (f_X11_day σ (xs (i + 1).toNatClampNeg)) = some (r, σ1) := h1
  have h2 : some (f_X12_day σ1 (xs (i + 1).toNatClampNeg)) = some (r, σ2) := h2
  refine lv_aload_n hx hb dL_law_188 rfl (lv_at hl 2 rfl) ?_
  refine lv_aload_n hx hb dL_law_189 rfl (lv_at hl 3 rfl) ?_
  refine lv_iload_n hx hb dL_law_190 rfl (lv_at hl 0 rfl) ?_
  refine lv_iconst (v := 1) hx hb dL_law_191 (by decide) ?_
  refine lv_iadd hx hb dL_law_192 ?_
  refine va_sld hx hb hX hbl hbA hS (zvin hi hL hn 1 (by decide)) dL_law_193 ?_
  refine z_callV (n := 1) (rest := []) (st1 := [.int r]) (c0 := 11) (i0 := 0) (hZX.2.1 (11, 0) (by decide)) (by rfl) S hG hS hZX (fun _ _ h => h) (c_X11_day l D aC zs A nl ad σ (xs (i + 1).toNatClampNeg) r σ1 (Option.some.inj h1)) zw_266 zw_267 zw_268 zw_2 zw_269 (by decide +kernel) ⟨rfl, rfl⟩ ⟨(Nat.le_of_ble_eq_true rfl), (Nat.le_of_ble_eq_true rfl)⟩ hl.1 rfl (by rfl) (by rfl) (Nat.le_of_ble_eq_true rfl) dL_law_194 hroom ?_
  clear hG hS
  intro H locs _ hG hS
  refine lv_aload_n hx hb dL_law_197 rfl (lv_at hl 1 rfl) ?_
  refine lv_aload_n hx hb dL_law_198 rfl (lv_at hl 3 rfl) ?_
  refine lv_iload_n hx hb dL_law_199 rfl (lv_at hl 0 rfl) ?_
  refine lv_iconst (v := 1) hx hb dL_law_200 (by decide) ?_
  refine lv_iadd hx hb dL_law_201 ?_
  refine va_sld hx hb hX hbl hbA hS (zvin hi hL hn 1 (by decide)) dL_law_202 ?_
  refine z_callV (n := 1) (rest := [.int r]) (st1 := [.int r, .int r]) (c0 := 12) (i0 := 0) (hZM.2.1 (12, 0) (by decide)) (by rfl) S hG hS hZM (fun _ _ h => h) (c_X12_day l D aC zs A nl ad σ1 (xs (i + 1).toNatClampNeg) r σ2 (Option.some.inj h2)) zw_274 zw_275 zw_276 zw_5 zw_277 (by decide +kernel) ⟨rfl, rfl⟩ ⟨(Nat.le_of_ble_eq_true rfl), (Nat.le_of_ble_eq_true rfl)⟩ hl.1 rfl (by rfl) (by rfl) (Nat.le_of_ble_eq_true rfl) dL_law_203 hroom ?_
  clear hG hS
  intro H locs _ hG hS
  refine lv_icmp_eq (tgt := 1307) hx hb dL_law_206 (by decide) (fun _ => ?_) (fun h => absurd rfl h)
  exact kk σ2 H locs hG hS hI2 hs2 hm2
set_option maxRecDepth 100000 in
set_option maxHeartbeats 4000000 in
theorem zl_feed {p : Program} {l : Launch} {e : Env} {s : State} {m : MethodId} {below : List Frame} {meth : Method} {c : Code} {b L : Nat} {xs : Nat → Int32} {D : va_G} {aC : Nat → ClassId} {zs : Nat × Nat} {A : Nat → Prop} {nl : zNL} {ad : Nat → Nat → Nat → Nat} {σ : zM} {a11 a12 : Nat} {H : Heap} {locs : List Loc} {ls : Array Slot} {i : Int32} {n cells slots : Nat} {Q : State → Prop} {Inv : Nat → zM → Prop} (e11 : ad 11 0 0 = a11) (e12 : ad 12 0 0 = a12) (S : zS p m c code 4 s #[Value.ref b] RL) (hX : va_X b L xs s s.heap) (hbl : b < s.heap.size) (hbA : ¬ A b) (hL : L ≤ 4096) (hZX : zH zs zfX A nl s) (hZM : zH zs zfM A nl s) (hIv : Inv n σ) (hG : zG D aC A nl ad σ s H) (hS : va_S A s.heap H locs) (hi : i = Int32.ofNat n) (hn : n + 8 ≤ L) (hroom : cells ≤ 600000 ∧ slots ≤ 7302249) (hl : lv_has ls 4 [(3, .int i), (2, .ref a12), (1, .ref a11), (0, .ref b)]) (hob : ∀ (x1 : Int32) (x2 : Int32) (x3 : Int32) (x4 : Int32) (x5 : Int32), zOb Inv (fun σ => f_X11_feed σ x1 x2 x3 x4 x5) (fun σ => f_X12_feed σ x1 x2 x3 x4 x5)) (kk : ∀ (σ2 : zM) (H1 : Heap) (locs1 : List Loc), zG D aC A nl ad σ2 s H1 → va_S A s.heap H1 locs1 → Inv (n + 8) σ2 → zSc σ2 = zSc σ → zMd σ2 = zMd σ → W p l e room_1 s m #[Value.ref b] below meth c H1 locs1 cells slots Q (F0 m 1307 ls [])) : W p l e room_1 s m #[Value.ref b] below meth c H locs cells slots Q (F0 m 211 ls []) := by
  subst e11 e12
  obtain ⟨hx, hb, -, hown, hts⟩ := id S
  obtain ⟨r, σ1, σ2, h1, h2, hI2, hs2, hm2⟩ := hob (xs (i + 1).toNatClampNeg) (xs (i + 2).toNatClampNeg) (xs (i + 3).toNatClampNeg) (xs (i + 4).toNatClampNeg) (xs (i + 5).toNatClampNeg) n σ (by omega) hIv
  have h1 : f_X11_feed σ (xs (i + 1).toNatClampNeg) (xs (i + 2).toNatClampNeg) (xs (i + 3).toNatClampNeg) (xs (i + 4).toNatClampNeg) (xs (i + 5).toNatClampNeg) = some (r, σ1) := h1
  have h2 : f_X12_feed σ1 (xs (i + 1).toNatClampNeg) (xs (i + 2).toNatClampNeg) (xs (i + 3).toNatClampNeg) (xs (i + 4).toNatClampNeg) (xs (i + 5).toNatClampNeg) = some (r, σ2) := h2
  refine lv_aload_n hx hb dL_law_211 rfl (lv_at hl 2 rfl) ?_
  refine lv_aload_n hx hb dL_law_212 rfl (lv_at hl 3 rfl) ?_
  refine lv_iload_n hx hb dL_law_213 rfl (lv_at hl 0 rfl) ?_
  refine lv_iconst (v := 1) hx hb dL_law_214 (by decide) ?_
  refine lv_iadd hx hb dL_law_215 ?_
  refine va_sld hx hb hX hbl hbA hS (zvin hi hL hn 1 (by decide)) dL_law_216 ?_
  refine lv_aload_n hx hb dL_law_217 rfl (lv_at hl 3 rfl) ?_
  refine lv_iload_n hx hb dL_law_218 rfl (lv_at hl 0 rfl) ?_
  refine lv_iconst (v := 2) hx hb dL_law_219 (by decide) ?_
  refine lv_iadd hx hb dL_law_220 ?_
  refine va_sld hx hb hX hbl hbA hS (zvin hi hL hn 2 (by decide)) dL_law_221 ?_
  refine lv_aload_n hx hb dL_law_222 rfl (lv_at hl 3 rfl) ?_
  refine lv_iload_n hx hb dL_law_223 rfl (lv_at hl 0 rfl) ?_
  refine lv_iconst (v := 3) hx hb dL_law_224 (by decide) ?_
  refine lv_iadd hx hb dL_law_225 ?_
  refine va_sld hx hb hX hbl hbA hS (zvin hi hL hn 3 (by decide)) dL_law_226 ?_
  refine lv_aload_n hx hb dL_law_227 rfl (lv_at hl 3 rfl) ?_
  refine lv_iload_n hx hb dL_law_228 rfl (lv_at hl 0 rfl) ?_
  refine lv_iconst (v := 4) hx hb dL_law_229 (by decide) ?_
  refine lv_iadd hx hb dL_law_230 ?_
  refine va_sld hx hb hX hbl hbA hS (zvin hi hL hn 4 (by decide)) dL_law_231 ?_
  refine lv_aload_n hx hb dL_law_232 rfl (lv_at hl 3 rfl) ?_
  refine lv_iload_n hx hb dL_law_233 rfl (lv_at hl 0 rfl) ?_
  refine lv_iconst (v := 5) hx hb dL_law_234 (by decide) ?_
  refine lv_iadd hx hb dL_law_235 ?_
  refine va_sld hx hb hX hbl hbA hS (zvin hi hL hn 5 (by decide)) dL_law_236 ?_
  refine z_callV (n := 5) (rest := []) (st1 := [.int r]) (c0 := 11) (i0 := 0) (hZX.2.1 (11, 0) (by decide)) (by rfl) S hG hS hZX (fun _ _ h => h) (c_X11_feed l D aC zs A nl ad σ (xs (i + 1).toNatClampNeg) (xs (i + 2).toNatClampNeg) (xs (i + 3).toNatClampNeg) (xs (i + 4).toNatClampNeg) (xs (i + 5).toNatClampNeg) r σ1 h1) zw_279 zw_280 zw_281 zw_2 zw_282 (by decide +kernel) ⟨rfl, rfl⟩ ⟨(Nat.le_of_ble_eq_true rfl), (Nat.le_of_ble_eq_true rfl)⟩ hl.1 rfl (by rfl) (by rfl) (Nat.le_of_ble_eq_true rfl) dL_law_237 hroom ?_
  clear hG hS
  intro H locs _ hG hS
  refine lv_aload_n hx hb dL_law_240 rfl (lv_at hl 1 rfl) ?_
  refine lv_aload_n hx hb dL_law_241 rfl (lv_at hl 3 rfl) ?_
  refine lv_iload_n hx hb dL_law_242 rfl (lv_at hl 0 rfl) ?_
  refine lv_iconst (v := 1) hx hb dL_law_243 (by decide) ?_
  refine lv_iadd hx hb dL_law_244 ?_
  refine va_sld hx hb hX hbl hbA hS (zvin hi hL hn 1 (by decide)) dL_law_245 ?_
  refine lv_aload_n hx hb dL_law_246 rfl (lv_at hl 3 rfl) ?_
  refine lv_iload_n hx hb dL_law_247 rfl (lv_at hl 0 rfl) ?_
  refine lv_iconst (v := 2) hx hb dL_law_248 (by decide) ?_
  refine lv_iadd hx hb dL_law_249 ?_
  refine va_sld hx hb hX hbl hbA hS (zvin hi hL hn 2 (by decide)) dL_law_250 ?_
  refine lv_aload_n hx hb dL_law_251 rfl (lv_at hl 3 rfl) ?_
  refine lv_iload_n hx hb dL_law_252 rfl (lv_at hl 0 rfl) ?_
  refine lv_iconst (v := 3) hx hb dL_law_253 (by decide) ?_
  refine lv_iadd hx hb dL_law_254 ?_
  refine va_sld hx hb hX hbl hbA hS (zvin hi hL hn 3 (by decide)) dL_law_255 ?_
  refine lv_aload_n hx hb dL_law_256 rfl (lv_at hl 3 rfl) ?_
  refine lv_iload_n hx hb dL_law_257 rfl (lv_at hl 0 rfl) ?_
  refine lv_iconst (v := 4) hx hb dL_law_258 (by decide) ?_
  refine lv_iadd hx hb dL_law_259 ?_
  refine va_sld hx hb hX hbl hbA hS (zvin hi hL hn 4 (by decide)) dL_law_260 ?_
  refine lv_aload_n hx hb dL_law_261 rfl (lv_at hl 3 rfl) ?_
  refine lv_iload_n hx hb dL_law_262 rfl (lv_at hl 0 rfl) ?_
  refine lv_iconst (v := 5) hx hb dL_law_263 (by decide) ?_
  refine lv_iadd hx hb dL_law_264 ?_
  refine va_sld hx hb hX hbl hbA hS (zvin hi hL hn 5 (by decide)) dL_law_265 ?_
  refine z_callV (n := 5) (rest := [.int r]) (st1 := [.int r, .int r]) (c0 := 12) (i0 := 0) (hZM.2.1 (12, 0) (by decide)) (by rfl) S hG hS hZM (fun _ _ h => h) (c_X12_feed l D aC zs A nl ad σ1 (xs (i + 1).toNatClampNeg) (xs (i + 2).toNatClampNeg) (xs (i + 3).toNatClampNeg) (xs (i + 4).toNatClampNeg) (xs (i + 5).toNatClampNeg) r σ2 h2) zw_292 zw_293 zw_294 zw_5 zw_295 (by decide +kernel) ⟨rfl, rfl⟩ ⟨(Nat.le_of_ble_eq_true rfl), (Nat.le_of_ble_eq_true rfl)⟩ hl.1 rfl (by rfl) (by rfl) (Nat.le_of_ble_eq_true rfl) dL_law_266 hroom ?_
  clear hG hS
  intro H locs _ hG hS
  refine lv_icmp_eq (tgt := 1307) hx hb dL_law_269 (by decide) (fun _ => ?_) (fun h => absurd rfl h)
  exact kk σ2 H locs hG hS hI2 hs2 hm2
set_option maxRecDepth 100000 in
set_option maxHeartbeats 4000000 in
theorem zl_brief {p : Program} {l : Launch} {e : Env} {s : State} {m : MethodId} {below : List Frame} {meth : Method} {c : Code} {b L : Nat} {xs : Nat → Int32} {D : va_G} {aC : Nat → ClassId} {zs : Nat × Nat} {A : Nat → Prop} {nl : zNL} {ad : Nat → Nat → Nat → Nat} {σ : zM} {a11 a12 : Nat} {H : Heap} {locs : List Loc} {ls : Array Slot} {i : Int32} {n cells slots : Nat} {Q : State → Prop} {Inv : Nat → zM → Prop} (e11 : ad 11 0 0 = a11) (e12 : ad 12 0 0 = a12) (S : zS p m c code 4 s #[Value.ref b] RL) (hX : va_X b L xs s s.heap) (hbl : b < s.heap.size) (hbA : ¬ A b) (hL : L ≤ 4096) (hZX : zH zs zfX A nl s) (hZM : zH zs zfM A nl s) (hIv : Inv n σ) (hG : zG D aC A nl ad σ s H) (hS : va_S A s.heap H locs) (hi : i = Int32.ofNat n) (hn : n + 8 ≤ L) (hroom : cells + 8 ≤ 600000 ∧ slots + 494 ≤ 7302249) (hl : lv_has ls 4 [(3, .int i), (2, .ref a12), (1, .ref a11), (0, .ref b)]) (hob : ∀ (x1 : Int32) (n : Nat) (σ : zM), n ≤ 4096 → Inv n σ → ∃ r σ1 σ2, f_X11_brief σ (zMd σ) x1 = some (r, σ1) ∧ f_X12_brief σ1 x1 = some (r, σ2) ∧ Inv (n + 8) σ2 ∧ zSc σ2 = zSc σ ∧ ((¬ ((f_X9_holds σ x1) = 0) ∧ (f_X1_isFull σ) = 0 ∧ zR σ 1 0 3 = none) → zMd σ2 = zMd σ + 1 ∧ zMd σ < 7) ∧ (¬ (¬ ((f_X9_holds σ x1) = 0) ∧ (f_X1_isFull σ) = 0 ∧ zR σ 1 0 3 = none) → zMd σ2 = zMd σ)) (hfr : ∀ o k, zMd σ ≤ o → o < 7 → (0, o, k) ∉ nl.1) (hnu : nl.2 = []) (kk : ∀ (ad2 : Nat → Nat → Nat → Nat) (nl2 : zNL) (σ2 : zM) (H1 : Heap) (locs1 : List Loc), ad2 11 0 0 = a11 → ad2 12 0 0 = a12 → zG D aC A nl2 ad2 σ2 s H1 → va_S A s.heap H1 locs1 → Inv (n + 8) σ2 → zSc σ2 = zSc σ → ((nl2 = nl ∧ zMd σ2 = zMd σ) ∨ (nl2 = (nl.1 ++ [(0, (zMd σ), 0), (0, (zMd σ), 6), (0, (zMd σ), 7), (0, (zMd σ), 1), (0, (zMd σ), 2), (0, (zMd σ), 3), (0, (zMd σ), 4), (0, (zMd σ), 5)], nl.2) ∧ zMd σ2 = zMd σ + 1)) → W p l e room_1 s m #[Value.ref b] below meth c H1 locs1 (cells + (zMd σ2 - zMd σ) * 8) (slots + (zMd σ2 - zMd σ) * 494) Q (F0 m 1307 ls [])) : W p l e room_1 s m #[Value.ref b] below meth c H locs cells slots Q (F0 m 274 ls []) := by
  subst e11 e12
  obtain ⟨hx, hb, -, hown, hts⟩ := id S
  obtain ⟨r, σ1, σ2, h1, h2, hI2, ho2, hyes, hno⟩ := hob (xs (i + 1).toNatClampNeg) n σ (by omega) hIv
  by_cases hc : ¬ ((f_X9_holds σ (xs (i + 1).toNatClampNeg)) = 0) ∧ (f_X1_isFull σ) = 0 ∧ zR σ 1 0 3 = none
  · obtain ⟨hy1, hy2⟩ := hyes hc
    obtain ⟨hc0, hc1, hE⟩ := hc
    have ho7 : zMd σ < 7 := by omega
    have hf1 : ∀ k, (0, (zMd σ), k) ∉ nl.1 := (fun k => hfr _ k (Nat.le_refl _) ho7)
    have hf2 : ∀ k, (0, (zMd σ), k) ∉ nl.2 := fun k h => by rw [hnu] at h; cases h
    obtain ⟨ad2, hag, hlay⟩ := zad_new ad 0 (zMd σ) H.size [0, 6, 7, 1, 2, 3, 4, 5]
    have hG : zG D aC A nl ad2 σ s H := zG_ad hG hZX.2.1 hag hf1
    have e1 : ad2 11 0 0 = ad 11 0 0 := hag 11 0 0 (fun h => absurd h.1 (by decide))
    have e2 : ad2 12 0 0 = ad 12 0 0 := hag 12 0 0 (fun h => absurd h.1 (by decide))
    rw [← e1, ← e2] at hl
    have e2 := e2
    refine lv_aload_n hx hb dL_law_274 rfl (lv_at hl 2 rfl) ?_
    refine lv_aload_n hx hb dL_law_275 rfl (lv_at hl 3 rfl) ?_
    refine lv_iload_n hx hb dL_law_276 rfl (lv_at hl 0 rfl) ?_
    refine lv_iconst (v := 1) hx hb dL_law_277 (by decide) ?_
    refine lv_iadd hx hb dL_law_278 ?_
    refine va_sld hx hb hX hbl hbA hS (zvin hi hL hn 1 (by decide)) dL_law_279 ?_
    refine z_callVM (n := 1) (rest := []) (st1 := [.int r]) (c0 := 11) (i0 := 0) (fx' := zfX) (nl' := (nl.1 ++ [(0, (zMd σ), 0), (0, (zMd σ), 6), (0, (zMd σ), 7), (0, (zMd σ), 1), (0, (zMd σ), 2), (0, (zMd σ), 3), (0, (zMd σ), 4), (0, (zMd σ), 5)], nl.2)) (hZX.2.1 (11, 0) (by decide)) (by rfl) S hG hS hZX hZX.2.1 (c_X11_brief_n l D aC zs A nl (nl.1 ++ [(0, (zMd σ), 0), (0, (zMd σ), 6), (0, (zMd σ), 7), (0, (zMd σ), 1), (0, (zMd σ), 2), (0, (zMd σ), 3), (0, (zMd σ), 4), (0, (zMd σ), 5)], nl.2) ad2 σ (zMd σ) (xs (i + 1).toNatClampNeg) r σ1 hf1 hf2 ho7 rfl hc0 hc1 hE h1) ⟨(hlay 0 (by decide)), (hlay 1 (by decide)), (hlay 2 (by decide)), (hlay 3 (by decide)), (hlay 4 (by decide)), (hlay 5 (by decide)), (hlay 6 (by decide)), (hlay 7 (by decide)), trivial⟩ zw_301 zw_302 zw_303 zw_2 zw_304 (by decide +kernel) ⟨rfl, rfl⟩ ⟨(Nat.le_of_ble_eq_true rfl), (Nat.le_of_ble_eq_true rfl)⟩ hl.1 rfl (by rfl) (by rfl) (Nat.le_of_ble_eq_true rfl) dL_law_280 ⟨hroom.1, hroom.2⟩ ?_
    clear hG hS
    intro H locs _ hG hS
    have hZM2 : zH zs zfM A (nl.1 ++ [(0, (zMd σ), 0), (0, (zMd σ), 6), (0, (zMd σ), 7), (0, (zMd σ), 1), (0, (zMd σ), 2), (0, (zMd σ), 3), (0, (zMd σ), 4), (0, (zMd σ), 5)], nl.2) s := ⟨hZM.1, fun q hq => zin_app (hZM.2.1 q hq), hZM.2.2⟩
    refine lv_aload_n hx hb dL_law_283 rfl (lv_at hl 1 rfl) ?_
    refine lv_aload_n hx hb dL_law_284 rfl (lv_at hl 3 rfl) ?_
    refine lv_iload_n hx hb dL_law_285 rfl (lv_at hl 0 rfl) ?_
    refine lv_iconst (v := 1) hx hb dL_law_286 (by decide) ?_
    refine lv_iadd hx hb dL_law_287 ?_
    refine va_sld hx hb hX hbl hbA hS (zvin hi hL hn 1 (by decide)) dL_law_288 ?_
    refine z_callV (n := 1) (rest := [.int r]) (st1 := [.int r, .int r]) (c0 := 12) (i0 := 0) (hZM2.2.1 (12, 0) (by decide)) (by rfl) S hG hS hZM2 (fun _ _ h => h) (c_X12_brief l D aC zs A (nl.1 ++ [(0, (zMd σ), 0), (0, (zMd σ), 6), (0, (zMd σ), 7), (0, (zMd σ), 1), (0, (zMd σ), 2), (0, (zMd σ), 3), (0, (zMd σ), 4), (0, (zMd σ), 5)], nl.2) ad2 σ1 (xs (i + 1).toNatClampNeg) r σ2 h2) zw_504 zw_505 zw_506 zw_5 zw_507 (by decide +kernel) ⟨rfl, rfl⟩ ⟨(Nat.le_of_ble_eq_true rfl), (Nat.le_of_ble_eq_true rfl)⟩ hl.1 rfl (by rfl) (by rfl) (Nat.le_of_ble_eq_true rfl) dL_law_289 ⟨hroom.1, hroom.2⟩ ?_
    clear hG hS
    intro H locs _ hG hS
    refine lv_icmp_eq (tgt := 1307) hx hb dL_law_292 (by decide) (fun _ => ?_) (fun h => absurd rfl h)
    have h5 := kk ad2 (nl.1 ++ [(0, (zMd σ), 0), (0, (zMd σ), 6), (0, (zMd σ), 7), (0, (zMd σ), 1), (0, (zMd σ), 2), (0, (zMd σ), 3), (0, (zMd σ), 4), (0, (zMd σ), 5)], nl.2) σ2 H locs e1 e2 hG hS hI2 ho2 (Or.inr ⟨rfl, hy1⟩)
    have h6 : zMd σ2 - zMd σ = 1 := by rw [hy1]; omega
    rw [h6, Nat.one_mul, Nat.one_mul] at h5
    exact h5
  · have hno := hno hc
    refine lv_aload_n hx hb dL_law_274 rfl (lv_at hl 2 rfl) ?_
    refine lv_aload_n hx hb dL_law_275 rfl (lv_at hl 3 rfl) ?_
    refine lv_iload_n hx hb dL_law_276 rfl (lv_at hl 0 rfl) ?_
    refine lv_iconst (v := 1) hx hb dL_law_277 (by decide) ?_
    refine lv_iadd hx hb dL_law_278 ?_
    refine va_sld hx hb hX hbl hbA hS (zvin hi hL hn 1 (by decide)) dL_law_279 ?_
    refine z_callV (n := 1) (rest := []) (st1 := [.int r]) (c0 := 11) (i0 := 0) (hZX.2.1 (11, 0) (by decide)) (by rfl) S hG hS hZX (fun _ _ h => h) (c_X11_brief_s l D aC zs A nl ad σ (zMd σ) (xs (i + 1).toNatClampNeg) r σ1 hc h1) zw_301 zw_302 zw_303 zw_2 zw_304 (by decide +kernel) ⟨rfl, rfl⟩ ⟨(Nat.le_of_ble_eq_true rfl), (Nat.le_of_ble_eq_true rfl)⟩ hl.1 rfl (by rfl) (by rfl) (Nat.le_of_ble_eq_true rfl) dL_law_280 ⟨Nat.le_trans (Nat.le_add_right _ _) hroom.1, Nat.le_trans (Nat.le_add_right _ _) hroom.2⟩ ?_
    clear hG hS
    intro H locs _ hG hS
    refine lv_aload_n hx hb dL_law_283 rfl (lv_at hl 1 rfl) ?_
    refine lv_aload_n hx hb dL_law_284 rfl (lv_at hl 3 rfl) ?_
    refine lv_iload_n hx hb dL_law_285 rfl (lv_at hl 0 rfl) ?_
    refine lv_iconst (v := 1) hx hb dL_law_286 (by decide) ?_
    refine lv_iadd hx hb dL_law_287 ?_
    refine va_sld hx hb hX hbl hbA hS (zvin hi hL hn 1 (by decide)) dL_law_288 ?_
    refine z_callV (n := 1) (rest := [.int r]) (st1 := [.int r, .int r]) (c0 := 12) (i0 := 0) (hZM.2.1 (12, 0) (by decide)) (by rfl) S hG hS hZM (fun _ _ h => h) (c_X12_brief l D aC zs A nl ad σ1 (xs (i + 1).toNatClampNeg) r σ2 h2) zw_504 zw_505 zw_506 zw_5 zw_507 (by decide +kernel) ⟨rfl, rfl⟩ ⟨(Nat.le_of_ble_eq_true rfl), (Nat.le_of_ble_eq_true rfl)⟩ hl.1 rfl (by rfl) (by rfl) (Nat.le_of_ble_eq_true rfl) dL_law_289 ⟨Nat.le_trans (Nat.le_add_right _ _) hroom.1, Nat.le_trans (Nat.le_add_right _ _) hroom.2⟩ ?_
    clear hG hS
    intro H locs _ hG hS
    refine lv_icmp_eq (tgt := 1307) hx hb dL_law_292 (by decide) (fun _ => ?_) (fun h => absurd rfl h)
    have h5 := kk ad nl σ2 H locs rfl rfl hG hS hI2 ho2 (Or.inl ⟨rfl, hno⟩)
    have h6 : zMd σ2 - zMd σ = 0 := by omega
    simp only [h6, Nat.zero_mul, Nat.add_zero] at h5
    exact h5
set_option maxRecDepth 100000 in
set_option maxHeartbeats 4000000 in
theorem zl_fault {p : Program} {l : Launch} {e : Env} {s : State} {m : MethodId} {below : List Frame} {meth : Method} {c : Code} {b L : Nat} {xs : Nat → Int32} {D : va_G} {aC : Nat → ClassId} {zs : Nat × Nat} {A : Nat → Prop} {nl : zNL} {ad : Nat → Nat → Nat → Nat} {σ : zM} {a11 a12 : Nat} {H : Heap} {locs : List Loc} {ls : Array Slot} {i : Int32} {n cells slots : Nat} {Q : State → Prop} {Inv : Nat → zM → Prop} (e11 : ad 11 0 0 = a11) (e12 : ad 12 0 0 = a12) (S : zS p m c code 4 s #[Value.ref b] RL) (hX : va_X b L xs s s.heap) (hbl : b < s.heap.size) (hbA : ¬ A b) (hL : L ≤ 4096) (hZX : zH zs zfX A nl s) (hZM : zH zs zfM A nl s) (hIv : Inv n σ) (hG : zG D aC A nl ad σ s H) (hS : va_S A s.heap H locs) (hi : i = Int32.ofNat n) (hn : n + 8 ≤ L) (hroom : cells ≤ 600000 ∧ slots ≤ 7302249) (hl : lv_has ls 4 [(3, .int i), (2, .ref a12), (1, .ref a11), (0, .ref b)]) (hob : zOb Inv (fun σ => some (f_X11_fault σ, σ)) (fun σ => some (f_X12_fault σ, σ))) (kk : ∀ (σ2 : zM) (H1 : Heap) (locs1 : List Loc), zG D aC A nl ad σ2 s H1 → va_S A s.heap H1 locs1 → Inv (n + 8) σ2 → zSc σ2 = zSc σ → zMd σ2 = zMd σ → W p l e room_1 s m #[Value.ref b] below meth c H1 locs1 cells slots Q (F0 m 1307 ls [])) : W p l e room_1 s m #[Value.ref b] below meth c H locs cells slots Q (F0 m 297 ls []) := by
  subst e11 e12
  obtain ⟨hx, hb, -, hown, hts⟩ := id S
  obtain ⟨r, σ1, σ2, h1, h2, hI2, hs2, hm2⟩ := hob n σ (by omega) hIv
  have h1 : some (f_X11_fault σ, σ) = some (r, σ1) := h1
  have h2 : some (f_X12_fault σ1, σ1) = some (r, σ2) := h2
  refine lv_aload_n hx hb dL_law_297 rfl (lv_at hl 2 rfl) ?_
  obtain ⟨h1f, h1s⟩ := zro h1
  rw [h1s] at h2
  refine z_callV (n := 0) (rest := []) (st1 := [.int r]) (c0 := 11) (i0 := 0) (hZX.2.1 (11, 0) (by decide)) (by rfl) S hG hS hZX (fun _ _ h => h) (c_X11_fault l D aC zs A nl ad σ  r h1f) zw_659 zw_660 zw_661 zw_2 zw_662 (by decide +kernel) ⟨rfl, rfl⟩ ⟨(Nat.le_of_ble_eq_true rfl), (Nat.le_of_ble_eq_true rfl)⟩ hl.1 rfl (by rfl) (by rfl) (Nat.le_of_ble_eq_true rfl) dL_law_298 hroom ?_
  clear hG hS
  intro H locs _ hG hS
  refine lv_aload_n hx hb dL_law_301 rfl (lv_at hl 1 rfl) ?_
  obtain ⟨h2f, h2s⟩ := zro h2
  refine z_callV (n := 0) (rest := [.int r]) (st1 := [.int r, .int r]) (c0 := 12) (i0 := 0) (hZM.2.1 (12, 0) (by decide)) (by rfl) S hG hS hZM (fun _ _ h => h) (c_X12_fault l D aC zs A nl ad σ  r h2f) zw_663 zw_664 zw_665 zw_5 zw_666 (by decide +kernel) ⟨rfl, rfl⟩ ⟨(Nat.le_of_ble_eq_true rfl), (Nat.le_of_ble_eq_true rfl)⟩ hl.1 rfl (by rfl) (by rfl) (Nat.le_of_ble_eq_true rfl) dL_law_302 hroom ?_
  clear hG hS
  intro H locs _ hG hS
  refine lv_icmp_eq (tgt := 1307) hx hb dL_law_305 (by decide) (fun _ => ?_) (fun h => absurd rfl h)
  rw [← h2s] at hG
  exact kk σ2 H locs hG hS hI2 hs2 hm2
set_option maxRecDepth 100000 in
set_option maxHeartbeats 4000000 in
theorem zl_binds {p : Program} {l : Launch} {e : Env} {s : State} {m : MethodId} {below : List Frame} {meth : Method} {c : Code} {b L : Nat} {xs : Nat → Int32} {D : va_G} {aC : Nat → ClassId} {zs : Nat × Nat} {A : Nat → Prop} {nl : zNL} {ad : Nat → Nat → Nat → Nat} {σ : zM} {a11 a12 : Nat} {H : Heap} {locs : List Loc} {ls : Array Slot} {i : Int32} {n cells slots : Nat} {Q : State → Prop} {Inv : Nat → zM → Prop} (e11 : ad 11 0 0 = a11) (e12 : ad 12 0 0 = a12) (S : zS p m c code 4 s #[Value.ref b] RL) (hX : va_X b L xs s s.heap) (hbl : b < s.heap.size) (hbA : ¬ A b) (hL : L ≤ 4096) (hZX : zH zs zfX A nl s) (hZM : zH zs zfM A nl s) (hIv : Inv n σ) (hG : zG D aC A nl ad σ s H) (hS : va_S A s.heap H locs) (hi : i = Int32.ofNat n) (hn : n + 8 ≤ L) (hroom : cells ≤ 600000 ∧ slots ≤ 7302249) (hl : lv_has ls 4 [(3, .int i), (2, .ref a12), (1, .ref a11), (0, .ref b)]) (hob : ∀ (x1 : Int32), zOb Inv (fun σ => (f_X11_binds σ x1).map (fun r => (r, σ))) (fun σ => (f_X12_binds σ x1).map (fun r => (r, σ)))) (kk : ∀ (σ2 : zM) (H1 : Heap) (locs1 : List Loc), zG D aC A nl ad σ2 s H1 → va_S A s.heap H1 locs1 → Inv (n + 8) σ2 → zSc σ2 = zSc σ → zMd σ2 = zMd σ → W p l e room_1 s m #[Value.ref b] below meth c H1 locs1 cells slots Q (F0 m 1307 ls [])) : W p l e room_1 s m #[Value.ref b] below meth c H locs cells slots Q (F0 m 310 ls []) := by
  subst e11 e12
  obtain ⟨hx, hb, -, hown, hts⟩ := id S
  obtain ⟨r, σ1, σ2, h1, h2, hI2, hs2, hm2⟩ := hob (xs (i + 1).toNatClampNeg) n σ (by omega) hIv
  have h1 : (f_X11_binds σ (xs (i + 1).toNatClampNeg)).map (fun r => (r, σ)) = some (r, σ1) := h1
  have h2 : (f_X12_binds σ1 (xs (i + 1).toNatClampNeg)).map (fun r => (r, σ1)) = some (r, σ2) := h2
  refine lv_aload_n hx hb dL_law_310 rfl (lv_at hl 2 rfl) ?_
  refine lv_aload_n hx hb dL_law_311 rfl (lv_at hl 3 rfl) ?_
  refine lv_iload_n hx hb dL_law_312 rfl (lv_at hl 0 rfl) ?_
  refine lv_iconst (v := 1) hx hb dL_law_313 (by decide) ?_
  refine lv_iadd hx hb dL_law_314 ?_
  refine va_sld hx hb hX hbl hbA hS (zvin hi hL hn 1 (by decide)) dL_law_315 ?_
  obtain ⟨h1f, h1s⟩ := zrm h1
  rw [h1s] at h2
  refine z_callV (n := 1) (rest := []) (st1 := [.int r]) (c0 := 11) (i0 := 0) (hZX.2.1 (11, 0) (by decide)) (by rfl) S hG hS hZX (fun _ _ h => h) (c_X11_binds l D aC zs A nl ad σ (xs (i + 1).toNatClampNeg) r h1f) zw_667 zw_668 zw_669 zw_2 zw_670 (by decide +kernel) ⟨rfl, rfl⟩ ⟨(Nat.le_of_ble_eq_true rfl), (Nat.le_of_ble_eq_true rfl)⟩ hl.1 rfl (by rfl) (by rfl) (Nat.le_of_ble_eq_true rfl) dL_law_316 hroom ?_
  clear hG hS
  intro H locs _ hG hS
  refine lv_aload_n hx hb dL_law_319 rfl (lv_at hl 1 rfl) ?_
  refine lv_aload_n hx hb dL_law_320 rfl (lv_at hl 3 rfl) ?_
  refine lv_iload_n hx hb dL_law_321 rfl (lv_at hl 0 rfl) ?_
  refine lv_iconst (v := 1) hx hb dL_law_322 (by decide) ?_
  refine lv_iadd hx hb dL_law_323 ?_
  refine va_sld hx hb hX hbl hbA hS (zvin hi hL hn 1 (by decide)) dL_law_324 ?_
  obtain ⟨h2f, h2s⟩ := zrm h2
  refine z_callV (n := 1) (rest := [.int r]) (st1 := [.int r, .int r]) (c0 := 12) (i0 := 0) (hZM.2.1 (12, 0) (by decide)) (by rfl) S hG hS hZM (fun _ _ h => h) (c_X12_binds l D aC zs A nl ad σ (xs (i + 1).toNatClampNeg) r h2f) zw_681 zw_682 zw_683 zw_5 zw_684 (by decide +kernel) ⟨rfl, rfl⟩ ⟨(Nat.le_of_ble_eq_true rfl), (Nat.le_of_ble_eq_true rfl)⟩ hl.1 rfl (by rfl) (by rfl) (Nat.le_of_ble_eq_true rfl) dL_law_325 hroom ?_
  clear hG hS
  intro H locs _ hG hS
  refine lv_icmp_eq (tgt := 1307) hx hb dL_law_328 (by decide) (fun _ => ?_) (fun h => absurd rfl h)
  rw [← h2s] at hG
  exact kk σ2 H locs hG hS hI2 hs2 hm2
set_option maxRecDepth 100000 in
set_option maxHeartbeats 4000000 in
theorem zl_law {p : Program} {l : Launch} {e : Env} {s : State} {m : MethodId} {below : List Frame} {meth : Method} {c : Code} {b L : Nat} {xs : Nat → Int32} {D : va_G} {aC : Nat → ClassId} {zs : Nat × Nat} {A : Nat → Prop} {nl : zNL} {ad : Nat → Nat → Nat → Nat} {σ : zM} {a11 a12 : Nat} {H : Heap} {locs : List Loc} {ls : Array Slot} {i : Int32} {n cells slots : Nat} {Q : State → Prop} {Inv : Nat → zM → Prop} (e11 : ad 11 0 0 = a11) (e12 : ad 12 0 0 = a12) (S : zS p m c code 4 s #[Value.ref b] RL) (hX : va_X b L xs s s.heap) (hbl : b < s.heap.size) (hbA : ¬ A b) (hL : L ≤ 4096) (hZX : zH zs zfX A nl s) (hZM : zH zs zfM A nl s) (hIv : Inv n σ) (hG : zG D aC A nl ad σ s H) (hS : va_S A s.heap H locs) (hi : i = Int32.ofNat n) (hn : n + 8 ≤ L) (hroom : cells ≤ 600000 ∧ slots ≤ 7302249) (hl : lv_has ls 4 [(3, .int i), (2, .ref a12), (1, .ref a11), (0, .ref b)]) (hob : ∀ (x1 : Int32) (x2 : Int32), zOb Inv (fun σ => (f_X11_law σ x1 x2).map (fun r => (r, σ))) (fun σ => (f_X12_law σ x1 x2).map (fun r => (r, σ)))) (kk : ∀ (σ2 : zM) (H1 : Heap) (locs1 : List Loc), zG D aC A nl ad σ2 s H1 → va_S A s.heap H1 locs1 → Inv (n + 8) σ2 → zSc σ2 = zSc σ → zMd σ2 = zMd σ → W p l e room_1 s m #[Value.ref b] below meth c H1 locs1 cells slots Q (F0 m 1307 ls [])) : W p l e room_1 s m #[Value.ref b] below meth c H locs cells slots Q (F0 m 333 ls []) := by
  subst e11 e12
  obtain ⟨hx, hb, -, hown, hts⟩ := id S
  obtain ⟨r, σ1, σ2, h1, h2, hI2, hs2, hm2⟩ := hob (xs (i + 1).toNatClampNeg) (xs (i + 2).toNatClampNeg) n σ (by omega) hIv
  have h1 : (f_X11_law σ (xs (i + 1).toNatClampNeg) (xs (i + 2).toNatClampNeg)).map (fun r => (r, σ)) = some (r, σ1) := h1
  have h2 : (f_X12_law σ1 (xs (i + 1).toNatClampNeg) (xs (i + 2).toNatClampNeg)).map (fun r => (r, σ1)) = some (r, σ2) := h2
  refine lv_aload_n hx hb dL_law_333 rfl (lv_at hl 2 rfl) ?_
  refine lv_aload_n hx hb dL_law_334 rfl (lv_at hl 3 rfl) ?_
  refine lv_iload_n hx hb dL_law_335 rfl (lv_at hl 0 rfl) ?_
  refine lv_iconst (v := 1) hx hb dL_law_336 (by decide) ?_
  refine lv_iadd hx hb dL_law_337 ?_
  refine va_sld hx hb hX hbl hbA hS (zvin hi hL hn 1 (by decide)) dL_law_338 ?_
  refine lv_aload_n hx hb dL_law_339 rfl (lv_at hl 3 rfl) ?_
  refine lv_iload_n hx hb dL_law_340 rfl (lv_at hl 0 rfl) ?_
  refine lv_iconst (v := 2) hx hb dL_law_341 (by decide) ?_
  refine lv_iadd hx hb dL_law_342 ?_
  refine va_sld hx hb hX hbl hbA hS (zvin hi hL hn 2 (by decide)) dL_law_343 ?_
  obtain ⟨h1f, h1s⟩ := zrm h1
  rw [h1s] at h2
  refine z_callV (n := 2) (rest := []) (st1 := [.int r]) (c0 := 11) (i0 := 0) (hZX.2.1 (11, 0) (by decide)) (by rfl) S hG hS hZX (fun _ _ h => h) (c_X11_law l D aC zs A nl ad σ (xs (i + 1).toNatClampNeg) (xs (i + 2).toNatClampNeg) r h1f) zw_692 zw_693 zw_694 zw_2 zw_695 (by decide +kernel) ⟨rfl, rfl⟩ ⟨(Nat.le_of_ble_eq_true rfl), (Nat.le_of_ble_eq_true rfl)⟩ hl.1 rfl (by rfl) (by rfl) (Nat.le_of_ble_eq_true rfl) dL_law_344 hroom ?_
  clear hG hS
  intro H locs _ hG hS
  refine lv_aload_n hx hb dL_law_347 rfl (lv_at hl 1 rfl) ?_
  refine lv_aload_n hx hb dL_law_348 rfl (lv_at hl 3 rfl) ?_
  refine lv_iload_n hx hb dL_law_349 rfl (lv_at hl 0 rfl) ?_
  refine lv_iconst (v := 1) hx hb dL_law_350 (by decide) ?_
  refine lv_iadd hx hb dL_law_351 ?_
  refine va_sld hx hb hX hbl hbA hS (zvin hi hL hn 1 (by decide)) dL_law_352 ?_
  refine lv_aload_n hx hb dL_law_353 rfl (lv_at hl 3 rfl) ?_
  refine lv_iload_n hx hb dL_law_354 rfl (lv_at hl 0 rfl) ?_
  refine lv_iconst (v := 2) hx hb dL_law_355 (by decide) ?_
  refine lv_iadd hx hb dL_law_356 ?_
  refine va_sld hx hb hX hbl hbA hS (zvin hi hL hn 2 (by decide)) dL_law_357 ?_
  obtain ⟨h2f, h2s⟩ := zrm h2
  refine z_callV (n := 2) (rest := [.int r]) (st1 := [.int r, .int r]) (c0 := 12) (i0 := 0) (hZM.2.1 (12, 0) (by decide)) (by rfl) S hG hS hZM (fun _ _ h => h) (c_X12_law l D aC zs A nl ad σ (xs (i + 1).toNatClampNeg) (xs (i + 2).toNatClampNeg) r h2f) zw_720 zw_721 zw_722 zw_5 zw_723 (by decide +kernel) ⟨rfl, rfl⟩ ⟨(Nat.le_of_ble_eq_true rfl), (Nat.le_of_ble_eq_true rfl)⟩ hl.1 rfl (by rfl) (by rfl) (Nat.le_of_ble_eq_true rfl) dL_law_358 hroom ?_
  clear hG hS
  intro H locs _ hG hS
  refine lv_icmp_eq (tgt := 1307) hx hb dL_law_361 (by decide) (fun _ => ?_) (fun h => absurd rfl h)
  rw [← h2s] at hG
  exact kk σ2 H locs hG hS hI2 hs2 hm2
set_option maxRecDepth 100000 in
set_option maxHeartbeats 4000000 in
theorem zl_name {p : Program} {l : Launch} {e : Env} {s : State} {m : MethodId} {below : List Frame} {meth : Method} {c : Code} {b L : Nat} {xs : Nat → Int32} {D : va_G} {aC : Nat → ClassId} {zs : Nat × Nat} {A : Nat → Prop} {nl : zNL} {ad : Nat → Nat → Nat → Nat} {σ : zM} {a11 a12 : Nat} {H : Heap} {locs : List Loc} {ls : Array Slot} {i : Int32} {n cells slots : Nat} {Q : State → Prop} {Inv : Nat → zM → Prop} (e11 : ad 11 0 0 = a11) (e12 : ad 12 0 0 = a12) (S : zS p m c code 4 s #[Value.ref b] RL) (hX : va_X b L xs s s.heap) (hbl : b < s.heap.size) (hbA : ¬ A b) (hL : L ≤ 4096) (hZX : zH zs zfX A nl s) (hZM : zH zs zfM A nl s) (hIv : Inv n σ) (hG : zG D aC A nl ad σ s H) (hS : va_S A s.heap H locs) (hi : i = Int32.ofNat n) (hn : n + 8 ≤ L) (hroom : cells ≤ 600000 ∧ slots ≤ 7302249) (hl : lv_has ls 4 [(3, .int i), (2, .ref a12), (1, .ref a11), (0, .ref b)]) (hob : ∀ (x1 : Int32) (x2 : Int32), zOb Inv (fun σ => (f_X11_name σ x1 x2).map (fun r => (r, σ))) (fun σ => (f_X12_name σ x1 x2).map (fun r => (r, σ)))) (kk : ∀ (σ2 : zM) (H1 : Heap) (locs1 : List Loc), zG D aC A nl ad σ2 s H1 → va_S A s.heap H1 locs1 → Inv (n + 8) σ2 → zSc σ2 = zSc σ → zMd σ2 = zMd σ → W p l e room_1 s m #[Value.ref b] below meth c H1 locs1 cells slots Q (F0 m 1307 ls [])) : W p l e room_1 s m #[Value.ref b] below meth c H locs cells slots Q (F0 m 366 ls []) := by
  subst e11 e12
  obtain ⟨hx, hb, -, hown, hts⟩ := id S
  obtain ⟨r, σ1, σ2, h1, h2, hI2, hs2, hm2⟩ := hob (xs (i + 1).toNatClampNeg) (xs (i + 2).toNatClampNeg) n σ (by omega) hIv
  have h1 : (f_X11_name σ (xs (i + 1).toNatClampNeg) (xs (i + 2).toNatClampNeg)).map (fun r => (r, σ)) = some (r, σ1) := h1
  have h2 : (f_X12_name σ1 (xs (i + 1).toNatClampNeg) (xs (i + 2).toNatClampNeg)).map (fun r => (r, σ1)) = some (r, σ2) := h2
  refine lv_aload_n hx hb dL_law_366 rfl (lv_at hl 2 rfl) ?_
  refine lv_aload_n hx hb dL_law_367 rfl (lv_at hl 3 rfl) ?_
  refine lv_iload_n hx hb dL_law_368 rfl (lv_at hl 0 rfl) ?_
  refine lv_iconst (v := 1) hx hb dL_law_369 (by decide) ?_
  refine lv_iadd hx hb dL_law_370 ?_
  refine va_sld hx hb hX hbl hbA hS (zvin hi hL hn 1 (by decide)) dL_law_371 ?_
  refine lv_aload_n hx hb dL_law_372 rfl (lv_at hl 3 rfl) ?_
  refine lv_iload_n hx hb dL_law_373 rfl (lv_at hl 0 rfl) ?_
  refine lv_iconst (v := 2) hx hb dL_law_374 (by decide) ?_
  refine lv_iadd hx hb dL_law_375 ?_
  refine va_sld hx hb hX hbl hbA hS (zvin hi hL hn 2 (by decide)) dL_law_376 ?_
  obtain ⟨h1f, h1s⟩ := zrm h1
  rw [h1s] at h2
  refine z_callV (n := 2) (rest := []) (st1 := [.int r]) (c0 := 11) (i0 := 0) (hZX.2.1 (11, 0) (by decide)) (by rfl) S hG hS hZX (fun _ _ h => h) (c_X11_name l D aC zs A nl ad σ (xs (i + 1).toNatClampNeg) (xs (i + 2).toNatClampNeg) r h1f) zw_742 zw_743 zw_744 zw_2 zw_745 (by decide +kernel) ⟨rfl, rfl⟩ ⟨(Nat.le_of_ble_eq_true rfl), (Nat.le_of_ble_eq_true rfl)⟩ hl.1 rfl (by rfl) (by rfl) (Nat.le_of_ble_eq_true rfl) dL_law_377 hroom ?_
  clear hG hS
  intro H locs _ hG hS
  refine lv_aload_n hx hb dL_law_380 rfl (lv_at hl 1 rfl) ?_
  refine lv_aload_n hx hb dL_law_381 rfl (lv_at hl 3 rfl) ?_
  refine lv_iload_n hx hb dL_law_382 rfl (lv_at hl 0 rfl) ?_
  refine lv_iconst (v := 1) hx hb dL_law_383 (by decide) ?_
  refine lv_iadd hx hb dL_law_384 ?_
  refine va_sld hx hb hX hbl hbA hS (zvin hi hL hn 1 (by decide)) dL_law_385 ?_
  refine lv_aload_n hx hb dL_law_386 rfl (lv_at hl 3 rfl) ?_
  refine lv_iload_n hx hb dL_law_387 rfl (lv_at hl 0 rfl) ?_
  refine lv_iconst (v := 2) hx hb dL_law_388 (by decide) ?_
  refine lv_iadd hx hb dL_law_389 ?_
  refine va_sld hx hb hX hbl hbA hS (zvin hi hL hn 2 (by decide)) dL_law_390 ?_
  obtain ⟨h2f, h2s⟩ := zrm h2
  refine z_callV (n := 2) (rest := [.int r]) (st1 := [.int r, .int r]) (c0 := 12) (i0 := 0) (hZM.2.1 (12, 0) (by decide)) (by rfl) S hG hS hZM (fun _ _ h => h) (c_X12_name l D aC zs A nl ad σ (xs (i + 1).toNatClampNeg) (xs (i + 2).toNatClampNeg) r h2f) zw_758 zw_759 zw_760 zw_5 zw_761 (by decide +kernel) ⟨rfl, rfl⟩ ⟨(Nat.le_of_ble_eq_true rfl), (Nat.le_of_ble_eq_true rfl)⟩ hl.1 rfl (by rfl) (by rfl) (Nat.le_of_ble_eq_true rfl) dL_law_391 hroom ?_
  clear hG hS
  intro H locs _ hG hS
  refine lv_icmp_eq (tgt := 1307) hx hb dL_law_394 (by decide) (fun _ => ?_) (fun h => absurd rfl h)
  rw [← h2s] at hG
  exact kk σ2 H locs hG hS hI2 hs2 hm2
set_option maxRecDepth 100000 in
set_option maxHeartbeats 4000000 in
theorem zl_sun {p : Program} {l : Launch} {e : Env} {s : State} {m : MethodId} {below : List Frame} {meth : Method} {c : Code} {b L : Nat} {xs : Nat → Int32} {D : va_G} {aC : Nat → ClassId} {zs : Nat × Nat} {A : Nat → Prop} {nl : zNL} {ad : Nat → Nat → Nat → Nat} {σ : zM} {a11 a12 : Nat} {H : Heap} {locs : List Loc} {ls : Array Slot} {i : Int32} {n cells slots : Nat} {Q : State → Prop} {Inv : Nat → zM → Prop} (e11 : ad 11 0 0 = a11) (e12 : ad 12 0 0 = a12) (S : zS p m c code 4 s #[Value.ref b] RL) (hX : va_X b L xs s s.heap) (hbl : b < s.heap.size) (hbA : ¬ A b) (hL : L ≤ 4096) (hZX : zH zs zfX A nl s) (hZM : zH zs zfM A nl s) (hIv : Inv n σ) (hG : zG D aC A nl ad σ s H) (hS : va_S A s.heap H locs) (hi : i = Int32.ofNat n) (hn : n + 8 ≤ L) (hroom : cells ≤ 600000 ∧ slots ≤ 7302249) (hl : lv_has ls 4 [(3, .int i), (2, .ref a12), (1, .ref a11), (0, .ref b)]) (hob : ∀ (x1 : Int32) (x2 : Int32), zOb Inv (fun σ => f_X11_sun σ x1 x2) (fun σ => f_X12_sun σ x1 x2)) (kk : ∀ (σ2 : zM) (H1 : Heap) (locs1 : List Loc), zG D aC A nl ad σ2 s H1 → va_S A s.heap H1 locs1 → Inv (n + 8) σ2 → zSc σ2 = zSc σ → zMd σ2 = zMd σ → W p l e room_1 s m #[Value.ref b] below meth c H1 locs1 cells slots Q (F0 m 1307 ls [])) : W p l e room_1 s m #[Value.ref b] below meth c H locs cells slots Q (F0 m 399 ls []) := by
  subst e11 e12
  obtain ⟨hx, hb, -, hown, hts⟩ := id S
  obtain ⟨r, σ1, σ2, h1, h2, hI2, hs2, hm2⟩ := hob (xs (i + 1).toNatClampNeg) (xs (i + 2).toNatClampNeg) n σ (by omega) hIv
  have h1 : f_X11_sun σ (xs (i + 1).toNatClampNeg) (xs (i + 2).toNatClampNeg) = some (r, σ1) := h1
  have h2 : f_X12_sun σ1 (xs (i + 1).toNatClampNeg) (xs (i + 2).toNatClampNeg) = some (r, σ2) := h2
  refine lv_aload_n hx hb dL_law_399 rfl (lv_at hl 2 rfl) ?_
  refine lv_aload_n hx hb dL_law_400 rfl (lv_at hl 3 rfl) ?_
  refine lv_iload_n hx hb dL_law_401 rfl (lv_at hl 0 rfl) ?_
  refine lv_iconst (v := 1) hx hb dL_law_402 (by decide) ?_
  refine lv_iadd hx hb dL_law_403 ?_
  refine va_sld hx hb hX hbl hbA hS (zvin hi hL hn 1 (by decide)) dL_law_404 ?_
  refine lv_aload_n hx hb dL_law_405 rfl (lv_at hl 3 rfl) ?_
  refine lv_iload_n hx hb dL_law_406 rfl (lv_at hl 0 rfl) ?_
  refine lv_iconst (v := 2) hx hb dL_law_407 (by decide) ?_
  refine lv_iadd hx hb dL_law_408 ?_
  refine va_sld hx hb hX hbl hbA hS (zvin hi hL hn 2 (by decide)) dL_law_409 ?_
  refine z_callV (n := 2) (rest := []) (st1 := [.int r]) (c0 := 11) (i0 := 0) (hZX.2.1 (11, 0) (by decide)) (by rfl) S hG hS hZX (fun _ _ h => h) (c_X11_sun l D aC zs A nl ad σ (xs (i + 1).toNatClampNeg) (xs (i + 2).toNatClampNeg) r σ1 h1) zw_766 zw_767 zw_768 zw_2 zw_769 (by decide +kernel) ⟨rfl, rfl⟩ ⟨(Nat.le_of_ble_eq_true rfl), (Nat.le_of_ble_eq_true rfl)⟩ hl.1 rfl (by rfl) (by rfl) (Nat.le_of_ble_eq_true rfl) dL_law_410 hroom ?_
  clear hG hS
  intro H locs _ hG hS
  refine lv_aload_n hx hb dL_law_413 rfl (lv_at hl 1 rfl) ?_
  refine lv_aload_n hx hb dL_law_414 rfl (lv_at hl 3 rfl) ?_
  refine lv_iload_n hx hb dL_law_415 rfl (lv_at hl 0 rfl) ?_
  refine lv_iconst (v := 1) hx hb dL_law_416 (by decide) ?_
  refine lv_iadd hx hb dL_law_417 ?_
  refine va_sld hx hb hX hbl hbA hS (zvin hi hL hn 1 (by decide)) dL_law_418 ?_
  refine lv_aload_n hx hb dL_law_419 rfl (lv_at hl 3 rfl) ?_
  refine lv_iload_n hx hb dL_law_420 rfl (lv_at hl 0 rfl) ?_
  refine lv_iconst (v := 2) hx hb dL_law_421 (by decide) ?_
  refine lv_iadd hx hb dL_law_422 ?_
  refine va_sld hx hb hX hbl hbA hS (zvin hi hL hn 2 (by decide)) dL_law_423 ?_
  refine z_callV (n := 2) (rest := [.int r]) (st1 := [.int r, .int r]) (c0 := 12) (i0 := 0) (hZM.2.1 (12, 0) (by decide)) (by rfl) S hG hS hZM (fun _ _ h => h) (c_X12_sun l D aC zs A nl ad σ1 (xs (i + 1).toNatClampNeg) (xs (i + 2).toNatClampNeg) r σ2 h2) zw_774 zw_775 zw_776 zw_5 zw_777 (by decide +kernel) ⟨rfl, rfl⟩ ⟨(Nat.le_of_ble_eq_true rfl), (Nat.le_of_ble_eq_true rfl)⟩ hl.1 rfl (by rfl) (by rfl) (Nat.le_of_ble_eq_true rfl) dL_law_424 hroom ?_
  clear hG hS
  intro H locs _ hG hS
  refine lv_icmp_eq (tgt := 1307) hx hb dL_law_427 (by decide) (fun _ => ?_) (fun h => absurd rfl h)
  exact kk σ2 H locs hG hS hI2 hs2 hm2
set_option maxRecDepth 100000 in
set_option maxHeartbeats 4000000 in
theorem zl_scheme {p : Program} {l : Launch} {e : Env} {s : State} {m : MethodId} {below : List Frame} {meth : Method} {c : Code} {b L : Nat} {xs : Nat → Int32} {D : va_G} {aC : Nat → ClassId} {zs : Nat × Nat} {A : Nat → Prop} {nl : zNL} {ad : Nat → Nat → Nat → Nat} {σ : zM} {a11 a12 : Nat} {H : Heap} {locs : List Loc} {ls : Array Slot} {i : Int32} {n cells slots : Nat} {Q : State → Prop} {Inv : Nat → zM → Prop} (e11 : ad 11 0 0 = a11) (e12 : ad 12 0 0 = a12) (S : zS p m c code 4 s #[Value.ref b] RL) (hX : va_X b L xs s s.heap) (hbl : b < s.heap.size) (hbA : ¬ A b) (hL : L ≤ 4096) (hZX : zH zs zfX A nl s) (hZM : zH zs zfM A nl s) (hIv : Inv n σ) (hG : zG D aC A nl ad σ s H) (hS : va_S A s.heap H locs) (hi : i = Int32.ofNat n) (hn : n + 8 ≤ L) (hroom : cells + 4 ≤ 600000 ∧ slots + 263 ≤ 7302249) (hl : lv_has ls 4 [(3, .int i), (2, .ref a12), (1, .ref a11), (0, .ref b)]) (hob : ∀ (x1 : Int32) (n : Nat) (σ : zM), n ≤ 4096 → Inv n σ → ∃ r σ1 σ2, f_X11_scheme σ (zSc σ) x1 = some (r, σ1) ∧ f_X12_scheme σ1 x1 = some (r, σ2) ∧ Inv (n + 8) σ2 ∧ zMd σ2 = zMd σ ∧ ((¬ ((f_X11_isAuthor x1) = 0) ∧ ¬ ((zI σ 11 0 12) < 0) ∧ (zI σ 11 0 12) < 10) → zSc σ2 = zSc σ + 1 ∧ zSc σ < 10) ∧ (¬ (¬ ((f_X11_isAuthor x1) = 0) ∧ ¬ ((zI σ 11 0 12) < 0) ∧ (zI σ 11 0 12) < 10) → zSc σ2 = zSc σ)) (hfr : ∀ o k, zSc σ ≤ o → (7, o, k) ∉ nl.1) (hnu : nl.2 = []) (kk : ∀ (ad2 : Nat → Nat → Nat → Nat) (nl2 : zNL) (σ2 : zM) (H1 : Heap) (locs1 : List Loc), ad2 11 0 0 = a11 → ad2 12 0 0 = a12 → zG D aC A nl2 ad2 σ2 s H1 → va_S A s.heap H1 locs1 → Inv (n + 8) σ2 → zMd σ2 = zMd σ → ((nl2 = nl ∧ zSc σ2 = zSc σ) ∨ (nl2 = (nl.1 ++ [(7, (zSc σ), 0), (7, (zSc σ), 3), (7, (zSc σ), 4), (7, (zSc σ), 5)], nl.2) ∧ zSc σ2 = zSc σ + 1)) → W p l e room_1 s m #[Value.ref b] below meth c H1 locs1 (cells + (zSc σ2 - zSc σ) * 4) (slots + (zSc σ2 - zSc σ) * 263) Q (F0 m 1307 ls [])) : W p l e room_1 s m #[Value.ref b] below meth c H locs cells slots Q (F0 m 432 ls []) := by
  subst e11 e12
  obtain ⟨hx, hb, -, hown, hts⟩ := id S
  obtain ⟨r, σ1, σ2, h1, h2, hI2, ho2, hyes, hno⟩ := hob (xs (i + 1).toNatClampNeg) n σ (by omega) hIv
  by_cases hc : ¬ ((f_X11_isAuthor (xs (i + 1).toNatClampNeg)) = 0) ∧ ¬ ((zI σ 11 0 12) < 0) ∧ (zI σ 11 0 12) < 10
  · obtain ⟨hy1, hy2⟩ := hyes hc
    obtain ⟨hc0, hc1, hc2⟩ := hc
    have hf1 : ∀ k, (7, (zSc σ), k) ∉ nl.1 := (fun k => hfr _ k (Nat.le_refl _))
    have hf2 : ∀ k, (7, (zSc σ), k) ∉ nl.2 := fun k h => by rw [hnu] at h; cases h
    obtain ⟨ad2, hag, hlay⟩ := zad_new ad 7 (zSc σ) H.size [0, 3, 4, 5]
    have hG : zG D aC A nl ad2 σ s H := zG_ad hG hZX.2.1 hag hf1
    have e1 : ad2 11 0 0 = ad 11 0 0 := hag 11 0 0 (fun h => absurd h.1 (by decide))
    have e2 : ad2 12 0 0 = ad 12 0 0 := hag 12 0 0 (fun h => absurd h.1 (by decide))
    rw [← e1, ← e2] at hl
    have e2 := e2
    refine lv_aload_n hx hb dL_law_432 rfl (lv_at hl 2 rfl) ?_
    refine lv_aload_n hx hb dL_law_433 rfl (lv_at hl 3 rfl) ?_
    refine lv_iload_n hx hb dL_law_434 rfl (lv_at hl 0 rfl) ?_
    refine lv_iconst (v := 1) hx hb dL_law_435 (by decide) ?_
    refine lv_iadd hx hb dL_law_436 ?_
    refine va_sld hx hb hX hbl hbA hS (zvin hi hL hn 1 (by decide)) dL_law_437 ?_
    refine z_callVM (n := 1) (rest := []) (st1 := [.int r]) (c0 := 11) (i0 := 0) (fx' := zfX) (nl' := (nl.1 ++ [(7, (zSc σ), 0), (7, (zSc σ), 3), (7, (zSc σ), 4), (7, (zSc σ), 5)], nl.2)) (hZX.2.1 (11, 0) (by decide)) (by rfl) S hG hS hZX hZX.2.1 (c_X11_scheme_n l D aC zs A nl (nl.1 ++ [(7, (zSc σ), 0), (7, (zSc σ), 3), (7, (zSc σ), 4), (7, (zSc σ), 5)], nl.2) ad2 σ (zSc σ) (xs (i + 1).toNatClampNeg) r σ1 hf1 hf2 rfl hc0 hc1 hc2 h1) ⟨(hlay 0 (by decide)), (hlay 1 (by decide)), (hlay 2 (by decide)), (hlay 3 (by decide)), trivial⟩ zw_778 zw_779 zw_780 zw_2 zw_781 (by decide +kernel) ⟨rfl, rfl⟩ ⟨(Nat.le_of_ble_eq_true rfl), (Nat.le_of_ble_eq_true rfl)⟩ hl.1 rfl (by rfl) (by rfl) (Nat.le_of_ble_eq_true rfl) dL_law_438 ⟨hroom.1, hroom.2⟩ ?_
    clear hG hS
    intro H locs _ hG hS
    have hZM2 : zH zs zfM A (nl.1 ++ [(7, (zSc σ), 0), (7, (zSc σ), 3), (7, (zSc σ), 4), (7, (zSc σ), 5)], nl.2) s := ⟨hZM.1, fun q hq => zin_app (hZM.2.1 q hq), hZM.2.2⟩
    refine lv_aload_n hx hb dL_law_441 rfl (lv_at hl 1 rfl) ?_
    refine lv_aload_n hx hb dL_law_442 rfl (lv_at hl 3 rfl) ?_
    refine lv_iload_n hx hb dL_law_443 rfl (lv_at hl 0 rfl) ?_
    refine lv_iconst (v := 1) hx hb dL_law_444 (by decide) ?_
    refine lv_iadd hx hb dL_law_445 ?_
    refine va_sld hx hb hX hbl hbA hS (zvin hi hL hn 1 (by decide)) dL_law_446 ?_
    refine z_callV (n := 1) (rest := [.int r]) (st1 := [.int r, .int r]) (c0 := 12) (i0 := 0) (hZM2.2.1 (12, 0) (by decide)) (by rfl) S hG hS hZM2 (fun _ _ h => h) (c_X12_scheme l D aC zs A (nl.1 ++ [(7, (zSc σ), 0), (7, (zSc σ), 3), (7, (zSc σ), 4), (7, (zSc σ), 5)], nl.2) ad2 σ1 (xs (i + 1).toNatClampNeg) r σ2 h2) zw_797 zw_798 zw_799 zw_5 zw_800 (by decide +kernel) ⟨rfl, rfl⟩ ⟨(Nat.le_of_ble_eq_true rfl), (Nat.le_of_ble_eq_true rfl)⟩ hl.1 rfl (by rfl) (by rfl) (Nat.le_of_ble_eq_true rfl) dL_law_447 ⟨hroom.1, hroom.2⟩ ?_
    clear hG hS
    intro H locs _ hG hS
    refine lv_icmp_eq (tgt := 1307) hx hb dL_law_450 (by decide) (fun _ => ?_) (fun h => absurd rfl h)
    have h5 := kk ad2 (nl.1 ++ [(7, (zSc σ), 0), (7, (zSc σ), 3), (7, (zSc σ), 4), (7, (zSc σ), 5)], nl.2) σ2 H locs e1 e2 hG hS hI2 ho2 (Or.inr ⟨rfl, hy1⟩)
    have h6 : zSc σ2 - zSc σ = 1 := by rw [hy1]; omega
    rw [h6, Nat.one_mul, Nat.one_mul] at h5
    exact h5
  · have hno := hno hc
    refine lv_aload_n hx hb dL_law_432 rfl (lv_at hl 2 rfl) ?_
    refine lv_aload_n hx hb dL_law_433 rfl (lv_at hl 3 rfl) ?_
    refine lv_iload_n hx hb dL_law_434 rfl (lv_at hl 0 rfl) ?_
    refine lv_iconst (v := 1) hx hb dL_law_435 (by decide) ?_
    refine lv_iadd hx hb dL_law_436 ?_
    refine va_sld hx hb hX hbl hbA hS (zvin hi hL hn 1 (by decide)) dL_law_437 ?_
    refine z_callV (n := 1) (rest := []) (st1 := [.int r]) (c0 := 11) (i0 := 0) (hZX.2.1 (11, 0) (by decide)) (by rfl) S hG hS hZX (fun _ _ h => h) (c_X11_scheme_s l D aC zs A nl ad σ (zSc σ) (xs (i + 1).toNatClampNeg) r σ1 hc h1) zw_778 zw_779 zw_780 zw_2 zw_781 (by decide +kernel) ⟨rfl, rfl⟩ ⟨(Nat.le_of_ble_eq_true rfl), (Nat.le_of_ble_eq_true rfl)⟩ hl.1 rfl (by rfl) (by rfl) (Nat.le_of_ble_eq_true rfl) dL_law_438 ⟨Nat.le_trans (Nat.le_add_right _ _) hroom.1, Nat.le_trans (Nat.le_add_right _ _) hroom.2⟩ ?_
    clear hG hS
    intro H locs _ hG hS
    refine lv_aload_n hx hb dL_law_441 rfl (lv_at hl 1 rfl) ?_
    refine lv_aload_n hx hb dL_law_442 rfl (lv_at hl 3 rfl) ?_
    refine lv_iload_n hx hb dL_law_443 rfl (lv_at hl 0 rfl) ?_
    refine lv_iconst (v := 1) hx hb dL_law_444 (by decide) ?_
    refine lv_iadd hx hb dL_law_445 ?_
    refine va_sld hx hb hX hbl hbA hS (zvin hi hL hn 1 (by decide)) dL_law_446 ?_
    refine z_callV (n := 1) (rest := [.int r]) (st1 := [.int r, .int r]) (c0 := 12) (i0 := 0) (hZM.2.1 (12, 0) (by decide)) (by rfl) S hG hS hZM (fun _ _ h => h) (c_X12_scheme l D aC zs A nl ad σ1 (xs (i + 1).toNatClampNeg) r σ2 h2) zw_797 zw_798 zw_799 zw_5 zw_800 (by decide +kernel) ⟨rfl, rfl⟩ ⟨(Nat.le_of_ble_eq_true rfl), (Nat.le_of_ble_eq_true rfl)⟩ hl.1 rfl (by rfl) (by rfl) (Nat.le_of_ble_eq_true rfl) dL_law_447 ⟨Nat.le_trans (Nat.le_add_right _ _) hroom.1, Nat.le_trans (Nat.le_add_right _ _) hroom.2⟩ ?_
    clear hG hS
    intro H locs _ hG hS
    refine lv_icmp_eq (tgt := 1307) hx hb dL_law_450 (by decide) (fun _ => ?_) (fun h => absurd rfl h)
    have h5 := kk ad nl σ2 H locs rfl rfl hG hS hI2 ho2 (Or.inl ⟨rfl, hno⟩)
    have h6 : zSc σ2 - zSc σ = 0 := by omega
    simp only [h6, Nat.zero_mul, Nat.add_zero] at h5
    exact h5
set_option maxRecDepth 100000 in
set_option maxHeartbeats 4000000 in
theorem zl_draw {p : Program} {l : Launch} {e : Env} {s : State} {m : MethodId} {below : List Frame} {meth : Method} {c : Code} {b L : Nat} {xs : Nat → Int32} {D : va_G} {aC : Nat → ClassId} {zs : Nat × Nat} {A : Nat → Prop} {nl : zNL} {ad : Nat → Nat → Nat → Nat} {σ : zM} {a11 a12 : Nat} {H : Heap} {locs : List Loc} {ls : Array Slot} {i : Int32} {n cells slots : Nat} {Q : State → Prop} {Inv : Nat → zM → Prop} (e11 : ad 11 0 0 = a11) (e12 : ad 12 0 0 = a12) (S : zS p m c code 4 s #[Value.ref b] RL) (hX : va_X b L xs s s.heap) (hbl : b < s.heap.size) (hbA : ¬ A b) (hL : L ≤ 4096) (hZX : zH zs zfX A nl s) (hZM : zH zs zfM A nl s) (hIv : Inv n σ) (hG : zG D aC A nl ad σ s H) (hS : va_S A s.heap H locs) (hi : i = Int32.ofNat n) (hn : n + 8 ≤ L) (hroom : cells ≤ 600000 ∧ slots ≤ 7302249) (hl : lv_has ls 4 [(3, .int i), (2, .ref a12), (1, .ref a11), (0, .ref b)]) (hob : ∀ (x1 : Int32) (x2 : Int32) (x3 : Int32) (x4 : Int32) (x5 : Int32) (x6 : Int32) (x7 : Int32), zOb Inv (fun σ => f_X11_draw σ x1 x2 x3 x4 x5 x6 x7) (fun σ => f_X12_draw σ x1 x2 x3 x4 x5 x6 x7)) (kk : ∀ (σ2 : zM) (H1 : Heap) (locs1 : List Loc), zG D aC A nl ad σ2 s H1 → va_S A s.heap H1 locs1 → Inv (n + 8) σ2 → zSc σ2 = zSc σ → zMd σ2 = zMd σ → W p l e room_1 s m #[Value.ref b] below meth c H1 locs1 cells slots Q (F0 m 1307 ls [])) : W p l e room_1 s m #[Value.ref b] below meth c H locs cells slots Q (F0 m 455 ls []) := by
  subst e11 e12
  obtain ⟨hx, hb, -, hown, hts⟩ := id S
  obtain ⟨r, σ1, σ2, h1, h2, hI2, hs2, hm2⟩ := hob (xs (i + 1).toNatClampNeg) (xs (i + 2).toNatClampNeg) (xs (i + 3).toNatClampNeg) (xs (i + 4).toNatClampNeg) (xs (i + 5).toNatClampNeg) (xs (i + 6).toNatClampNeg) (xs (i + 7).toNatClampNeg) n σ (by omega) hIv
  have h1 : f_X11_draw σ (xs (i + 1).toNatClampNeg) (xs (i + 2).toNatClampNeg) (xs (i + 3).toNatClampNeg) (xs (i + 4).toNatClampNeg) (xs (i + 5).toNatClampNeg) (xs (i + 6).toNatClampNeg) (xs (i + 7).toNatClampNeg) = some (r, σ1) := h1
  have h2 : f_X12_draw σ1 (xs (i + 1).toNatClampNeg) (xs (i + 2).toNatClampNeg) (xs (i + 3).toNatClampNeg) (xs (i + 4).toNatClampNeg) (xs (i + 5).toNatClampNeg) (xs (i + 6).toNatClampNeg) (xs (i + 7).toNatClampNeg) = some (r, σ2) := h2
  refine lv_aload_n hx hb dL_law_455 rfl (lv_at hl 2 rfl) ?_
  refine lv_aload_n hx hb dL_law_456 rfl (lv_at hl 3 rfl) ?_
  refine lv_iload_n hx hb dL_law_457 rfl (lv_at hl 0 rfl) ?_
  refine lv_iconst (v := 1) hx hb dL_law_458 (by decide) ?_
  refine lv_iadd hx hb dL_law_459 ?_
  refine va_sld hx hb hX hbl hbA hS (zvin hi hL hn 1 (by decide)) dL_law_460 ?_
  refine lv_aload_n hx hb dL_law_461 rfl (lv_at hl 3 rfl) ?_
  refine lv_iload_n hx hb dL_law_462 rfl (lv_at hl 0 rfl) ?_
  refine lv_iconst (v := 2) hx hb dL_law_463 (by decide) ?_
  refine lv_iadd hx hb dL_law_464 ?_
  refine va_sld hx hb hX hbl hbA hS (zvin hi hL hn 2 (by decide)) dL_law_465 ?_
  refine lv_aload_n hx hb dL_law_466 rfl (lv_at hl 3 rfl) ?_
  refine lv_iload_n hx hb dL_law_467 rfl (lv_at hl 0 rfl) ?_
  refine lv_iconst (v := 3) hx hb dL_law_468 (by decide) ?_
  refine lv_iadd hx hb dL_law_469 ?_
  refine va_sld hx hb hX hbl hbA hS (zvin hi hL hn 3 (by decide)) dL_law_470 ?_
  refine lv_aload_n hx hb dL_law_471 rfl (lv_at hl 3 rfl) ?_
  refine lv_iload_n hx hb dL_law_472 rfl (lv_at hl 0 rfl) ?_
  refine lv_iconst (v := 4) hx hb dL_law_473 (by decide) ?_
  refine lv_iadd hx hb dL_law_474 ?_
  refine va_sld hx hb hX hbl hbA hS (zvin hi hL hn 4 (by decide)) dL_law_475 ?_
  refine lv_aload_n hx hb dL_law_476 rfl (lv_at hl 3 rfl) ?_
  refine lv_iload_n hx hb dL_law_477 rfl (lv_at hl 0 rfl) ?_
  refine lv_iconst (v := 5) hx hb dL_law_478 (by decide) ?_
  refine lv_iadd hx hb dL_law_479 ?_
  refine va_sld hx hb hX hbl hbA hS (zvin hi hL hn 5 (by decide)) dL_law_480 ?_
  refine lv_aload_n hx hb dL_law_481 rfl (lv_at hl 3 rfl) ?_
  refine lv_iload_n hx hb dL_law_482 rfl (lv_at hl 0 rfl) ?_
  refine lv_bipush (v := 6) hx hb dL_law_483 (by decide) ?_
  refine lv_iadd hx hb dL_law_485 ?_
  refine va_sld hx hb hX hbl hbA hS (zvin hi hL hn 6 (by decide)) dL_law_486 ?_
  refine lv_aload_n hx hb dL_law_487 rfl (lv_at hl 3 rfl) ?_
  refine lv_iload_n hx hb dL_law_488 rfl (lv_at hl 0 rfl) ?_
  refine lv_bipush (v := 7) hx hb dL_law_489 (by decide) ?_
  refine lv_iadd hx hb dL_law_491 ?_
  refine va_sld hx hb hX hbl hbA hS (zvin hi hL hn 7 (by decide)) dL_law_492 ?_
  refine z_callV (n := 7) (rest := []) (st1 := [.int r]) (c0 := 11) (i0 := 0) (hZX.2.1 (11, 0) (by decide)) (by rfl) S hG hS hZX (fun _ _ h => h) (c_X11_draw l D aC zs A nl ad σ (xs (i + 1).toNatClampNeg) (xs (i + 2).toNatClampNeg) (xs (i + 3).toNatClampNeg) (xs (i + 4).toNatClampNeg) (xs (i + 5).toNatClampNeg) (xs (i + 6).toNatClampNeg) (xs (i + 7).toNatClampNeg) r σ1 h1) zw_802 zw_803 zw_804 zw_2 zw_805 (by decide +kernel) ⟨rfl, rfl⟩ ⟨(Nat.le_of_ble_eq_true rfl), (Nat.le_of_ble_eq_true rfl)⟩ hl.1 rfl (by rfl) (by rfl) (Nat.le_of_ble_eq_true rfl) dL_law_493 hroom ?_
  clear hG hS
  intro H locs _ hG hS
  refine lv_aload_n hx hb dL_law_496 rfl (lv_at hl 1 rfl) ?_
  refine lv_aload_n hx hb dL_law_497 rfl (lv_at hl 3 rfl) ?_
  refine lv_iload_n hx hb dL_law_498 rfl (lv_at hl 0 rfl) ?_
  refine lv_iconst (v := 1) hx hb dL_law_499 (by decide) ?_
  refine lv_iadd hx hb dL_law_500 ?_
  refine va_sld hx hb hX hbl hbA hS (zvin hi hL hn 1 (by decide)) dL_law_501 ?_
  refine lv_aload_n hx hb dL_law_502 rfl (lv_at hl 3 rfl) ?_
  refine lv_iload_n hx hb dL_law_503 rfl (lv_at hl 0 rfl) ?_
  refine lv_iconst (v := 2) hx hb dL_law_504 (by decide) ?_
  refine lv_iadd hx hb dL_law_505 ?_
  refine va_sld hx hb hX hbl hbA hS (zvin hi hL hn 2 (by decide)) dL_law_506 ?_
  refine lv_aload_n hx hb dL_law_507 rfl (lv_at hl 3 rfl) ?_
  refine lv_iload_n hx hb dL_law_508 rfl (lv_at hl 0 rfl) ?_
  refine lv_iconst (v := 3) hx hb dL_law_509 (by decide) ?_
  refine lv_iadd hx hb dL_law_510 ?_
  refine va_sld hx hb hX hbl hbA hS (zvin hi hL hn 3 (by decide)) dL_law_511 ?_
  refine lv_aload_n hx hb dL_law_512 rfl (lv_at hl 3 rfl) ?_
  refine lv_iload_n hx hb dL_law_513 rfl (lv_at hl 0 rfl) ?_
  refine lv_iconst (v := 4) hx hb dL_law_514 (by decide) ?_
  refine lv_iadd hx hb dL_law_515 ?_
  refine va_sld hx hb hX hbl hbA hS (zvin hi hL hn 4 (by decide)) dL_law_516 ?_
  refine lv_aload_n hx hb dL_law_517 rfl (lv_at hl 3 rfl) ?_
  refine lv_iload_n hx hb dL_law_518 rfl (lv_at hl 0 rfl) ?_
  refine lv_iconst (v := 5) hx hb dL_law_519 (by decide) ?_
  refine lv_iadd hx hb dL_law_520 ?_
  refine va_sld hx hb hX hbl hbA hS (zvin hi hL hn 5 (by decide)) dL_law_521 ?_
  refine lv_aload_n hx hb dL_law_522 rfl (lv_at hl 3 rfl) ?_
  refine lv_iload_n hx hb dL_law_523 rfl (lv_at hl 0 rfl) ?_
  refine lv_bipush (v := 6) hx hb dL_law_524 (by decide) ?_
  refine lv_iadd hx hb dL_law_526 ?_
  refine va_sld hx hb hX hbl hbA hS (zvin hi hL hn 6 (by decide)) dL_law_527 ?_
  refine lv_aload_n hx hb dL_law_528 rfl (lv_at hl 3 rfl) ?_
  refine lv_iload_n hx hb dL_law_529 rfl (lv_at hl 0 rfl) ?_
  refine lv_bipush (v := 7) hx hb dL_law_530 (by decide) ?_
  refine lv_iadd hx hb dL_law_532 ?_
  refine va_sld hx hb hX hbl hbA hS (zvin hi hL hn 7 (by decide)) dL_law_533 ?_
  refine z_callV (n := 7) (rest := [.int r]) (st1 := [.int r, .int r]) (c0 := 12) (i0 := 0) (hZM.2.1 (12, 0) (by decide)) (by rfl) S hG hS hZM (fun _ _ h => h) (c_X12_draw l D aC zs A nl ad σ1 (xs (i + 1).toNatClampNeg) (xs (i + 2).toNatClampNeg) (xs (i + 3).toNatClampNeg) (xs (i + 4).toNatClampNeg) (xs (i + 5).toNatClampNeg) (xs (i + 6).toNatClampNeg) (xs (i + 7).toNatClampNeg) r σ2 h2) zw_833 zw_834 zw_835 zw_5 zw_836 (by decide +kernel) ⟨rfl, rfl⟩ ⟨(Nat.le_of_ble_eq_true rfl), (Nat.le_of_ble_eq_true rfl)⟩ hl.1 rfl (by rfl) (by rfl) (Nat.le_of_ble_eq_true rfl) dL_law_534 hroom ?_
  clear hG hS
  intro H locs _ hG hS
  refine lv_icmp_eq (tgt := 1307) hx hb dL_law_537 (by decide) (fun _ => ?_) (fun h => absurd rfl h)
  exact kk σ2 H locs hG hS hI2 hs2 hm2
set_option maxRecDepth 100000 in
set_option maxHeartbeats 4000000 in
theorem zl_cell {p : Program} {l : Launch} {e : Env} {s : State} {m : MethodId} {below : List Frame} {meth : Method} {c : Code} {b L : Nat} {xs : Nat → Int32} {D : va_G} {aC : Nat → ClassId} {zs : Nat × Nat} {A : Nat → Prop} {nl : zNL} {ad : Nat → Nat → Nat → Nat} {σ : zM} {a11 a12 : Nat} {H : Heap} {locs : List Loc} {ls : Array Slot} {i : Int32} {n cells slots : Nat} {Q : State → Prop} {Inv : Nat → zM → Prop} (e11 : ad 11 0 0 = a11) (e12 : ad 12 0 0 = a12) (S : zS p m c code 4 s #[Value.ref b] RL) (hX : va_X b L xs s s.heap) (hbl : b < s.heap.size) (hbA : ¬ A b) (hL : L ≤ 4096) (hZX : zH zs zfX A nl s) (hZM : zH zs zfM A nl s) (hIv : Inv n σ) (hG : zG D aC A nl ad σ s H) (hS : va_S A s.heap H locs) (hi : i = Int32.ofNat n) (hn : n + 8 ≤ L) (hroom : cells ≤ 600000 ∧ slots ≤ 7302249) (hl : lv_has ls 4 [(3, .int i), (2, .ref a12), (1, .ref a11), (0, .ref b)]) (hob : ∀ (x1 : Int32) (x2 : Int32) (x3 : Int32) (x4 : Int32), zOb Inv (fun σ => (f_X11_cell σ x1 x2 x3 x4).map (fun r => (r, σ))) (fun σ => (f_X12_cell σ x1 x2 x3 x4).map (fun r => (r, σ)))) (kk : ∀ (σ2 : zM) (H1 : Heap) (locs1 : List Loc), zG D aC A nl ad σ2 s H1 → va_S A s.heap H1 locs1 → Inv (n + 8) σ2 → zSc σ2 = zSc σ → zMd σ2 = zMd σ → W p l e room_1 s m #[Value.ref b] below meth c H1 locs1 cells slots Q (F0 m 1307 ls [])) : W p l e room_1 s m #[Value.ref b] below meth c H locs cells slots Q (F0 m 542 ls []) := by
  subst e11 e12
  obtain ⟨hx, hb, -, hown, hts⟩ := id S
  obtain ⟨r, σ1, σ2, h1, h2, hI2, hs2, hm2⟩ := hob (xs (i + 1).toNatClampNeg) (xs (i + 2).toNatClampNeg) (xs (i + 3).toNatClampNeg) (xs (i + 4).toNatClampNeg) n σ (by omega) hIv
  have h1 : (f_X11_cell σ (xs (i + 1).toNatClampNeg) (xs (i + 2).toNatClampNeg) (xs (i + 3).toNatClampNeg) (xs (i + 4).toNatClampNeg)).map (fun r => (r, σ)) = some (r, σ1) := h1
  have h2 : (f_X12_cell σ1 (xs (i + 1).toNatClampNeg) (xs (i + 2).toNatClampNeg) (xs (i + 3).toNatClampNeg) (xs (i + 4).toNatClampNeg)).map (fun r => (r, σ1)) = some (r, σ2) := h2
  refine lv_aload_n hx hb dL_law_542 rfl (lv_at hl 2 rfl) ?_
  refine lv_aload_n hx hb dL_law_543 rfl (lv_at hl 3 rfl) ?_
  refine lv_iload_n hx hb dL_law_544 rfl (lv_at hl 0 rfl) ?_
  refine lv_iconst (v := 1) hx hb dL_law_545 (by decide) ?_
  refine lv_iadd hx hb dL_law_546 ?_
  refine va_sld hx hb hX hbl hbA hS (zvin hi hL hn 1 (by decide)) dL_law_547 ?_
  refine lv_aload_n hx hb dL_law_548 rfl (lv_at hl 3 rfl) ?_
  refine lv_iload_n hx hb dL_law_549 rfl (lv_at hl 0 rfl) ?_
  refine lv_iconst (v := 2) hx hb dL_law_550 (by decide) ?_
  refine lv_iadd hx hb dL_law_551 ?_
  refine va_sld hx hb hX hbl hbA hS (zvin hi hL hn 2 (by decide)) dL_law_552 ?_
  refine lv_aload_n hx hb dL_law_553 rfl (lv_at hl 3 rfl) ?_
  refine lv_iload_n hx hb dL_law_554 rfl (lv_at hl 0 rfl) ?_
  refine lv_iconst (v := 3) hx hb dL_law_555 (by decide) ?_
  refine lv_iadd hx hb dL_law_556 ?_
  refine va_sld hx hb hX hbl hbA hS (zvin hi hL hn 3 (by decide)) dL_law_557 ?_
  refine lv_aload_n hx hb dL_law_558 rfl (lv_at hl 3 rfl) ?_
  refine lv_iload_n hx hb dL_law_559 rfl (lv_at hl 0 rfl) ?_
  refine lv_iconst (v := 4) hx hb dL_law_560 (by decide) ?_
  refine lv_iadd hx hb dL_law_561 ?_
  refine va_sld hx hb hX hbl hbA hS (zvin hi hL hn 4 (by decide)) dL_law_562 ?_
  obtain ⟨h1f, h1s⟩ := zrm h1
  rw [h1s] at h2
  refine z_callV (n := 4) (rest := []) (st1 := [.int r]) (c0 := 11) (i0 := 0) (hZX.2.1 (11, 0) (by decide)) (by rfl) S hG hS hZX (fun _ _ h => h) (c_X11_cell l D aC zs A nl ad σ (xs (i + 1).toNatClampNeg) (xs (i + 2).toNatClampNeg) (xs (i + 3).toNatClampNeg) (xs (i + 4).toNatClampNeg) r h1f) zw_847 zw_848 zw_849 zw_2 zw_850 (by decide +kernel) ⟨rfl, rfl⟩ ⟨(Nat.le_of_ble_eq_true rfl), (Nat.le_of_ble_eq_true rfl)⟩ hl.1 rfl (by rfl) (by rfl) (Nat.le_of_ble_eq_true rfl) dL_law_563 hroom ?_
  clear hG hS
  intro H locs _ hG hS
  refine lv_aload_n hx hb dL_law_566 rfl (lv_at hl 1 rfl) ?_
  refine lv_aload_n hx hb dL_law_567 rfl (lv_at hl 3 rfl) ?_
  refine lv_iload_n hx hb dL_law_568 rfl (lv_at hl 0 rfl) ?_
  refine lv_iconst (v := 1) hx hb dL_law_569 (by decide) ?_
  refine lv_iadd hx hb dL_law_570 ?_
  refine va_sld hx hb hX hbl hbA hS (zvin hi hL hn 1 (by decide)) dL_law_571 ?_
  refine lv_aload_n hx hb dL_law_572 rfl (lv_at hl 3 rfl) ?_
  refine lv_iload_n hx hb dL_law_573 rfl (lv_at hl 0 rfl) ?_
  refine lv_iconst (v := 2) hx hb dL_law_574 (by decide) ?_
  refine lv_iadd hx hb dL_law_575 ?_
  refine va_sld hx hb hX hbl hbA hS (zvin hi hL hn 2 (by decide)) dL_law_576 ?_
  refine lv_aload_n hx hb dL_law_577 rfl (lv_at hl 3 rfl) ?_
  refine lv_iload_n hx hb dL_law_578 rfl (lv_at hl 0 rfl) ?_
  refine lv_iconst (v := 3) hx hb dL_law_579 (by decide) ?_
  refine lv_iadd hx hb dL_law_580 ?_
  refine va_sld hx hb hX hbl hbA hS (zvin hi hL hn 3 (by decide)) dL_law_581 ?_
  refine lv_aload_n hx hb dL_law_582 rfl (lv_at hl 3 rfl) ?_
  refine lv_iload_n hx hb dL_law_583 rfl (lv_at hl 0 rfl) ?_
  refine lv_iconst (v := 4) hx hb dL_law_584 (by decide) ?_
  refine lv_iadd hx hb dL_law_585 ?_
  refine va_sld hx hb hX hbl hbA hS (zvin hi hL hn 4 (by decide)) dL_law_586 ?_
  obtain ⟨h2f, h2s⟩ := zrm h2
  refine z_callV (n := 4) (rest := [.int r]) (st1 := [.int r, .int r]) (c0 := 12) (i0 := 0) (hZM.2.1 (12, 0) (by decide)) (by rfl) S hG hS hZM (fun _ _ h => h) (c_X12_cell l D aC zs A nl ad σ (xs (i + 1).toNatClampNeg) (xs (i + 2).toNatClampNeg) (xs (i + 3).toNatClampNeg) (xs (i + 4).toNatClampNeg) r h2f) zw_852 zw_853 zw_854 zw_5 zw_855 (by decide +kernel) ⟨rfl, rfl⟩ ⟨(Nat.le_of_ble_eq_true rfl), (Nat.le_of_ble_eq_true rfl)⟩ hl.1 rfl (by rfl) (by rfl) (Nat.le_of_ble_eq_true rfl) dL_law_587 hroom ?_
  clear hG hS
  intro H locs _ hG hS
  refine lv_icmp_eq (tgt := 1307) hx hb dL_law_590 (by decide) (fun _ => ?_) (fun h => absurd rfl h)
  rw [← h2s] at hG
  exact kk σ2 H locs hG hS hI2 hs2 hm2
set_option maxRecDepth 100000 in
set_option maxHeartbeats 4000000 in
theorem zl_hand {p : Program} {l : Launch} {e : Env} {s : State} {m : MethodId} {below : List Frame} {meth : Method} {c : Code} {b L : Nat} {xs : Nat → Int32} {D : va_G} {aC : Nat → ClassId} {zs : Nat × Nat} {A : Nat → Prop} {nl : zNL} {ad : Nat → Nat → Nat → Nat} {σ : zM} {a11 a12 : Nat} {H : Heap} {locs : List Loc} {ls : Array Slot} {i : Int32} {n cells slots : Nat} {Q : State → Prop} {Inv : Nat → zM → Prop} (e11 : ad 11 0 0 = a11) (e12 : ad 12 0 0 = a12) (S : zS p m c code 4 s #[Value.ref b] RL) (hX : va_X b L xs s s.heap) (hbl : b < s.heap.size) (hbA : ¬ A b) (hL : L ≤ 4096) (hZX : zH zs zfX A nl s) (hZM : zH zs zfM A nl s) (hIv : Inv n σ) (hG : zG D aC A nl ad σ s H) (hS : va_S A s.heap H locs) (hi : i = Int32.ofNat n) (hn : n + 8 ≤ L) (hroom : cells ≤ 600000 ∧ slots ≤ 7302249) (hl : lv_has ls 4 [(3, .int i), (2, .ref a12), (1, .ref a11), (0, .ref b)]) (hob : ∀ (x1 : Int32), zOb Inv (fun σ => f_X11_hand σ x1) (fun σ => f_X12_hand σ x1)) (kk : ∀ (σ2 : zM) (H1 : Heap) (locs1 : List Loc), zG D aC A nl ad σ2 s H1 → va_S A s.heap H1 locs1 → Inv (n + 8) σ2 → zSc σ2 = zSc σ → zMd σ2 = zMd σ → W p l e room_1 s m #[Value.ref b] below meth c H1 locs1 cells slots Q (F0 m 1307 ls [])) : W p l e room_1 s m #[Value.ref b] below meth c H locs cells slots Q (F0 m 595 ls []) := by
  subst e11 e12
  obtain ⟨hx, hb, -, hown, hts⟩ := id S
  obtain ⟨r, σ1, σ2, h1, h2, hI2, hs2, hm2⟩ := hob (xs (i + 1).toNatClampNeg) n σ (by omega) hIv
  have h1 : f_X11_hand σ (xs (i + 1).toNatClampNeg) = some (r, σ1) := h1
  have h2 : f_X12_hand σ1 (xs (i + 1).toNatClampNeg) = some (r, σ2) := h2
  refine lv_aload_n hx hb dL_law_595 rfl (lv_at hl 2 rfl) ?_
  refine lv_aload_n hx hb dL_law_596 rfl (lv_at hl 3 rfl) ?_
  refine lv_iload_n hx hb dL_law_597 rfl (lv_at hl 0 rfl) ?_
  refine lv_iconst (v := 1) hx hb dL_law_598 (by decide) ?_
  refine lv_iadd hx hb dL_law_599 ?_
  refine va_sld hx hb hX hbl hbA hS (zvin hi hL hn 1 (by decide)) dL_law_600 ?_
  refine z_callV (n := 1) (rest := []) (st1 := [.int r]) (c0 := 11) (i0 := 0) (hZX.2.1 (11, 0) (by decide)) (by rfl) S hG hS hZX (fun _ _ h => h) (c_X11_hand l D aC zs A nl ad σ (xs (i + 1).toNatClampNeg) r σ1 h1) zw_856 zw_857 zw_858 zw_2 zw_859 (by decide +kernel) ⟨rfl, rfl⟩ ⟨(Nat.le_of_ble_eq_true rfl), (Nat.le_of_ble_eq_true rfl)⟩ hl.1 rfl (by rfl) (by rfl) (Nat.le_of_ble_eq_true rfl) dL_law_601 hroom ?_
  clear hG hS
  intro H locs _ hG hS
  refine lv_aload_n hx hb dL_law_604 rfl (lv_at hl 1 rfl) ?_
  refine lv_aload_n hx hb dL_law_605 rfl (lv_at hl 3 rfl) ?_
  refine lv_iload_n hx hb dL_law_606 rfl (lv_at hl 0 rfl) ?_
  refine lv_iconst (v := 1) hx hb dL_law_607 (by decide) ?_
  refine lv_iadd hx hb dL_law_608 ?_
  refine va_sld hx hb hX hbl hbA hS (zvin hi hL hn 1 (by decide)) dL_law_609 ?_
  refine z_callV (n := 1) (rest := [.int r]) (st1 := [.int r, .int r]) (c0 := 12) (i0 := 0) (hZM.2.1 (12, 0) (by decide)) (by rfl) S hG hS hZM (fun _ _ h => h) (c_X12_hand l D aC zs A nl ad σ1 (xs (i + 1).toNatClampNeg) r σ2 h2) zw_861 zw_862 zw_863 zw_5 zw_864 (by decide +kernel) ⟨rfl, rfl⟩ ⟨(Nat.le_of_ble_eq_true rfl), (Nat.le_of_ble_eq_true rfl)⟩ hl.1 rfl (by rfl) (by rfl) (Nat.le_of_ble_eq_true rfl) dL_law_610 hroom ?_
  clear hG hS
  intro H locs _ hG hS
  refine lv_icmp_eq (tgt := 1307) hx hb dL_law_613 (by decide) (fun _ => ?_) (fun h => absurd rfl h)
  exact kk σ2 H locs hG hS hI2 hs2 hm2
set_option maxRecDepth 100000 in
set_option maxHeartbeats 4000000 in
theorem zl_room {p : Program} {l : Launch} {e : Env} {s : State} {m : MethodId} {below : List Frame} {meth : Method} {c : Code} {b L : Nat} {xs : Nat → Int32} {D : va_G} {aC : Nat → ClassId} {zs : Nat × Nat} {A : Nat → Prop} {nl : zNL} {ad : Nat → Nat → Nat → Nat} {σ : zM} {a11 a12 : Nat} {H : Heap} {locs : List Loc} {ls : Array Slot} {i : Int32} {n cells slots : Nat} {Q : State → Prop} {Inv : Nat → zM → Prop} (e11 : ad 11 0 0 = a11) (e12 : ad 12 0 0 = a12) (S : zS p m c code 4 s #[Value.ref b] RL) (hX : va_X b L xs s s.heap) (hbl : b < s.heap.size) (hbA : ¬ A b) (hL : L ≤ 4096) (hZX : zH zs zfX A nl s) (hZM : zH zs zfM A nl s) (hIv : Inv n σ) (hG : zG D aC A nl ad σ s H) (hS : va_S A s.heap H locs) (hi : i = Int32.ofNat n) (hn : n + 8 ≤ L) (hroom : cells ≤ 600000 ∧ slots ≤ 7302249) (hl : lv_has ls 4 [(3, .int i), (2, .ref a12), (1, .ref a11), (0, .ref b)]) (hob : ∀ (x1 : Int32) (x2 : Int32) (x3 : Int32), zOb Inv (fun σ => (f_X11_room σ x1 x2 x3).map (fun r => (r, σ))) (fun σ => (f_X12_room σ x1 x2 x3).map (fun r => (r, σ)))) (kk : ∀ (σ2 : zM) (H1 : Heap) (locs1 : List Loc), zG D aC A nl ad σ2 s H1 → va_S A s.heap H1 locs1 → Inv (n + 8) σ2 → zSc σ2 = zSc σ → zMd σ2 = zMd σ → W p l e room_1 s m #[Value.ref b] below meth c H1 locs1 cells slots Q (F0 m 1307 ls [])) : W p l e room_1 s m #[Value.ref b] below meth c H locs cells slots Q (F0 m 618 ls []) := by
  subst e11 e12
  obtain ⟨hx, hb, -, hown, hts⟩ := id S
  obtain ⟨r, σ1, σ2, h1, h2, hI2, hs2, hm2⟩ := hob (xs (i + 1).toNatClampNeg) (xs (i + 2).toNatClampNeg) (xs (i + 3).toNatClampNeg) n σ (by omega) hIv
  have h1 : (f_X11_room σ (xs (i + 1).toNatClampNeg) (xs (i + 2).toNatClampNeg) (xs (i + 3).toNatClampNeg)).map (fun r => (r, σ)) = some (r, σ1) := h1
  have h2 : (f_X12_room σ1 (xs (i + 1).toNatClampNeg) (xs (i + 2).toNatClampNeg) (xs (i + 3).toNatClampNeg)).map (fun r => (r, σ1)) = some (r, σ2) := h2
  refine lv_aload_n hx hb dL_law_618 rfl (lv_at hl 2 rfl) ?_
  refine lv_aload_n hx hb dL_law_619 rfl (lv_at hl 3 rfl) ?_
  refine lv_iload_n hx hb dL_law_620 rfl (lv_at hl 0 rfl) ?_
  refine lv_iconst (v := 1) hx hb dL_law_621 (by decide) ?_
  refine lv_iadd hx hb dL_law_622 ?_
  refine va_sld hx hb hX hbl hbA hS (zvin hi hL hn 1 (by decide)) dL_law_623 ?_
  refine lv_aload_n hx hb dL_law_624 rfl (lv_at hl 3 rfl) ?_
  refine lv_iload_n hx hb dL_law_625 rfl (lv_at hl 0 rfl) ?_
  refine lv_iconst (v := 2) hx hb dL_law_626 (by decide) ?_
  refine lv_iadd hx hb dL_law_627 ?_
  refine va_sld hx hb hX hbl hbA hS (zvin hi hL hn 2 (by decide)) dL_law_628 ?_
  refine lv_aload_n hx hb dL_law_629 rfl (lv_at hl 3 rfl) ?_
  refine lv_iload_n hx hb dL_law_630 rfl (lv_at hl 0 rfl) ?_
  refine lv_iconst (v := 3) hx hb dL_law_631 (by decide) ?_
  refine lv_iadd hx hb dL_law_632 ?_
  refine va_sld hx hb hX hbl hbA hS (zvin hi hL hn 3 (by decide)) dL_law_633 ?_
  obtain ⟨h1f, h1s⟩ := zrm h1
  rw [h1s] at h2
  refine z_callV (n := 3) (rest := []) (st1 := [.int r]) (c0 := 11) (i0 := 0) (hZX.2.1 (11, 0) (by decide)) (by rfl) S hG hS hZX (fun _ _ h => h) (c_X11_room l D aC zs A nl ad σ (xs (i + 1).toNatClampNeg) (xs (i + 2).toNatClampNeg) (xs (i + 3).toNatClampNeg) r h1f) zw_865 zw_866 zw_867 zw_2 zw_868 (by decide +kernel) ⟨rfl, rfl⟩ ⟨(Nat.le_of_ble_eq_true rfl), (Nat.le_of_ble_eq_true rfl)⟩ hl.1 rfl (by rfl) (by rfl) (Nat.le_of_ble_eq_true rfl) dL_law_634 hroom ?_
  clear hG hS
  intro H locs _ hG hS
  refine lv_aload_n hx hb dL_law_637 rfl (lv_at hl 1 rfl) ?_
  refine lv_aload_n hx hb dL_law_638 rfl (lv_at hl 3 rfl) ?_
  refine lv_iload_n hx hb dL_law_639 rfl (lv_at hl 0 rfl) ?_
  refine lv_iconst (v := 1) hx hb dL_law_640 (by decide) ?_
  refine lv_iadd hx hb dL_law_641 ?_
  refine va_sld hx hb hX hbl hbA hS (zvin hi hL hn 1 (by decide)) dL_law_642 ?_
  refine lv_aload_n hx hb dL_law_643 rfl (lv_at hl 3 rfl) ?_
  refine lv_iload_n hx hb dL_law_644 rfl (lv_at hl 0 rfl) ?_
  refine lv_iconst (v := 2) hx hb dL_law_645 (by decide) ?_
  refine lv_iadd hx hb dL_law_646 ?_
  refine va_sld hx hb hX hbl hbA hS (zvin hi hL hn 2 (by decide)) dL_law_647 ?_
  refine lv_aload_n hx hb dL_law_648 rfl (lv_at hl 3 rfl) ?_
  refine lv_iload_n hx hb dL_law_649 rfl (lv_at hl 0 rfl) ?_
  refine lv_iconst (v := 3) hx hb dL_law_650 (by decide) ?_
  refine lv_iadd hx hb dL_law_651 ?_
  refine va_sld hx hb hX hbl hbA hS (zvin hi hL hn 3 (by decide)) dL_law_652 ?_
  obtain ⟨h2f, h2s⟩ := zrm h2
  refine z_callV (n := 3) (rest := [.int r]) (st1 := [.int r, .int r]) (c0 := 12) (i0 := 0) (hZM.2.1 (12, 0) (by decide)) (by rfl) S hG hS hZM (fun _ _ h => h) (c_X12_room l D aC zs A nl ad σ (xs (i + 1).toNatClampNeg) (xs (i + 2).toNatClampNeg) (xs (i + 3).toNatClampNeg) r h2f) zw_888 zw_889 zw_890 zw_5 zw_891 (by decide +kernel) ⟨rfl, rfl⟩ ⟨(Nat.le_of_ble_eq_true rfl), (Nat.le_of_ble_eq_true rfl)⟩ hl.1 rfl (by rfl) (by rfl) (Nat.le_of_ble_eq_true rfl) dL_law_653 hroom ?_
  clear hG hS
  intro H locs _ hG hS
  refine lv_icmp_eq (tgt := 1307) hx hb dL_law_656 (by decide) (fun _ => ?_) (fun h => absurd rfl h)
  rw [← h2s] at hG
  exact kk σ2 H locs hG hS hI2 hs2 hm2
set_option maxRecDepth 100000 in
set_option maxHeartbeats 4000000 in
theorem zl_steps {p : Program} {l : Launch} {e : Env} {s : State} {m : MethodId} {below : List Frame} {meth : Method} {c : Code} {b L : Nat} {xs : Nat → Int32} {D : va_G} {aC : Nat → ClassId} {zs : Nat × Nat} {A : Nat → Prop} {nl : zNL} {ad : Nat → Nat → Nat → Nat} {σ : zM} {a11 a12 : Nat} {H : Heap} {locs : List Loc} {ls : Array Slot} {i : Int32} {n cells slots : Nat} {Q : State → Prop} {Inv : Nat → zM → Prop} (e11 : ad 11 0 0 = a11) (e12 : ad 12 0 0 = a12) (S : zS p m c code 4 s #[Value.ref b] RL) (hX : va_X b L xs s s.heap) (hbl : b < s.heap.size) (hbA : ¬ A b) (hL : L ≤ 4096) (hZX : zH zs zfX A nl s) (hZM : zH zs zfM A nl s) (hIv : Inv n σ) (hG : zG D aC A nl ad σ s H) (hS : va_S A s.heap H locs) (hi : i = Int32.ofNat n) (hn : n + 8 ≤ L) (hroom : cells ≤ 600000 ∧ slots ≤ 7302249) (hl : lv_has ls 4 [(3, .int i), (2, .ref a12), (1, .ref a11), (0, .ref b)]) (hob : ∀ (x1 : Int32) (x2 : Int32) (x3 : Int32), zOb Inv (fun σ => f_X11_steps σ x1 x2 x3) (fun σ => f_X12_steps σ x1 x2 x3)) (kk : ∀ (σ2 : zM) (H1 : Heap) (locs1 : List Loc), zG D aC A nl ad σ2 s H1 → va_S A s.heap H1 locs1 → Inv (n + 8) σ2 → zSc σ2 = zSc σ → zMd σ2 = zMd σ → W p l e room_1 s m #[Value.ref b] below meth c H1 locs1 cells slots Q (F0 m 1307 ls [])) : W p l e room_1 s m #[Value.ref b] below meth c H locs cells slots Q (F0 m 661 ls []) := by
  subst e11 e12
  obtain ⟨hx, hb, -, hown, hts⟩ := id S
  obtain ⟨r, σ1, σ2, h1, h2, hI2, hs2, hm2⟩ := hob (xs (i + 1).toNatClampNeg) (xs (i + 2).toNatClampNeg) (xs (i + 3).toNatClampNeg) n σ (by omega) hIv
  have h1 : f_X11_steps σ (xs (i + 1).toNatClampNeg) (xs (i + 2).toNatClampNeg) (xs (i + 3).toNatClampNeg) = some (r, σ1) := h1
  have h2 : f_X12_steps σ1 (xs (i + 1).toNatClampNeg) (xs (i + 2).toNatClampNeg) (xs (i + 3).toNatClampNeg) = some (r, σ2) := h2
  refine lv_aload_n hx hb dL_law_661 rfl (lv_at hl 2 rfl) ?_
  refine lv_aload_n hx hb dL_law_662 rfl (lv_at hl 3 rfl) ?_
  refine lv_iload_n hx hb dL_law_663 rfl (lv_at hl 0 rfl) ?_
  refine lv_iconst (v := 1) hx hb dL_law_664 (by decide) ?_
  refine lv_iadd hx hb dL_law_665 ?_
  refine va_sld hx hb hX hbl hbA hS (zvin hi hL hn 1 (by decide)) dL_law_666 ?_
  refine lv_aload_n hx hb dL_law_667 rfl (lv_at hl 3 rfl) ?_
  refine lv_iload_n hx hb dL_law_668 rfl (lv_at hl 0 rfl) ?_
  refine lv_iconst (v := 2) hx hb dL_law_669 (by decide) ?_
  refine lv_iadd hx hb dL_law_670 ?_
  refine va_sld hx hb hX hbl hbA hS (zvin hi hL hn 2 (by decide)) dL_law_671 ?_
  refine lv_aload_n hx hb dL_law_672 rfl (lv_at hl 3 rfl) ?_
  refine lv_iload_n hx hb dL_law_673 rfl (lv_at hl 0 rfl) ?_
  refine lv_iconst (v := 3) hx hb dL_law_674 (by decide) ?_
  refine lv_iadd hx hb dL_law_675 ?_
  refine va_sld hx hb hX hbl hbA hS (zvin hi hL hn 3 (by decide)) dL_law_676 ?_
  refine z_callV (n := 3) (rest := []) (st1 := [.int r]) (c0 := 11) (i0 := 0) (hZX.2.1 (11, 0) (by decide)) (by rfl) S hG hS hZX (fun _ _ h => h) (c_X11_steps l D aC zs A nl ad σ (xs (i + 1).toNatClampNeg) (xs (i + 2).toNatClampNeg) (xs (i + 3).toNatClampNeg) r σ1 h1) zw_913 zw_914 zw_915 zw_2 zw_916 (by decide +kernel) ⟨rfl, rfl⟩ ⟨(Nat.le_of_ble_eq_true rfl), (Nat.le_of_ble_eq_true rfl)⟩ hl.1 rfl (by rfl) (by rfl) (Nat.le_of_ble_eq_true rfl) dL_law_677 hroom ?_
  clear hG hS
  intro H locs _ hG hS
  refine lv_aload_n hx hb dL_law_680 rfl (lv_at hl 1 rfl) ?_
  refine lv_aload_n hx hb dL_law_681 rfl (lv_at hl 3 rfl) ?_
  refine lv_iload_n hx hb dL_law_682 rfl (lv_at hl 0 rfl) ?_
  refine lv_iconst (v := 1) hx hb dL_law_683 (by decide) ?_
  refine lv_iadd hx hb dL_law_684 ?_
  refine va_sld hx hb hX hbl hbA hS (zvin hi hL hn 1 (by decide)) dL_law_685 ?_
  refine lv_aload_n hx hb dL_law_686 rfl (lv_at hl 3 rfl) ?_
  refine lv_iload_n hx hb dL_law_687 rfl (lv_at hl 0 rfl) ?_
  refine lv_iconst (v := 2) hx hb dL_law_688 (by decide) ?_
  refine lv_iadd hx hb dL_law_689 ?_
  refine va_sld hx hb hX hbl hbA hS (zvin hi hL hn 2 (by decide)) dL_law_690 ?_
  refine lv_aload_n hx hb dL_law_691 rfl (lv_at hl 3 rfl) ?_
  refine lv_iload_n hx hb dL_law_692 rfl (lv_at hl 0 rfl) ?_
  refine lv_iconst (v := 3) hx hb dL_law_693 (by decide) ?_
  refine lv_iadd hx hb dL_law_694 ?_
  refine va_sld hx hb hX hbl hbA hS (zvin hi hL hn 3 (by decide)) dL_law_695 ?_
  refine z_callV (n := 3) (rest := [.int r]) (st1 := [.int r, .int r]) (c0 := 12) (i0 := 0) (hZM.2.1 (12, 0) (by decide)) (by rfl) S hG hS hZM (fun _ _ h => h) (c_X12_steps l D aC zs A nl ad σ1 (xs (i + 1).toNatClampNeg) (xs (i + 2).toNatClampNeg) (xs (i + 3).toNatClampNeg) r σ2 h2) zw_929 zw_930 zw_931 zw_5 zw_932 (by decide +kernel) ⟨rfl, rfl⟩ ⟨(Nat.le_of_ble_eq_true rfl), (Nat.le_of_ble_eq_true rfl)⟩ hl.1 rfl (by rfl) (by rfl) (Nat.le_of_ble_eq_true rfl) dL_law_696 hroom ?_
  clear hG hS
  intro H locs _ hG hS
  refine lv_icmp_eq (tgt := 1307) hx hb dL_law_699 (by decide) (fun _ => ?_) (fun h => absurd rfl h)
  exact kk σ2 H locs hG hS hI2 hs2 hm2
set_option maxRecDepth 100000 in
set_option maxHeartbeats 4000000 in
theorem zl_cost {p : Program} {l : Launch} {e : Env} {s : State} {m : MethodId} {below : List Frame} {meth : Method} {c : Code} {b L : Nat} {xs : Nat → Int32} {D : va_G} {aC : Nat → ClassId} {zs : Nat × Nat} {A : Nat → Prop} {nl : zNL} {ad : Nat → Nat → Nat → Nat} {σ : zM} {a11 a12 : Nat} {H : Heap} {locs : List Loc} {ls : Array Slot} {i : Int32} {n cells slots : Nat} {Q : State → Prop} {Inv : Nat → zM → Prop} (e11 : ad 11 0 0 = a11) (e12 : ad 12 0 0 = a12) (S : zS p m c code 4 s #[Value.ref b] RL) (hX : va_X b L xs s s.heap) (hbl : b < s.heap.size) (hbA : ¬ A b) (hL : L ≤ 4096) (hZX : zH zs zfX A nl s) (hZM : zH zs zfM A nl s) (hIv : Inv n σ) (hG : zG D aC A nl ad σ s H) (hS : va_S A s.heap H locs) (hi : i = Int32.ofNat n) (hn : n + 8 ≤ L) (hroom : cells ≤ 600000 ∧ slots ≤ 7302249) (hl : lv_has ls 4 [(3, .int i), (2, .ref a12), (1, .ref a11), (0, .ref b)]) (hob : ∀ (x1 : Int32) (x2 : Int32) (x3 : Int32), zOb Inv (fun σ => (f_X11_cost σ x1 x2 x3).map (fun r => (r, σ))) (fun σ => (f_X12_cost σ x1 x2 x3).map (fun r => (r, σ)))) (kk : ∀ (σ2 : zM) (H1 : Heap) (locs1 : List Loc), zG D aC A nl ad σ2 s H1 → va_S A s.heap H1 locs1 → Inv (n + 8) σ2 → zSc σ2 = zSc σ → zMd σ2 = zMd σ → W p l e room_1 s m #[Value.ref b] below meth c H1 locs1 cells slots Q (F0 m 1307 ls [])) : W p l e room_1 s m #[Value.ref b] below meth c H locs cells slots Q (F0 m 704 ls []) := by
  subst e11 e12
  obtain ⟨hx, hb, -, hown, hts⟩ := id S
  obtain ⟨r, σ1, σ2, h1, h2, hI2, hs2, hm2⟩ := hob (xs (i + 1).toNatClampNeg) (xs (i + 2).toNatClampNeg) (xs (i + 3).toNatClampNeg) n σ (by omega) hIv
  have h1 : (f_X11_cost σ (xs (i + 1).toNatClampNeg) (xs (i + 2).toNatClampNeg) (xs (i + 3).toNatClampNeg)).map (fun r => (r, σ)) = some (r, σ1) := h1
  have h2 : (f_X12_cost σ1 (xs (i + 1).toNatClampNeg) (xs (i + 2).toNatClampNeg) (xs (i + 3).toNatClampNeg)).map (fun r => (r, σ1)) = some (r, σ2) := h2
  refine lv_aload_n hx hb dL_law_704 rfl (lv_at hl 2 rfl) ?_
  refine lv_aload_n hx hb dL_law_705 rfl (lv_at hl 3 rfl) ?_
  refine lv_iload_n hx hb dL_law_706 rfl (lv_at hl 0 rfl) ?_
  refine lv_iconst (v := 1) hx hb dL_law_707 (by decide) ?_
  refine lv_iadd hx hb dL_law_708 ?_
  refine va_sld hx hb hX hbl hbA hS (zvin hi hL hn 1 (by decide)) dL_law_709 ?_
  refine lv_aload_n hx hb dL_law_710 rfl (lv_at hl 3 rfl) ?_
  refine lv_iload_n hx hb dL_law_711 rfl (lv_at hl 0 rfl) ?_
  refine lv_iconst (v := 2) hx hb dL_law_712 (by decide) ?_
  refine lv_iadd hx hb dL_law_713 ?_
  refine va_sld hx hb hX hbl hbA hS (zvin hi hL hn 2 (by decide)) dL_law_714 ?_
  refine lv_aload_n hx hb dL_law_715 rfl (lv_at hl 3 rfl) ?_
  refine lv_iload_n hx hb dL_law_716 rfl (lv_at hl 0 rfl) ?_
  refine lv_iconst (v := 3) hx hb dL_law_717 (by decide) ?_
  refine lv_iadd hx hb dL_law_718 ?_
  refine va_sld hx hb hX hbl hbA hS (zvin hi hL hn 3 (by decide)) dL_law_719 ?_
  obtain ⟨h1f, h1s⟩ := zrm h1
  rw [h1s] at h2
  refine z_callV (n := 3) (rest := []) (st1 := [.int r]) (c0 := 11) (i0 := 0) (hZX.2.1 (11, 0) (by decide)) (by rfl) S hG hS hZX (fun _ _ h => h) (c_X11_cost l D aC zs A nl ad σ (xs (i + 1).toNatClampNeg) (xs (i + 2).toNatClampNeg) (xs (i + 3).toNatClampNeg) r h1f) zw_946 zw_947 zw_948 zw_2 zw_949 (by decide +kernel) ⟨rfl, rfl⟩ ⟨(Nat.le_of_ble_eq_true rfl), (Nat.le_of_ble_eq_true rfl)⟩ hl.1 rfl (by rfl) (by rfl) (Nat.le_of_ble_eq_true rfl) dL_law_720 hroom ?_
  clear hG hS
  intro H locs _ hG hS
  refine lv_aload_n hx hb dL_law_723 rfl (lv_at hl 1 rfl) ?_
  refine lv_aload_n hx hb dL_law_724 rfl (lv_at hl 3 rfl) ?_
  refine lv_iload_n hx hb dL_law_725 rfl (lv_at hl 0 rfl) ?_
  refine lv_iconst (v := 1) hx hb dL_law_726 (by decide) ?_
  refine lv_iadd hx hb dL_law_727 ?_
  refine va_sld hx hb hX hbl hbA hS (zvin hi hL hn 1 (by decide)) dL_law_728 ?_
  refine lv_aload_n hx hb dL_law_729 rfl (lv_at hl 3 rfl) ?_
  refine lv_iload_n hx hb dL_law_730 rfl (lv_at hl 0 rfl) ?_
  refine lv_iconst (v := 2) hx hb dL_law_731 (by decide) ?_
  refine lv_iadd hx hb dL_law_732 ?_
  refine va_sld hx hb hX hbl hbA hS (zvin hi hL hn 2 (by decide)) dL_law_733 ?_
  refine lv_aload_n hx hb dL_law_734 rfl (lv_at hl 3 rfl) ?_
  refine lv_iload_n hx hb dL_law_735 rfl (lv_at hl 0 rfl) ?_
  refine lv_iconst (v := 3) hx hb dL_law_736 (by decide) ?_
  refine lv_iadd hx hb dL_law_737 ?_
  refine va_sld hx hb hX hbl hbA hS (zvin hi hL hn 3 (by decide)) dL_law_738 ?_
  obtain ⟨h2f, h2s⟩ := zrm h2
  refine z_callV (n := 3) (rest := [.int r]) (st1 := [.int r, .int r]) (c0 := 12) (i0 := 0) (hZM.2.1 (12, 0) (by decide)) (by rfl) S hG hS hZM (fun _ _ h => h) (c_X12_cost l D aC zs A nl ad σ (xs (i + 1).toNatClampNeg) (xs (i + 2).toNatClampNeg) (xs (i + 3).toNatClampNeg) r h2f) zw_957 zw_958 zw_959 zw_5 zw_960 (by decide +kernel) ⟨rfl, rfl⟩ ⟨(Nat.le_of_ble_eq_true rfl), (Nat.le_of_ble_eq_true rfl)⟩ hl.1 rfl (by rfl) (by rfl) (Nat.le_of_ble_eq_true rfl) dL_law_739 hroom ?_
  clear hG hS
  intro H locs _ hG hS
  refine lv_icmp_eq (tgt := 1307) hx hb dL_law_742 (by decide) (fun _ => ?_) (fun h => absurd rfl h)
  rw [← h2s] at hG
  exact kk σ2 H locs hG hS hI2 hs2 hm2
set_option maxRecDepth 100000 in
set_option maxHeartbeats 4000000 in
theorem zl_why {p : Program} {l : Launch} {e : Env} {s : State} {m : MethodId} {below : List Frame} {meth : Method} {c : Code} {b L : Nat} {xs : Nat → Int32} {D : va_G} {aC : Nat → ClassId} {zs : Nat × Nat} {A : Nat → Prop} {nl : zNL} {ad : Nat → Nat → Nat → Nat} {σ : zM} {a11 a12 : Nat} {H : Heap} {locs : List Loc} {ls : Array Slot} {i : Int32} {n cells slots : Nat} {Q : State → Prop} {Inv : Nat → zM → Prop} (e11 : ad 11 0 0 = a11) (e12 : ad 12 0 0 = a12) (S : zS p m c code 4 s #[Value.ref b] RL) (hX : va_X b L xs s s.heap) (hbl : b < s.heap.size) (hbA : ¬ A b) (hL : L ≤ 4096) (hZX : zH zs zfX A nl s) (hZM : zH zs zfM A nl s) (hIv : Inv n σ) (hG : zG D aC A nl ad σ s H) (hS : va_S A s.heap H locs) (hi : i = Int32.ofNat n) (hn : n + 8 ≤ L) (hroom : cells ≤ 600000 ∧ slots ≤ 7302249) (hl : lv_has ls 4 [(3, .int i), (2, .ref a12), (1, .ref a11), (0, .ref b)]) (hob : ∀ (x1 : Int32), zOb Inv (fun σ => f_X11_why σ x1) (fun σ => f_X12_why σ x1)) (kk : ∀ (σ2 : zM) (H1 : Heap) (locs1 : List Loc), zG D aC A nl ad σ2 s H1 → va_S A s.heap H1 locs1 → Inv (n + 8) σ2 → zSc σ2 = zSc σ → zMd σ2 = zMd σ → W p l e room_1 s m #[Value.ref b] below meth c H1 locs1 cells slots Q (F0 m 1307 ls [])) : W p l e room_1 s m #[Value.ref b] below meth c H locs cells slots Q (F0 m 747 ls []) := by
  subst e11 e12
  obtain ⟨hx, hb, -, hown, hts⟩ := id S
  obtain ⟨r, σ1, σ2, h1, h2, hI2, hs2, hm2⟩ := hob (xs (i + 1).toNatClampNeg) n σ (by omega) hIv
  have h1 : f_X11_why σ (xs (i + 1).toNatClampNeg) = some (r, σ1) := h1
  have h2 : f_X12_why σ1 (xs (i + 1).toNatClampNeg) = some (r, σ2) := h2
  refine lv_aload_n hx hb dL_law_747 rfl (lv_at hl 2 rfl) ?_
  refine lv_aload_n hx hb dL_law_748 rfl (lv_at hl 3 rfl) ?_
  refine lv_iload_n hx hb dL_law_749 rfl (lv_at hl 0 rfl) ?_
  refine lv_iconst (v := 1) hx hb dL_law_750 (by decide) ?_
  refine lv_iadd hx hb dL_law_751 ?_
  refine va_sld hx hb hX hbl hbA hS (zvin hi hL hn 1 (by decide)) dL_law_752 ?_
  refine z_callV (n := 1) (rest := []) (st1 := [.int r]) (c0 := 11) (i0 := 0) (hZX.2.1 (11, 0) (by decide)) (by rfl) S hG hS hZX (fun _ _ h => h) (c_X11_why l D aC zs A nl ad σ (xs (i + 1).toNatClampNeg) r σ1 h1) zw_970 zw_971 zw_972 zw_2 zw_973 (by decide +kernel) ⟨rfl, rfl⟩ ⟨(Nat.le_of_ble_eq_true rfl), (Nat.le_of_ble_eq_true rfl)⟩ hl.1 rfl (by rfl) (by rfl) (Nat.le_of_ble_eq_true rfl) dL_law_753 hroom ?_
  clear hG hS
  intro H locs _ hG hS
  refine lv_aload_n hx hb dL_law_756 rfl (lv_at hl 1 rfl) ?_
  refine lv_aload_n hx hb dL_law_757 rfl (lv_at hl 3 rfl) ?_
  refine lv_iload_n hx hb dL_law_758 rfl (lv_at hl 0 rfl) ?_
  refine lv_iconst (v := 1) hx hb dL_law_759 (by decide) ?_
  refine lv_iadd hx hb dL_law_760 ?_
  refine va_sld hx hb hX hbl hbA hS (zvin hi hL hn 1 (by decide)) dL_law_761 ?_
  refine z_callV (n := 1) (rest := [.int r]) (st1 := [.int r, .int r]) (c0 := 12) (i0 := 0) (hZM.2.1 (12, 0) (by decide)) (by rfl) S hG hS hZM (fun _ _ h => h) (c_X12_why l D aC zs A nl ad σ1 (xs (i + 1).toNatClampNeg) r σ2 h2) zw_1036 zw_1037 zw_1038 zw_5 zw_1039 (by decide +kernel) ⟨rfl, rfl⟩ ⟨(Nat.le_of_ble_eq_true rfl), (Nat.le_of_ble_eq_true rfl)⟩ hl.1 rfl (by rfl) (by rfl) (Nat.le_of_ble_eq_true rfl) dL_law_762 hroom ?_
  clear hG hS
  intro H locs _ hG hS
  refine lv_icmp_eq (tgt := 1307) hx hb dL_law_765 (by decide) (fun _ => ?_) (fun h => absurd rfl h)
  exact kk σ2 H locs hG hS hI2 hs2 hm2
set_option maxRecDepth 100000 in
set_option maxHeartbeats 4000000 in
theorem zl_mend {p : Program} {l : Launch} {e : Env} {s : State} {m : MethodId} {below : List Frame} {meth : Method} {c : Code} {b L : Nat} {xs : Nat → Int32} {D : va_G} {aC : Nat → ClassId} {zs : Nat × Nat} {A : Nat → Prop} {nl : zNL} {ad : Nat → Nat → Nat → Nat} {σ : zM} {a11 a12 : Nat} {H : Heap} {locs : List Loc} {ls : Array Slot} {i : Int32} {n cells slots : Nat} {Q : State → Prop} {Inv : Nat → zM → Prop} (e11 : ad 11 0 0 = a11) (e12 : ad 12 0 0 = a12) (S : zS p m c code 4 s #[Value.ref b] RL) (hX : va_X b L xs s s.heap) (hbl : b < s.heap.size) (hbA : ¬ A b) (hL : L ≤ 4096) (hZX : zH zs zfX A nl s) (hZM : zH zs zfM A nl s) (hIv : Inv n σ) (hG : zG D aC A nl ad σ s H) (hS : va_S A s.heap H locs) (hi : i = Int32.ofNat n) (hn : n + 8 ≤ L) (hroom : cells ≤ 600000 ∧ slots ≤ 7302249) (hl : lv_has ls 4 [(3, .int i), (2, .ref a12), (1, .ref a11), (0, .ref b)]) (hob : ∀ (x1 : Int32) (x2 : Int32), zOb Inv (fun σ => f_X11_mend σ x1 x2) (fun σ => f_X12_mend σ x1 x2)) (kk : ∀ (σ2 : zM) (H1 : Heap) (locs1 : List Loc), zG D aC A nl ad σ2 s H1 → va_S A s.heap H1 locs1 → Inv (n + 8) σ2 → zSc σ2 = zSc σ → zMd σ2 = zMd σ → W p l e room_1 s m #[Value.ref b] below meth c H1 locs1 cells slots Q (F0 m 1307 ls [])) : W p l e room_1 s m #[Value.ref b] below meth c H locs cells slots Q (F0 m 770 ls []) := by
  subst e11 e12
  obtain ⟨hx, hb, -, hown, hts⟩ := id S
  obtain ⟨r, σ1, σ2, h1, h2, hI2, hs2, hm2⟩ := hob (xs (i + 1).toNatClampNeg) (xs (i + 2).toNatClampNeg) n σ (by omega) hIv
  have h1 : f_X11_mend σ (xs (i + 1).toNatClampNeg) (xs (i + 2).toNatClampNeg) = some (r, σ1) := h1
  have h2 : f_X12_mend σ1 (xs (i + 1).toNatClampNeg) (xs (i + 2).toNatClampNeg) = some (r, σ2) := h2
  refine lv_aload_n hx hb dL_law_770 rfl (lv_at hl 2 rfl) ?_
  refine lv_aload_n hx hb dL_law_771 rfl (lv_at hl 3 rfl) ?_
  refine lv_iload_n hx hb dL_law_772 rfl (lv_at hl 0 rfl) ?_
  refine lv_iconst (v := 1) hx hb dL_law_773 (by decide) ?_
  refine lv_iadd hx hb dL_law_774 ?_
  refine va_sld hx hb hX hbl hbA hS (zvin hi hL hn 1 (by decide)) dL_law_775 ?_
  refine lv_aload_n hx hb dL_law_776 rfl (lv_at hl 3 rfl) ?_
  refine lv_iload_n hx hb dL_law_777 rfl (lv_at hl 0 rfl) ?_
  refine lv_iconst (v := 2) hx hb dL_law_778 (by decide) ?_
  refine lv_iadd hx hb dL_law_779 ?_
  refine va_sld hx hb hX hbl hbA hS (zvin hi hL hn 2 (by decide)) dL_law_780 ?_
  refine z_callV (n := 2) (rest := []) (st1 := [.int r]) (c0 := 11) (i0 := 0) (hZX.2.1 (11, 0) (by decide)) (by rfl) S hG hS hZX (fun _ _ h => h) (c_X11_mend l D aC zs A nl ad σ (xs (i + 1).toNatClampNeg) (xs (i + 2).toNatClampNeg) r σ1 h1) zw_1060 zw_1061 zw_1062 zw_2 zw_1063 (by decide +kernel) ⟨rfl, rfl⟩ ⟨(Nat.le_of_ble_eq_true rfl), (Nat.le_of_ble_eq_true rfl)⟩ hl.1 rfl (by rfl) (by rfl) (Nat.le_of_ble_eq_true rfl) dL_law_781 hroom ?_
  clear hG hS
  intro H locs _ hG hS
  refine lv_aload_n hx hb dL_law_784 rfl (lv_at hl 1 rfl) ?_
  refine lv_aload_n hx hb dL_law_785 rfl (lv_at hl 3 rfl) ?_
  refine lv_iload_n hx hb dL_law_786 rfl (lv_at hl 0 rfl) ?_
  refine lv_iconst (v := 1) hx hb dL_law_787 (by decide) ?_
  refine lv_iadd hx hb dL_law_788 ?_
  refine va_sld hx hb hX hbl hbA hS (zvin hi hL hn 1 (by decide)) dL_law_789 ?_
  refine lv_aload_n hx hb dL_law_790 rfl (lv_at hl 3 rfl) ?_
  refine lv_iload_n hx hb dL_law_791 rfl (lv_at hl 0 rfl) ?_
  refine lv_iconst (v := 2) hx hb dL_law_792 (by decide) ?_
  refine lv_iadd hx hb dL_law_793 ?_
  refine va_sld hx hb hX hbl hbA hS (zvin hi hL hn 2 (by decide)) dL_law_794 ?_
  refine z_callV (n := 2) (rest := [.int r]) (st1 := [.int r, .int r]) (c0 := 12) (i0 := 0) (hZM.2.1 (12, 0) (by decide)) (by rfl) S hG hS hZM (fun _ _ h => h) (c_X12_mend l D aC zs A nl ad σ1 (xs (i + 1).toNatClampNeg) (xs (i + 2).toNatClampNeg) r σ2 h2) zw_1081 zw_1082 zw_1083 zw_5 zw_1084 (by decide +kernel) ⟨rfl, rfl⟩ ⟨(Nat.le_of_ble_eq_true rfl), (Nat.le_of_ble_eq_true rfl)⟩ hl.1 rfl (by rfl) (by rfl) (Nat.le_of_ble_eq_true rfl) dL_law_795 hroom ?_
  clear hG hS
  intro H locs _ hG hS
  refine lv_icmp_eq (tgt := 1307) hx hb dL_law_798 (by decide) (fun _ => ?_) (fun h => absurd rfl h)
  exact kk σ2 H locs hG hS hI2 hs2 hm2
set_option maxRecDepth 100000 in
set_option maxHeartbeats 4000000 in
theorem zl_alike {p : Program} {l : Launch} {e : Env} {s : State} {m : MethodId} {below : List Frame} {meth : Method} {c : Code} {b L : Nat} {xs : Nat → Int32} {D : va_G} {aC : Nat → ClassId} {zs : Nat × Nat} {A : Nat → Prop} {nl : zNL} {ad : Nat → Nat → Nat → Nat} {σ : zM} {a11 a12 : Nat} {H : Heap} {locs : List Loc} {ls : Array Slot} {i : Int32} {n cells slots : Nat} {Q : State → Prop} {Inv : Nat → zM → Prop} (e11 : ad 11 0 0 = a11) (e12 : ad 12 0 0 = a12) (S : zS p m c code 4 s #[Value.ref b] RL) (hX : va_X b L xs s s.heap) (hbl : b < s.heap.size) (hbA : ¬ A b) (hL : L ≤ 4096) (hZX : zH zs zfX A nl s) (hZM : zH zs zfM A nl s) (hIv : Inv n σ) (hG : zG D aC A nl ad σ s H) (hS : va_S A s.heap H locs) (hi : i = Int32.ofNat n) (hn : n + 8 ≤ L) (hroom : cells ≤ 600000 ∧ slots ≤ 7302249) (hl : lv_has ls 4 [(3, .int i), (2, .ref a12), (1, .ref a11), (0, .ref b)]) (hob : ∀ (x1 : Int32) (x2 : Int32), zOb Inv (fun σ => f_X11_alike σ x1 x2) (fun σ => f_X12_alike σ x1 x2)) (kk : ∀ (σ2 : zM) (H1 : Heap) (locs1 : List Loc), zG D aC A nl ad σ2 s H1 → va_S A s.heap H1 locs1 → Inv (n + 8) σ2 → zSc σ2 = zSc σ → zMd σ2 = zMd σ → W p l e room_1 s m #[Value.ref b] below meth c H1 locs1 cells slots Q (F0 m 1307 ls [])) : W p l e room_1 s m #[Value.ref b] below meth c H locs cells slots Q (F0 m 803 ls []) := by
  subst e11 e12
  obtain ⟨hx, hb, -, hown, hts⟩ := id S
  obtain ⟨r, σ1, σ2, h1, h2, hI2, hs2, hm2⟩ := hob (xs (i + 1).toNatClampNeg) (xs (i + 2).toNatClampNeg) n σ (by omega) hIv
  have h1 : f_X11_alike σ (xs (i + 1).toNatClampNeg) (xs (i + 2).toNatClampNeg) = some (r, σ1) := h1
  have h2 : f_X12_alike σ1 (xs (i + 1).toNatClampNeg) (xs (i + 2).toNatClampNeg) = some (r, σ2) := h2
  refine lv_aload_n hx hb dL_law_803 rfl (lv_at hl 2 rfl) ?_
  refine lv_aload_n hx hb dL_law_804 rfl (lv_at hl 3 rfl) ?_
  refine lv_iload_n hx hb dL_law_805 rfl (lv_at hl 0 rfl) ?_
  refine lv_iconst (v := 1) hx hb dL_law_806 (by decide) ?_
  refine lv_iadd hx hb dL_law_807 ?_
  refine va_sld hx hb hX hbl hbA hS (zvin hi hL hn 1 (by decide)) dL_law_808 ?_
  refine lv_aload_n hx hb dL_law_809 rfl (lv_at hl 3 rfl) ?_
  refine lv_iload_n hx hb dL_law_810 rfl (lv_at hl 0 rfl) ?_
  refine lv_iconst (v := 2) hx hb dL_law_811 (by decide) ?_
  refine lv_iadd hx hb dL_law_812 ?_
  refine va_sld hx hb hX hbl hbA hS (zvin hi hL hn 2 (by decide)) dL_law_813 ?_
  refine z_callV (n := 2) (rest := []) (st1 := [.int r]) (c0 := 11) (i0 := 0) (hZX.2.1 (11, 0) (by decide)) (by rfl) S hG hS hZX (fun _ _ h => h) (c_X11_alike l D aC zs A nl ad σ (xs (i + 1).toNatClampNeg) (xs (i + 2).toNatClampNeg) r σ1 h1) zw_1089 zw_1090 zw_1091 zw_2 zw_1092 (by decide +kernel) ⟨rfl, rfl⟩ ⟨(Nat.le_of_ble_eq_true rfl), (Nat.le_of_ble_eq_true rfl)⟩ hl.1 rfl (by rfl) (by rfl) (Nat.le_of_ble_eq_true rfl) dL_law_814 hroom ?_
  clear hG hS
  intro H locs _ hG hS
  refine lv_aload_n hx hb dL_law_817 rfl (lv_at hl 1 rfl) ?_
  refine lv_aload_n hx hb dL_law_818 rfl (lv_at hl 3 rfl) ?_
  refine lv_iload_n hx hb dL_law_819 rfl (lv_at hl 0 rfl) ?_
  refine lv_iconst (v := 1) hx hb dL_law_820 (by decide) ?_
  refine lv_iadd hx hb dL_law_821 ?_
  refine va_sld hx hb hX hbl hbA hS (zvin hi hL hn 1 (by decide)) dL_law_822 ?_
  refine lv_aload_n hx hb dL_law_823 rfl (lv_at hl 3 rfl) ?_
  refine lv_iload_n hx hb dL_law_824 rfl (lv_at hl 0 rfl) ?_
  refine lv_iconst (v := 2) hx hb dL_law_825 (by decide) ?_
  refine lv_iadd hx hb dL_law_826 ?_
  refine va_sld hx hb hX hbl hbA hS (zvin hi hL hn 2 (by decide)) dL_law_827 ?_
  refine z_callV (n := 2) (rest := [.int r]) (st1 := [.int r, .int r]) (c0 := 12) (i0 := 0) (hZM.2.1 (12, 0) (by decide)) (by rfl) S hG hS hZM (fun _ _ h => h) (c_X12_alike l D aC zs A nl ad σ1 (xs (i + 1).toNatClampNeg) (xs (i + 2).toNatClampNeg) r σ2 h2) zw_1109 zw_1110 zw_1111 zw_5 zw_1112 (by decide +kernel) ⟨rfl, rfl⟩ ⟨(Nat.le_of_ble_eq_true rfl), (Nat.le_of_ble_eq_true rfl)⟩ hl.1 rfl (by rfl) (by rfl) (Nat.le_of_ble_eq_true rfl) dL_law_828 hroom ?_
  clear hG hS
  intro H locs _ hG hS
  refine lv_icmp_eq (tgt := 1307) hx hb dL_law_831 (by decide) (fun _ => ?_) (fun h => absurd rfl h)
  exact kk σ2 H locs hG hS hI2 hs2 hm2
set_option maxRecDepth 100000 in
set_option maxHeartbeats 4000000 in
theorem zl_most {p : Program} {l : Launch} {e : Env} {s : State} {m : MethodId} {below : List Frame} {meth : Method} {c : Code} {b L : Nat} {xs : Nat → Int32} {D : va_G} {aC : Nat → ClassId} {zs : Nat × Nat} {A : Nat → Prop} {nl : zNL} {ad : Nat → Nat → Nat → Nat} {σ : zM} {a11 a12 : Nat} {H : Heap} {locs : List Loc} {ls : Array Slot} {i : Int32} {n cells slots : Nat} {Q : State → Prop} {Inv : Nat → zM → Prop} (e11 : ad 11 0 0 = a11) (e12 : ad 12 0 0 = a12) (S : zS p m c code 4 s #[Value.ref b] RL) (hX : va_X b L xs s s.heap) (hbl : b < s.heap.size) (hbA : ¬ A b) (hL : L ≤ 4096) (hZX : zH zs zfX A nl s) (hZM : zH zs zfM A nl s) (hIv : Inv n σ) (hG : zG D aC A nl ad σ s H) (hS : va_S A s.heap H locs) (hi : i = Int32.ofNat n) (hn : n + 8 ≤ L) (hroom : cells ≤ 600000 ∧ slots ≤ 7302249) (hl : lv_has ls 4 [(3, .int i), (2, .ref a12), (1, .ref a11), (0, .ref b)]) (hob : ∀ (x1 : Int32), zOb Inv (fun σ => f_X11_most σ x1) (fun σ => f_X12_most σ x1)) (kk : ∀ (σ2 : zM) (H1 : Heap) (locs1 : List Loc), zG D aC A nl ad σ2 s H1 → va_S A s.heap H1 locs1 → Inv (n + 8) σ2 → zSc σ2 = zSc σ → zMd σ2 = zMd σ → W p l e room_1 s m #[Value.ref b] below meth c H1 locs1 cells slots Q (F0 m 1307 ls [])) : W p l e room_1 s m #[Value.ref b] below meth c H locs cells slots Q (F0 m 836 ls []) := by
  subst e11 e12
  obtain ⟨hx, hb, -, hown, hts⟩ := id S
  obtain ⟨r, σ1, σ2, h1, h2, hI2, hs2, hm2⟩ := hob (xs (i + 1).toNatClampNeg) n σ (by omega) hIv
  have h1 : f_X11_most σ (xs (i + 1).toNatClampNeg) = some (r, σ1) := h1
  have h2 : f_X12_most σ1 (xs (i + 1).toNatClampNeg) = some (r, σ2) := h2
  refine lv_aload_n hx hb dL_law_836 rfl (lv_at hl 2 rfl) ?_
  refine lv_aload_n hx hb dL_law_837 rfl (lv_at hl 3 rfl) ?_
  refine lv_iload_n hx hb dL_law_838 rfl (lv_at hl 0 rfl) ?_
  refine lv_iconst (v := 1) hx hb dL_law_839 (by decide) ?_
  refine lv_iadd hx hb dL_law_840 ?_
  refine va_sld hx hb hX hbl hbA hS (zvin hi hL hn 1 (by decide)) dL_law_841 ?_
  refine z_callV (n := 1) (rest := []) (st1 := [.int r]) (c0 := 11) (i0 := 0) (hZX.2.1 (11, 0) (by decide)) (by rfl) S hG hS hZX (fun _ _ h => h) (c_X11_most l D aC zs A nl ad σ (xs (i + 1).toNatClampNeg) r σ1 h1) zw_1118 zw_1119 zw_1120 zw_2 zw_1121 (by decide +kernel) ⟨rfl, rfl⟩ ⟨(Nat.le_of_ble_eq_true rfl), (Nat.le_of_ble_eq_true rfl)⟩ hl.1 rfl (by rfl) (by rfl) (Nat.le_of_ble_eq_true rfl) dL_law_842 hroom ?_
  clear hG hS
  intro H locs _ hG hS
  refine lv_aload_n hx hb dL_law_845 rfl (lv_at hl 1 rfl) ?_
  refine lv_aload_n hx hb dL_law_846 rfl (lv_at hl 3 rfl) ?_
  refine lv_iload_n hx hb dL_law_847 rfl (lv_at hl 0 rfl) ?_
  refine lv_iconst (v := 1) hx hb dL_law_848 (by decide) ?_
  refine lv_iadd hx hb dL_law_849 ?_
  refine va_sld hx hb hX hbl hbA hS (zvin hi hL hn 1 (by decide)) dL_law_850 ?_
  refine z_callV (n := 1) (rest := [.int r]) (st1 := [.int r, .int r]) (c0 := 12) (i0 := 0) (hZM.2.1 (12, 0) (by decide)) (by rfl) S hG hS hZM (fun _ _ h => h) (c_X12_most l D aC zs A nl ad σ1 (xs (i + 1).toNatClampNeg) r σ2 h2) zw_1122 zw_1123 zw_1124 zw_5 zw_1125 (by decide +kernel) ⟨rfl, rfl⟩ ⟨(Nat.le_of_ble_eq_true rfl), (Nat.le_of_ble_eq_true rfl)⟩ hl.1 rfl (by rfl) (by rfl) (Nat.le_of_ble_eq_true rfl) dL_law_851 hroom ?_
  clear hG hS
  intro H locs _ hG hS
  refine lv_icmp_eq (tgt := 1307) hx hb dL_law_854 (by decide) (fun _ => ?_) (fun h => absurd rfl h)
  exact kk σ2 H locs hG hS hI2 hs2 hm2
set_option maxRecDepth 100000 in
set_option maxHeartbeats 4000000 in
theorem zl_calls {p : Program} {l : Launch} {e : Env} {s : State} {m : MethodId} {below : List Frame} {meth : Method} {c : Code} {b L : Nat} {xs : Nat → Int32} {D : va_G} {aC : Nat → ClassId} {zs : Nat × Nat} {A : Nat → Prop} {nl : zNL} {ad : Nat → Nat → Nat → Nat} {σ : zM} {a11 a12 : Nat} {H : Heap} {locs : List Loc} {ls : Array Slot} {i : Int32} {n cells slots : Nat} {Q : State → Prop} {Inv : Nat → zM → Prop} (e11 : ad 11 0 0 = a11) (e12 : ad 12 0 0 = a12) (S : zS p m c code 4 s #[Value.ref b] RL) (hX : va_X b L xs s s.heap) (hbl : b < s.heap.size) (hbA : ¬ A b) (hL : L ≤ 4096) (hZX : zH zs zfX A nl s) (hZM : zH zs zfM A nl s) (hIv : Inv n σ) (hG : zG D aC A nl ad σ s H) (hS : va_S A s.heap H locs) (hi : i = Int32.ofNat n) (hn : n + 8 ≤ L) (hroom : cells ≤ 600000 ∧ slots ≤ 7302249) (hl : lv_has ls 4 [(3, .int i), (2, .ref a12), (1, .ref a11), (0, .ref b)]) (hob : ∀ (x1 : Int32) (x2 : Int32), zOb Inv (fun σ => f_X11_calls σ x1 x2) (fun σ => f_X12_calls σ x1 x2)) (kk : ∀ (σ2 : zM) (H1 : Heap) (locs1 : List Loc), zG D aC A nl ad σ2 s H1 → va_S A s.heap H1 locs1 → Inv (n + 8) σ2 → zSc σ2 = zSc σ → zMd σ2 = zMd σ → W p l e room_1 s m #[Value.ref b] below meth c H1 locs1 cells slots Q (F0 m 1307 ls [])) : W p l e room_1 s m #[Value.ref b] below meth c H locs cells slots Q (F0 m 859 ls []) := by
  subst e11 e12
  obtain ⟨hx, hb, -, hown, hts⟩ := id S
  obtain ⟨r, σ1, σ2, h1, h2, hI2, hs2, hm2⟩ := hob (xs (i + 1).toNatClampNeg) (xs (i + 2).toNatClampNeg) n σ (by omega) hIv
  have h1 : f_X11_calls σ (xs (i + 1).toNatClampNeg) (xs (i + 2).toNatClampNeg) = some (r, σ1) := h1
  have h2 : f_X12_calls σ1 (xs (i + 1).toNatClampNeg) (xs (i + 2).toNatClampNeg) = some (r, σ2) := h2
  refine lv_aload_n hx hb dL_law_859 rfl (lv_at hl 2 rfl) ?_
  refine lv_aload_n hx hb dL_law_860 rfl (lv_at hl 3 rfl) ?_
  refine lv_iload_n hx hb dL_law_861 rfl (lv_at hl 0 rfl) ?_
  refine lv_iconst (v := 1) hx hb dL_law_862 (by decide) ?_
  refine lv_iadd hx hb dL_law_863 ?_
  refine va_sld hx hb hX hbl hbA hS (zvin hi hL hn 1 (by decide)) dL_law_864 ?_
  refine lv_aload_n hx hb dL_law_865 rfl (lv_at hl 3 rfl) ?_
  refine lv_iload_n hx hb dL_law_866 rfl (lv_at hl 0 rfl) ?_
  refine lv_iconst (v := 2) hx hb dL_law_867 (by decide) ?_
  refine lv_iadd hx hb dL_law_868 ?_
  refine va_sld hx hb hX hbl hbA hS (zvin hi hL hn 2 (by decide)) dL_law_869 ?_
  refine z_callV (n := 2) (rest := []) (st1 := [.int r]) (c0 := 11) (i0 := 0) (hZX.2.1 (11, 0) (by decide)) (by rfl) S hG hS hZX (fun _ _ h => h) (c_X11_calls l D aC zs A nl ad σ (xs (i + 1).toNatClampNeg) (xs (i + 2).toNatClampNeg) r σ1 h1) zw_1126 zw_1127 zw_1128 zw_2 zw_1129 (by decide +kernel) ⟨rfl, rfl⟩ ⟨(Nat.le_of_ble_eq_true rfl), (Nat.le_of_ble_eq_true rfl)⟩ hl.1 rfl (by rfl) (by rfl) (Nat.le_of_ble_eq_true rfl) dL_law_870 hroom ?_
  clear hG hS
  intro H locs _ hG hS
  refine lv_aload_n hx hb dL_law_873 rfl (lv_at hl 1 rfl) ?_
  refine lv_aload_n hx hb dL_law_874 rfl (lv_at hl 3 rfl) ?_
  refine lv_iload_n hx hb dL_law_875 rfl (lv_at hl 0 rfl) ?_
  refine lv_iconst (v := 1) hx hb dL_law_876 (by decide) ?_
  refine lv_iadd hx hb dL_law_877 ?_
  refine va_sld hx hb hX hbl hbA hS (zvin hi hL hn 1 (by decide)) dL_law_878 ?_
  refine lv_aload_n hx hb dL_law_879 rfl (lv_at hl 3 rfl) ?_
  refine lv_iload_n hx hb dL_law_880 rfl (lv_at hl 0 rfl) ?_
  refine lv_iconst (v := 2) hx hb dL_law_881 (by decide) ?_
  refine lv_iadd hx hb dL_law_882 ?_
  refine va_sld hx hb hX hbl hbA hS (zvin hi hL hn 2 (by decide)) dL_law_883 ?_
  refine z_callV (n := 2) (rest := [.int r]) (st1 := [.int r, .int r]) (c0 := 12) (i0 := 0) (hZM.2.1 (12, 0) (by decide)) (by rfl) S hG hS hZM (fun _ _ h => h) (c_X12_calls l D aC zs A nl ad σ1 (xs (i + 1).toNatClampNeg) (xs (i + 2).toNatClampNeg) r σ2 h2) zw_1141 zw_1142 zw_1143 zw_5 zw_1144 (by decide +kernel) ⟨rfl, rfl⟩ ⟨(Nat.le_of_ble_eq_true rfl), (Nat.le_of_ble_eq_true rfl)⟩ hl.1 rfl (by rfl) (by rfl) (Nat.le_of_ble_eq_true rfl) dL_law_884 hroom ?_
  clear hG hS
  intro H locs _ hG hS
  refine lv_icmp_eq (tgt := 1307) hx hb dL_law_887 (by decide) (fun _ => ?_) (fun h => absurd rfl h)
  exact kk σ2 H locs hG hS hI2 hs2 hm2
set_option maxRecDepth 100000 in
set_option maxHeartbeats 4000000 in
theorem zl_ask {p : Program} {l : Launch} {e : Env} {s : State} {m : MethodId} {below : List Frame} {meth : Method} {c : Code} {b L : Nat} {xs : Nat → Int32} {D : va_G} {aC : Nat → ClassId} {zs : Nat × Nat} {A : Nat → Prop} {nl : zNL} {ad : Nat → Nat → Nat → Nat} {σ : zM} {a11 a12 : Nat} {H : Heap} {locs : List Loc} {ls : Array Slot} {i : Int32} {n cells slots : Nat} {Q : State → Prop} {Inv : Nat → zM → Prop} (e11 : ad 11 0 0 = a11) (e12 : ad 12 0 0 = a12) (S : zS p m c code 4 s #[Value.ref b] RL) (hX : va_X b L xs s s.heap) (hbl : b < s.heap.size) (hbA : ¬ A b) (hL : L ≤ 4096) (hZX : zH zs zfX A nl s) (hZM : zH zs zfM A nl s) (hIv : Inv n σ) (hG : zG D aC A nl ad σ s H) (hS : va_S A s.heap H locs) (hi : i = Int32.ofNat n) (hn : n + 8 ≤ L) (hroom : cells ≤ 600000 ∧ slots ≤ 7302249) (hl : lv_has ls 4 [(3, .int i), (2, .ref a12), (1, .ref a11), (0, .ref b)]) (hob : ∀ (x1 : Int32) (x2 : Int32), zOb Inv (fun σ => f_X11_ask σ x1 x2) (fun σ => f_X12_ask σ x1 x2)) (kk : ∀ (σ2 : zM) (H1 : Heap) (locs1 : List Loc), zG D aC A nl ad σ2 s H1 → va_S A s.heap H1 locs1 → Inv (n + 8) σ2 → zSc σ2 = zSc σ → zMd σ2 = zMd σ → W p l e room_1 s m #[Value.ref b] below meth c H1 locs1 cells slots Q (F0 m 1307 ls [])) : W p l e room_1 s m #[Value.ref b] below meth c H locs cells slots Q (F0 m 892 ls []) := by
  subst e11 e12
  obtain ⟨hx, hb, -, hown, hts⟩ := id S
  obtain ⟨r, σ1, σ2, h1, h2, hI2, hs2, hm2⟩ := hob (xs (i + 1).toNatClampNeg) (xs (i + 2).toNatClampNeg) n σ (by omega) hIv
  have h1 : f_X11_ask σ (xs (i + 1).toNatClampNeg) (xs (i + 2).toNatClampNeg) = some (r, σ1) := h1
  have h2 : f_X12_ask σ1 (xs (i + 1).toNatClampNeg) (xs (i + 2).toNatClampNeg) = some (r, σ2) := h2
  refine lv_aload_n hx hb dL_law_892 rfl (lv_at hl 2 rfl) ?_
  refine lv_aload_n hx hb dL_law_893 rfl (lv_at hl 3 rfl) ?_
  refine lv_iload_n hx hb dL_law_894 rfl (lv_at hl 0 rfl) ?_
  refine lv_iconst (v := 1) hx hb dL_law_895 (by decide) ?_
  refine lv_iadd hx hb dL_law_896 ?_
  refine va_sld hx hb hX hbl hbA hS (zvin hi hL hn 1 (by decide)) dL_law_897 ?_
  refine lv_aload_n hx hb dL_law_898 rfl (lv_at hl 3 rfl) ?_
  refine lv_iload_n hx hb dL_law_899 rfl (lv_at hl 0 rfl) ?_
  refine lv_iconst (v := 2) hx hb dL_law_900 (by decide) ?_
  refine lv_iadd hx hb dL_law_901 ?_
  refine va_sld hx hb hX hbl hbA hS (zvin hi hL hn 2 (by decide)) dL_law_902 ?_
  refine z_callV (n := 2) (rest := []) (st1 := [.int r]) (c0 := 11) (i0 := 0) (hZX.2.1 (11, 0) (by decide)) (by rfl) S hG hS hZX (fun _ _ h => h) (c_X11_ask l D aC zs A nl ad σ (xs (i + 1).toNatClampNeg) (xs (i + 2).toNatClampNeg) r σ1 h1) zw_1145 zw_1146 zw_1147 zw_2 zw_1148 (by decide +kernel) ⟨rfl, rfl⟩ ⟨(Nat.le_of_ble_eq_true rfl), (Nat.le_of_ble_eq_true rfl)⟩ hl.1 rfl (by rfl) (by rfl) (Nat.le_of_ble_eq_true rfl) dL_law_903 hroom ?_
  clear hG hS
  intro H locs _ hG hS
  refine lv_aload_n hx hb dL_law_906 rfl (lv_at hl 1 rfl) ?_
  refine lv_aload_n hx hb dL_law_907 rfl (lv_at hl 3 rfl) ?_
  refine lv_iload_n hx hb dL_law_908 rfl (lv_at hl 0 rfl) ?_
  refine lv_iconst (v := 1) hx hb dL_law_909 (by decide) ?_
  refine lv_iadd hx hb dL_law_910 ?_
  refine va_sld hx hb hX hbl hbA hS (zvin hi hL hn 1 (by decide)) dL_law_911 ?_
  refine lv_aload_n hx hb dL_law_912 rfl (lv_at hl 3 rfl) ?_
  refine lv_iload_n hx hb dL_law_913 rfl (lv_at hl 0 rfl) ?_
  refine lv_iconst (v := 2) hx hb dL_law_914 (by decide) ?_
  refine lv_iadd hx hb dL_law_915 ?_
  refine va_sld hx hb hX hbl hbA hS (zvin hi hL hn 2 (by decide)) dL_law_916 ?_
  refine z_callV (n := 2) (rest := [.int r]) (st1 := [.int r, .int r]) (c0 := 12) (i0 := 0) (hZM.2.1 (12, 0) (by decide)) (by rfl) S hG hS hZM (fun _ _ h => h) (c_X12_ask l D aC zs A nl ad σ1 (xs (i + 1).toNatClampNeg) (xs (i + 2).toNatClampNeg) r σ2 h2) zw_1168 zw_1169 zw_1170 zw_5 zw_1171 (by decide +kernel) ⟨rfl, rfl⟩ ⟨(Nat.le_of_ble_eq_true rfl), (Nat.le_of_ble_eq_true rfl)⟩ hl.1 rfl (by rfl) (by rfl) (Nat.le_of_ble_eq_true rfl) dL_law_917 hroom ?_
  clear hG hS
  intro H locs _ hG hS
  refine lv_icmp_eq (tgt := 1307) hx hb dL_law_920 (by decide) (fun _ => ?_) (fun h => absurd rfl h)
  exact kk σ2 H locs hG hS hI2 hs2 hm2
set_option maxRecDepth 100000 in
set_option maxHeartbeats 4000000 in
theorem zl_answered {p : Program} {l : Launch} {e : Env} {s : State} {m : MethodId} {below : List Frame} {meth : Method} {c : Code} {b L : Nat} {xs : Nat → Int32} {D : va_G} {aC : Nat → ClassId} {zs : Nat × Nat} {A : Nat → Prop} {nl : zNL} {ad : Nat → Nat → Nat → Nat} {σ : zM} {a11 a12 : Nat} {H : Heap} {locs : List Loc} {ls : Array Slot} {i : Int32} {n cells slots : Nat} {Q : State → Prop} {Inv : Nat → zM → Prop} (e11 : ad 11 0 0 = a11) (e12 : ad 12 0 0 = a12) (S : zS p m c code 4 s #[Value.ref b] RL) (hX : va_X b L xs s s.heap) (hbl : b < s.heap.size) (hbA : ¬ A b) (hL : L ≤ 4096) (hZX : zH zs zfX A nl s) (hZM : zH zs zfM A nl s) (hIv : Inv n σ) (hG : zG D aC A nl ad σ s H) (hS : va_S A s.heap H locs) (hi : i = Int32.ofNat n) (hn : n + 8 ≤ L) (hroom : cells ≤ 600000 ∧ slots ≤ 7302249) (hl : lv_has ls 4 [(3, .int i), (2, .ref a12), (1, .ref a11), (0, .ref b)]) (hob : ∀ (x1 : Int32) (x2 : Int32), zOb Inv (fun σ => (f_X11_answered σ x1 x2).map (fun r => (r, σ))) (fun σ => (f_X12_answered σ x1 x2).map (fun r => (r, σ)))) (kk : ∀ (σ2 : zM) (H1 : Heap) (locs1 : List Loc), zG D aC A nl ad σ2 s H1 → va_S A s.heap H1 locs1 → Inv (n + 8) σ2 → zSc σ2 = zSc σ → zMd σ2 = zMd σ → W p l e room_1 s m #[Value.ref b] below meth c H1 locs1 cells slots Q (F0 m 1307 ls [])) : W p l e room_1 s m #[Value.ref b] below meth c H locs cells slots Q (F0 m 925 ls []) := by
  subst e11 e12
  obtain ⟨hx, hb, -, hown, hts⟩ := id S
  obtain ⟨r, σ1, σ2, h1, h2, hI2, hs2, hm2⟩ := hob (xs (i + 1).toNatClampNeg) (xs (i + 2).toNatClampNeg) n σ (by omega) hIv
  have h1 : (f_X11_answered σ (xs (i + 1).toNatClampNeg) (xs (i + 2).toNatClampNeg)).map (fun r => (r, σ)) = some (r, σ1) := h1
  have h2 : (f_X12_answered σ1 (xs (i + 1).toNatClampNeg) (xs (i + 2).toNatClampNeg)).map (fun r => (r, σ1)) = some (r, σ2) := h2
  refine lv_aload_n hx hb dL_law_925 rfl (lv_at hl 2 rfl) ?_
  refine lv_aload_n hx hb dL_law_926 rfl (lv_at hl 3 rfl) ?_
  refine lv_iload_n hx hb dL_law_927 rfl (lv_at hl 0 rfl) ?_
  refine lv_iconst (v := 1) hx hb dL_law_928 (by decide) ?_
  refine lv_iadd hx hb dL_law_929 ?_
  refine va_sld hx hb hX hbl hbA hS (zvin hi hL hn 1 (by decide)) dL_law_930 ?_
  refine lv_aload_n hx hb dL_law_931 rfl (lv_at hl 3 rfl) ?_
  refine lv_iload_n hx hb dL_law_932 rfl (lv_at hl 0 rfl) ?_
  refine lv_iconst (v := 2) hx hb dL_law_933 (by decide) ?_
  refine lv_iadd hx hb dL_law_934 ?_
  refine va_sld hx hb hX hbl hbA hS (zvin hi hL hn 2 (by decide)) dL_law_935 ?_
  obtain ⟨h1f, h1s⟩ := zrm h1
  rw [h1s] at h2
  refine z_callV (n := 2) (rest := []) (st1 := [.int r]) (c0 := 11) (i0 := 0) (hZX.2.1 (11, 0) (by decide)) (by rfl) S hG hS hZX (fun _ _ h => h) (c_X11_answered l D aC zs A nl ad σ (xs (i + 1).toNatClampNeg) (xs (i + 2).toNatClampNeg) r h1f) zw_1178 zw_1179 zw_1180 zw_2 zw_1181 (by decide +kernel) ⟨rfl, rfl⟩ ⟨(Nat.le_of_ble_eq_true rfl), (Nat.le_of_ble_eq_true rfl)⟩ hl.1 rfl (by rfl) (by rfl) (Nat.le_of_ble_eq_true rfl) dL_law_936 hroom ?_
  clear hG hS
  intro H locs _ hG hS
  refine lv_aload_n hx hb dL_law_939 rfl (lv_at hl 1 rfl) ?_
  refine lv_aload_n hx hb dL_law_940 rfl (lv_at hl 3 rfl) ?_
  refine lv_iload_n hx hb dL_law_941 rfl (lv_at hl 0 rfl) ?_
  refine lv_iconst (v := 1) hx hb dL_law_942 (by decide) ?_
  refine lv_iadd hx hb dL_law_943 ?_
  refine va_sld hx hb hX hbl hbA hS (zvin hi hL hn 1 (by decide)) dL_law_944 ?_
  refine lv_aload_n hx hb dL_law_945 rfl (lv_at hl 3 rfl) ?_
  refine lv_iload_n hx hb dL_law_946 rfl (lv_at hl 0 rfl) ?_
  refine lv_iconst (v := 2) hx hb dL_law_947 (by decide) ?_
  refine lv_iadd hx hb dL_law_948 ?_
  refine va_sld hx hb hX hbl hbA hS (zvin hi hL hn 2 (by decide)) dL_law_949 ?_
  obtain ⟨h2f, h2s⟩ := zrm h2
  refine z_callV (n := 2) (rest := [.int r]) (st1 := [.int r, .int r]) (c0 := 12) (i0 := 0) (hZM.2.1 (12, 0) (by decide)) (by rfl) S hG hS hZM (fun _ _ h => h) (c_X12_answered l D aC zs A nl ad σ (xs (i + 1).toNatClampNeg) (xs (i + 2).toNatClampNeg) r h2f) zw_1186 zw_1187 zw_1188 zw_5 zw_1189 (by decide +kernel) ⟨rfl, rfl⟩ ⟨(Nat.le_of_ble_eq_true rfl), (Nat.le_of_ble_eq_true rfl)⟩ hl.1 rfl (by rfl) (by rfl) (Nat.le_of_ble_eq_true rfl) dL_law_950 hroom ?_
  clear hG hS
  intro H locs _ hG hS
  refine lv_icmp_eq (tgt := 1307) hx hb dL_law_953 (by decide) (fun _ => ?_) (fun h => absurd rfl h)
  rw [← h2s] at hG
  exact kk σ2 H locs hG hS hI2 hs2 hm2
set_option maxRecDepth 100000 in
set_option maxHeartbeats 4000000 in
theorem zl_juror {p : Program} {l : Launch} {e : Env} {s : State} {m : MethodId} {below : List Frame} {meth : Method} {c : Code} {b L : Nat} {xs : Nat → Int32} {D : va_G} {aC : Nat → ClassId} {zs : Nat × Nat} {A : Nat → Prop} {nl : zNL} {ad : Nat → Nat → Nat → Nat} {σ : zM} {a11 a12 : Nat} {H : Heap} {locs : List Loc} {ls : Array Slot} {i : Int32} {n cells slots : Nat} {Q : State → Prop} {Inv : Nat → zM → Prop} (e11 : ad 11 0 0 = a11) (e12 : ad 12 0 0 = a12) (S : zS p m c code 4 s #[Value.ref b] RL) (hX : va_X b L xs s s.heap) (hbl : b < s.heap.size) (hbA : ¬ A b) (hL : L ≤ 4096) (hZX : zH zs zfX A nl s) (hZM : zH zs zfM A nl s) (hIv : Inv n σ) (hG : zG D aC A nl ad σ s H) (hS : va_S A s.heap H locs) (hi : i = Int32.ofNat n) (hn : n + 8 ≤ L) (hroom : cells ≤ 600000 ∧ slots ≤ 7302249) (hl : lv_has ls 4 [(3, .int i), (2, .ref a12), (1, .ref a11), (0, .ref b)]) (hob : zOb Inv (fun σ => some (f_X11_juror σ)) (fun σ => some (f_X12_juror σ))) (kk : ∀ (σ2 : zM) (H1 : Heap) (locs1 : List Loc), zG D aC A nl ad σ2 s H1 → va_S A s.heap H1 locs1 → Inv (n + 8) σ2 → zSc σ2 = zSc σ → zMd σ2 = zMd σ → W p l e room_1 s m #[Value.ref b] below meth c H1 locs1 cells slots Q (F0 m 1307 ls [])) : W p l e room_1 s m #[Value.ref b] below meth c H locs cells slots Q (F0 m 958 ls []) := by
  subst e11 e12
  obtain ⟨hx, hb, -, hown, hts⟩ := id S
  obtain ⟨r, σ1, σ2, h1, h2, hI2, hs2, hm2⟩ := hob n σ (by omega) hIv
  have h1 : some (f_X11_juror σ) = some (r, σ1) := h1
  have h2 : some (f_X12_juror σ1) = some (r, σ2) := h2
  refine lv_aload_n hx hb dL_law_958 rfl (lv_at hl 2 rfl) ?_
  refine z_callV (n := 0) (rest := []) (st1 := [.int r]) (c0 := 11) (i0 := 0) (hZX.2.1 (11, 0) (by decide)) (by rfl) S hG hS hZX (fun _ _ h => h) (c_X11_juror l D aC zs A nl ad σ  r σ1 (Option.some.inj h1)) zw_1190 zw_1191 zw_1192 zw_2 zw_1193 (by decide +kernel) ⟨rfl, rfl⟩ ⟨(Nat.le_of_ble_eq_true rfl), (Nat.le_of_ble_eq_true rfl)⟩ hl.1 rfl (by rfl) (by rfl) (Nat.le_of_ble_eq_true rfl) dL_law_959 hroom ?_
  clear hG hS
  intro H locs _ hG hS
  refine lv_aload_n hx hb dL_law_962 rfl (lv_at hl 1 rfl) ?_
  refine z_callV (n := 0) (rest := [.int r]) (st1 := [.int r, .int r]) (c0 := 12) (i0 := 0) (hZM.2.1 (12, 0) (by decide)) (by rfl) S hG hS hZM (fun _ _ h => h) (c_X12_juror l D aC zs A nl ad σ1  r σ2 (Option.some.inj h2)) zw_1198 zw_1199 zw_1200 zw_5 zw_1201 (by decide +kernel) ⟨rfl, rfl⟩ ⟨(Nat.le_of_ble_eq_true rfl), (Nat.le_of_ble_eq_true rfl)⟩ hl.1 rfl (by rfl) (by rfl) (Nat.le_of_ble_eq_true rfl) dL_law_963 hroom ?_
  clear hG hS
  intro H locs _ hG hS
  refine lv_icmp_eq (tgt := 1307) hx hb dL_law_966 (by decide) (fun _ => ?_) (fun h => absurd rfl h)
  exact kk σ2 H locs hG hS hI2 hs2 hm2
set_option maxRecDepth 100000 in
set_option maxHeartbeats 4000000 in
theorem zl_knows {p : Program} {l : Launch} {e : Env} {s : State} {m : MethodId} {below : List Frame} {meth : Method} {c : Code} {b L : Nat} {xs : Nat → Int32} {D : va_G} {aC : Nat → ClassId} {zs : Nat × Nat} {A : Nat → Prop} {nl : zNL} {ad : Nat → Nat → Nat → Nat} {σ : zM} {a11 a12 : Nat} {H : Heap} {locs : List Loc} {ls : Array Slot} {i : Int32} {n cells slots : Nat} {Q : State → Prop} {Inv : Nat → zM → Prop} (e11 : ad 11 0 0 = a11) (e12 : ad 12 0 0 = a12) (S : zS p m c code 4 s #[Value.ref b] RL) (hX : va_X b L xs s s.heap) (hbl : b < s.heap.size) (hbA : ¬ A b) (hL : L ≤ 4096) (hZX : zH zs zfX A nl s) (hZM : zH zs zfM A nl s) (hIv : Inv n σ) (hG : zG D aC A nl ad σ s H) (hS : va_S A s.heap H locs) (hi : i = Int32.ofNat n) (hn : n + 8 ≤ L) (hroom : cells ≤ 600000 ∧ slots ≤ 7302249) (hl : lv_has ls 4 [(3, .int i), (2, .ref a12), (1, .ref a11), (0, .ref b)]) (hob : ∀ (x1 : Int32) (x2 : Int32) (x3 : Int32), zOb Inv (fun σ => f_X11_knows σ x1 x2 x3) (fun σ => f_X12_knows σ x1 x2 x3)) (kk : ∀ (σ2 : zM) (H1 : Heap) (locs1 : List Loc), zG D aC A nl ad σ2 s H1 → va_S A s.heap H1 locs1 → Inv (n + 8) σ2 → zSc σ2 = zSc σ → zMd σ2 = zMd σ → W p l e room_1 s m #[Value.ref b] below meth c H1 locs1 cells slots Q (F0 m 1307 ls [])) : W p l e room_1 s m #[Value.ref b] below meth c H locs cells slots Q (F0 m 971 ls []) := by
  subst e11 e12
  obtain ⟨hx, hb, -, hown, hts⟩ := id S
  obtain ⟨r, σ1, σ2, h1, h2, hI2, hs2, hm2⟩ := hob (xs (i + 1).toNatClampNeg) (xs (i + 2).toNatClampNeg) (xs (i + 3).toNatClampNeg) n σ (by omega) hIv
  have h1 : f_X11_knows σ (xs (i + 1).toNatClampNeg) (xs (i + 2).toNatClampNeg) (xs (i + 3).toNatClampNeg) = some (r, σ1) := h1
  have h2 : f_X12_knows σ1 (xs (i + 1).toNatClampNeg) (xs (i + 2).toNatClampNeg) (xs (i + 3).toNatClampNeg) = some (r, σ2) := h2
  refine lv_aload_n hx hb dL_law_971 rfl (lv_at hl 2 rfl) ?_
  refine lv_aload_n hx hb dL_law_972 rfl (lv_at hl 3 rfl) ?_
  refine lv_iload_n hx hb dL_law_973 rfl (lv_at hl 0 rfl) ?_
  refine lv_iconst (v := 1) hx hb dL_law_974 (by decide) ?_
  refine lv_iadd hx hb dL_law_975 ?_
  refine va_sld hx hb hX hbl hbA hS (zvin hi hL hn 1 (by decide)) dL_law_976 ?_
  refine lv_aload_n hx hb dL_law_977 rfl (lv_at hl 3 rfl) ?_
  refine lv_iload_n hx hb dL_law_978 rfl (lv_at hl 0 rfl) ?_
  refine lv_iconst (v := 2) hx hb dL_law_979 (by decide) ?_
  refine lv_iadd hx hb dL_law_980 ?_
  refine va_sld hx hb hX hbl hbA hS (zvin hi hL hn 2 (by decide)) dL_law_981 ?_
  refine lv_aload_n hx hb dL_law_982 rfl (lv_at hl 3 rfl) ?_
  refine lv_iload_n hx hb dL_law_983 rfl (lv_at hl 0 rfl) ?_
  refine lv_iconst (v := 3) hx hb dL_law_984 (by decide) ?_
  refine lv_iadd hx hb dL_law_985 ?_
  refine va_sld hx hb hX hbl hbA hS (zvin hi hL hn 3 (by decide)) dL_law_986 ?_
  refine z_callV (n := 3) (rest := []) (st1 := [.int r]) (c0 := 11) (i0 := 0) (hZX.2.1 (11, 0) (by decide)) (by rfl) S hG hS hZX (fun _ _ h => h) (c_X11_knows l D aC zs A nl ad σ (xs (i + 1).toNatClampNeg) (xs (i + 2).toNatClampNeg) (xs (i + 3).toNatClampNeg) r σ1 h1) zw_1203 zw_1204 zw_1205 zw_2 zw_1206 (by decide +kernel) ⟨rfl, rfl⟩ ⟨(Nat.le_of_ble_eq_true rfl), (Nat.le_of_ble_eq_true rfl)⟩ hl.1 rfl (by rfl) (by rfl) (Nat.le_of_ble_eq_true rfl) dL_law_987 hroom ?_
  clear hG hS
  intro H locs _ hG hS
  refine lv_aload_n hx hb dL_law_990 rfl (lv_at hl 1 rfl) ?_
  refine lv_aload_n hx hb dL_law_991 rfl (lv_at hl 3 rfl) ?_
  refine lv_iload_n hx hb dL_law_992 rfl (lv_at hl 0 rfl) ?_
  refine lv_iconst (v := 1) hx hb dL_law_993 (by decide) ?_
  refine lv_iadd hx hb dL_law_994 ?_
  refine va_sld hx hb hX hbl hbA hS (zvin hi hL hn 1 (by decide)) dL_law_995 ?_
  refine lv_aload_n hx hb dL_law_996 rfl (lv_at hl 3 rfl) ?_
  refine lv_iload_n hx hb dL_law_997 rfl (lv_at hl 0 rfl) ?_
  refine lv_iconst (v := 2) hx hb dL_law_998 (by decide) ?_
  refine lv_iadd hx hb dL_law_999 ?_
  refine va_sld hx hb hX hbl hbA hS (zvin hi hL hn 2 (by decide)) dL_law_1000 ?_
  refine lv_aload_n hx hb dL_law_1001 rfl (lv_at hl 3 rfl) ?_
  refine lv_iload_n hx hb dL_law_1002 rfl (lv_at hl 0 rfl) ?_
  refine lv_iconst (v := 3) hx hb dL_law_1003 (by decide) ?_
  refine lv_iadd hx hb dL_law_1004 ?_
  refine va_sld hx hb hX hbl hbA hS (zvin hi hL hn 3 (by decide)) dL_law_1005 ?_
  refine z_callV (n := 3) (rest := [.int r]) (st1 := [.int r, .int r]) (c0 := 12) (i0 := 0) (hZM.2.1 (12, 0) (by decide)) (by rfl) S hG hS hZM (fun _ _ h => h) (c_X12_knows l D aC zs A nl ad σ1 (xs (i + 1).toNatClampNeg) (xs (i + 2).toNatClampNeg) (xs (i + 3).toNatClampNeg) r σ2 h2) zw_1216 zw_1217 zw_1218 zw_5 zw_1219 (by decide +kernel) ⟨rfl, rfl⟩ ⟨(Nat.le_of_ble_eq_true rfl), (Nat.le_of_ble_eq_true rfl)⟩ hl.1 rfl (by rfl) (by rfl) (Nat.le_of_ble_eq_true rfl) dL_law_1006 hroom ?_
  clear hG hS
  intro H locs _ hG hS
  refine lv_icmp_eq (tgt := 1307) hx hb dL_law_1009 (by decide) (fun _ => ?_) (fun h => absurd rfl h)
  exact kk σ2 H locs hG hS hI2 hs2 hm2
set_option maxRecDepth 100000 in
set_option maxHeartbeats 4000000 in
theorem zl_marks {p : Program} {l : Launch} {e : Env} {s : State} {m : MethodId} {below : List Frame} {meth : Method} {c : Code} {b L : Nat} {xs : Nat → Int32} {D : va_G} {aC : Nat → ClassId} {zs : Nat × Nat} {A : Nat → Prop} {nl : zNL} {ad : Nat → Nat → Nat → Nat} {σ : zM} {a11 a12 : Nat} {H : Heap} {locs : List Loc} {ls : Array Slot} {i : Int32} {n cells slots : Nat} {Q : State → Prop} {Inv : Nat → zM → Prop} (e11 : ad 11 0 0 = a11) (e12 : ad 12 0 0 = a12) (S : zS p m c code 4 s #[Value.ref b] RL) (hX : va_X b L xs s s.heap) (hbl : b < s.heap.size) (hbA : ¬ A b) (hL : L ≤ 4096) (hZX : zH zs zfX A nl s) (hZM : zH zs zfM A nl s) (hIv : Inv n σ) (hG : zG D aC A nl ad σ s H) (hS : va_S A s.heap H locs) (hi : i = Int32.ofNat n) (hn : n + 8 ≤ L) (hroom : cells ≤ 600000 ∧ slots ≤ 7302249) (hl : lv_has ls 4 [(3, .int i), (2, .ref a12), (1, .ref a11), (0, .ref b)]) (hob : ∀ (x1 : Int32) (x2 : Int64), zOb Inv (fun σ => f_X11_marks σ x1 x2) (fun σ => f_X12_marks σ x1 x2)) (kk : ∀ (σ2 : zM) (H1 : Heap) (locs1 : List Loc), zG D aC A nl ad σ2 s H1 → va_S A s.heap H1 locs1 → Inv (n + 8) σ2 → zSc σ2 = zSc σ → zMd σ2 = zMd σ → W p l e room_1 s m #[Value.ref b] below meth c H1 locs1 cells slots Q (F0 m 1307 ls [])) : W p l e room_1 s m #[Value.ref b] below meth c H locs cells slots Q (F0 m 1014 ls []) := by
  subst e11 e12
  obtain ⟨hx, hb, -, hown, hts⟩ := id S
  obtain ⟨r, σ1, σ2, h1, h2, hI2, hs2, hm2⟩ := hob (xs (i + 1).toNatClampNeg) ((zlshl ((xs (i + 2).toNatClampNeg).toInt64) 32) ||| ((xs (i + 3).toNatClampNeg).toInt64 &&& 4294967295)) n σ (by omega) hIv
  have h1 : f_X11_marks σ (xs (i + 1).toNatClampNeg) ((zlshl ((xs (i + 2).toNatClampNeg).toInt64) 32) ||| ((xs (i + 3).toNatClampNeg).toInt64 &&& 4294967295)) = some (r, σ1) := h1
  have h2 : f_X12_marks σ1 (xs (i + 1).toNatClampNeg) ((zlshl ((xs (i + 2).toNatClampNeg).toInt64) 32) ||| ((xs (i + 3).toNatClampNeg).toInt64 &&& 4294967295)) = some (r, σ2) := h2
  refine lv_aload_n hx hb dL_law_1014 rfl (lv_at hl 2 rfl) ?_
  refine lv_aload_n hx hb dL_law_1015 rfl (lv_at hl 3 rfl) ?_
  refine lv_iload_n hx hb dL_law_1016 rfl (lv_at hl 0 rfl) ?_
  refine lv_iconst (v := 1) hx hb dL_law_1017 (by decide) ?_
  refine lv_iadd hx hb dL_law_1018 ?_
  refine va_sld hx hb hX hbl hbA hS (zvin hi hL hn 1 (by decide)) dL_law_1019 ?_
  refine lv_aload_n hx hb dL_law_1020 rfl (lv_at hl 3 rfl) ?_
  refine lv_iload_n hx hb dL_law_1021 rfl (lv_at hl 0 rfl) ?_
  refine lv_iconst (v := 2) hx hb dL_law_1022 (by decide) ?_
  refine lv_iadd hx hb dL_law_1023 ?_
  refine va_sld hx hb hX hbl hbA hS (zvin hi hL hn 2 (by decide)) dL_law_1024 ?_
  refine lv_i2l (v := (xs (i + 2).toNatClampNeg).toInt64) hx hb dL_law_1025 rfl ?_
  refine lv_bipush (v := 32) hx hb dL_law_1026 (by decide) ?_
  refine lv_lshl (v := (zlshl ((xs (i + 2).toNatClampNeg).toInt64) 32)) hx hb dL_law_1028 rfl ?_
  refine lv_aload_n hx hb dL_law_1029 rfl (lv_at hl 3 rfl) ?_
  refine lv_iload_n hx hb dL_law_1030 rfl (lv_at hl 0 rfl) ?_
  refine lv_iconst (v := 3) hx hb dL_law_1031 (by decide) ?_
  refine lv_iadd hx hb dL_law_1032 ?_
  refine va_sld hx hb hX hbl hbA hS (zvin hi hL hn 3 (by decide)) dL_law_1033 ?_
  refine lv_i2l (v := (xs (i + 3).toNatClampNeg).toInt64) hx hb dL_law_1034 rfl ?_
  refine lv_ldc2 (v := 4294967295) hx hb hown (hts _ zw_6) dL_law_1035 ?_
  refine lv_land hx hb dL_law_1038 ?_
  refine lv_lor hx hb dL_law_1039 ?_
  refine z_callV (n := 2) (rest := []) (st1 := [.int r]) (c0 := 11) (i0 := 0) (hZX.2.1 (11, 0) (by decide)) (by rfl) S hG hS hZX (fun _ _ h => h) (c_X11_marks l D aC zs A nl ad σ (xs (i + 1).toNatClampNeg) ((zlshl ((xs (i + 2).toNatClampNeg).toInt64) 32) ||| ((xs (i + 3).toNatClampNeg).toInt64 &&& 4294967295)) r σ1 h1) zw_1224 zw_1225 zw_1226 zw_2 zw_1227 (by decide +kernel) ⟨rfl, rfl⟩ ⟨(Nat.le_of_ble_eq_true rfl), (Nat.le_of_ble_eq_true rfl)⟩ hl.1 rfl (by rfl) (by rfl) (Nat.le_of_ble_eq_true rfl) dL_law_1040 hroom ?_
  clear hG hS
  intro H locs _ hG hS
  refine lv_aload_n hx hb dL_law_1043 rfl (lv_at hl 1 rfl) ?_
  refine lv_aload_n hx hb dL_law_1044 rfl (lv_at hl 3 rfl) ?_
  refine lv_iload_n hx hb dL_law_1045 rfl (lv_at hl 0 rfl) ?_
  refine lv_iconst (v := 1) hx hb dL_law_1046 (by decide) ?_
  refine lv_iadd hx hb dL_law_1047 ?_
  refine va_sld hx hb hX hbl hbA hS (zvin hi hL hn 1 (by decide)) dL_law_1048 ?_
  refine lv_aload_n hx hb dL_law_1049 rfl (lv_at hl 3 rfl) ?_
  refine lv_iload_n hx hb dL_law_1050 rfl (lv_at hl 0 rfl) ?_
  refine lv_iconst (v := 2) hx hb dL_law_1051 (by decide) ?_
  refine lv_iadd hx hb dL_law_1052 ?_
  refine va_sld hx hb hX hbl hbA hS (zvin hi hL hn 2 (by decide)) dL_law_1053 ?_
  refine lv_i2l (v := (xs (i + 2).toNatClampNeg).toInt64) hx hb dL_law_1054 rfl ?_
  refine lv_bipush (v := 32) hx hb dL_law_1055 (by decide) ?_
  refine lv_lshl (v := (zlshl ((xs (i + 2).toNatClampNeg).toInt64) 32)) hx hb dL_law_1057 rfl ?_
  refine lv_aload_n hx hb dL_law_1058 rfl (lv_at hl 3 rfl) ?_
  refine lv_iload_n hx hb dL_law_1059 rfl (lv_at hl 0 rfl) ?_
  refine lv_iconst (v := 3) hx hb dL_law_1060 (by decide) ?_
  refine lv_iadd hx hb dL_law_1061 ?_
  refine va_sld hx hb hX hbl hbA hS (zvin hi hL hn 3 (by decide)) dL_law_1062 ?_
  refine lv_i2l (v := (xs (i + 3).toNatClampNeg).toInt64) hx hb dL_law_1063 rfl ?_
  refine lv_ldc2 (v := 4294967295) hx hb hown (hts _ zw_6) dL_law_1064 ?_
  refine lv_land hx hb dL_law_1067 ?_
  refine lv_lor hx hb dL_law_1068 ?_
  refine z_callV (n := 2) (rest := [.int r]) (st1 := [.int r, .int r]) (c0 := 12) (i0 := 0) (hZM.2.1 (12, 0) (by decide)) (by rfl) S hG hS hZM (fun _ _ h => h) (c_X12_marks l D aC zs A nl ad σ1 (xs (i + 1).toNatClampNeg) ((zlshl ((xs (i + 2).toNatClampNeg).toInt64) 32) ||| ((xs (i + 3).toNatClampNeg).toInt64 &&& 4294967295)) r σ2 h2) zw_1268 zw_1269 zw_1270 zw_5 zw_1271 (by decide +kernel) ⟨rfl, rfl⟩ ⟨(Nat.le_of_ble_eq_true rfl), (Nat.le_of_ble_eq_true rfl)⟩ hl.1 rfl (by rfl) (by rfl) (Nat.le_of_ble_eq_true rfl) dL_law_1069 hroom ?_
  clear hG hS
  intro H locs _ hG hS
  refine lv_icmp_eq (tgt := 1307) hx hb dL_law_1072 (by decide) (fun _ => ?_) (fun h => absurd rfl h)
  exact kk σ2 H locs hG hS hI2 hs2 hm2
set_option maxRecDepth 100000 in
set_option maxHeartbeats 4000000 in
theorem zl_open {p : Program} {l : Launch} {e : Env} {s : State} {m : MethodId} {below : List Frame} {meth : Method} {c : Code} {b L : Nat} {xs : Nat → Int32} {D : va_G} {aC : Nat → ClassId} {zs : Nat × Nat} {A : Nat → Prop} {nl : zNL} {ad : Nat → Nat → Nat → Nat} {σ : zM} {a11 a12 : Nat} {H : Heap} {locs : List Loc} {ls : Array Slot} {i : Int32} {n cells slots : Nat} {Q : State → Prop} {Inv : Nat → zM → Prop} (e11 : ad 11 0 0 = a11) (e12 : ad 12 0 0 = a12) (S : zS p m c code 4 s #[Value.ref b] RL) (hX : va_X b L xs s s.heap) (hbl : b < s.heap.size) (hbA : ¬ A b) (hL : L ≤ 4096) (hZX : zH zs zfX A nl s) (hZM : zH zs zfM A nl s) (hIv : Inv n σ) (hG : zG D aC A nl ad σ s H) (hS : va_S A s.heap H locs) (hi : i = Int32.ofNat n) (hn : n + 8 ≤ L) (hroom : cells ≤ 600000 ∧ slots ≤ 7302249) (hl : lv_has ls 4 [(3, .int i), (2, .ref a12), (1, .ref a11), (0, .ref b)]) (hob : zOb Inv (fun σ => f_X11_open σ) (fun σ => f_X12_open σ)) (kk : ∀ (σ2 : zM) (H1 : Heap) (locs1 : List Loc), zG D aC A nl ad σ2 s H1 → va_S A s.heap H1 locs1 → Inv (n + 8) σ2 → zSc σ2 = zSc σ → zMd σ2 = zMd σ → W p l e room_1 s m #[Value.ref b] below meth c H1 locs1 cells slots Q (F0 m 1307 ls [])) : W p l e room_1 s m #[Value.ref b] below meth c H locs cells slots Q (F0 m 1077 ls []) := by
  subst e11 e12
  obtain ⟨hx, hb, -, hown, hts⟩ := id S
  obtain ⟨r, σ1, σ2, h1, h2, hI2, hs2, hm2⟩ := hob n σ (by omega) hIv
  have h1 : f_X11_open σ = some (r, σ1) := h1
  have h2 : f_X12_open σ1 = some (r, σ2) := h2
  refine lv_aload_n hx hb dL_law_1077 rfl (lv_at hl 2 rfl) ?_
  refine z_callV (n := 0) (rest := []) (st1 := [.int r]) (c0 := 11) (i0 := 0) (hZX.2.1 (11, 0) (by decide)) (by rfl) S hG hS hZX (fun _ _ h => h) (c_X11_open l D aC zs A nl ad σ  r σ1 h1) zw_1278 zw_1279 zw_1280 zw_2 zw_1281 (by decide +kernel) ⟨rfl, rfl⟩ ⟨(Nat.le_of_ble_eq_true rfl), (Nat.le_of_ble_eq_true rfl)⟩ hl.1 rfl (by rfl) (by rfl) (Nat.le_of_ble_eq_true rfl) dL_law_1078 hroom ?_
  clear hG hS
  intro H locs _ hG hS
  refine lv_aload_n hx hb dL_law_1081 rfl (lv_at hl 1 rfl) ?_
  refine z_callV (n := 0) (rest := [.int r]) (st1 := [.int r, .int r]) (c0 := 12) (i0 := 0) (hZM.2.1 (12, 0) (by decide)) (by rfl) S hG hS hZM (fun _ _ h => h) (c_X12_open l D aC zs A nl ad σ1  r σ2 h2) zw_1291 zw_1292 zw_1293 zw_5 zw_1294 (by decide +kernel) ⟨rfl, rfl⟩ ⟨(Nat.le_of_ble_eq_true rfl), (Nat.le_of_ble_eq_true rfl)⟩ hl.1 rfl (by rfl) (by rfl) (Nat.le_of_ble_eq_true rfl) dL_law_1082 hroom ?_
  clear hG hS
  intro H locs _ hG hS
  refine lv_icmp_eq (tgt := 1307) hx hb dL_law_1085 (by decide) (fun _ => ?_) (fun h => absurd rfl h)
  exact kk σ2 H locs hG hS hI2 hs2 hm2
set_option maxRecDepth 100000 in
set_option maxHeartbeats 4000000 in
theorem zl_close {p : Program} {l : Launch} {e : Env} {s : State} {m : MethodId} {below : List Frame} {meth : Method} {c : Code} {b L : Nat} {xs : Nat → Int32} {D : va_G} {aC : Nat → ClassId} {zs : Nat × Nat} {A : Nat → Prop} {nl : zNL} {ad : Nat → Nat → Nat → Nat} {σ : zM} {a11 a12 : Nat} {H : Heap} {locs : List Loc} {ls : Array Slot} {i : Int32} {n cells slots : Nat} {Q : State → Prop} {Inv : Nat → zM → Prop} (e11 : ad 11 0 0 = a11) (e12 : ad 12 0 0 = a12) (S : zS p m c code 4 s #[Value.ref b] RL) (hX : va_X b L xs s s.heap) (hbl : b < s.heap.size) (hbA : ¬ A b) (hL : L ≤ 4096) (hZX : zH zs zfX A nl s) (hZM : zH zs zfM A nl s) (hIv : Inv n σ) (hG : zG D aC A nl ad σ s H) (hS : va_S A s.heap H locs) (hi : i = Int32.ofNat n) (hn : n + 8 ≤ L) (hroom : cells ≤ 600000 ∧ slots ≤ 7302249) (hl : lv_has ls 4 [(3, .int i), (2, .ref a12), (1, .ref a11), (0, .ref b)]) (hob : zOb Inv (fun σ => f_X11_close σ) (fun σ => f_X12_close σ)) (kk : ∀ (σ2 : zM) (H1 : Heap) (locs1 : List Loc), zG D aC A nl ad σ2 s H1 → va_S A s.heap H1 locs1 → Inv (n + 8) σ2 → zSc σ2 = zSc σ → zMd σ2 = zMd σ → W p l e room_1 s m #[Value.ref b] below meth c H1 locs1 cells slots Q (F0 m 1307 ls [])) : W p l e room_1 s m #[Value.ref b] below meth c H locs cells slots Q (F0 m 1090 ls []) := by
  subst e11 e12
  obtain ⟨hx, hb, -, hown, hts⟩ := id S
  obtain ⟨r, σ1, σ2, h1, h2, hI2, hs2, hm2⟩ := hob n σ (by omega) hIv
  have h1 : f_X11_close σ = some (r, σ1) := h1
  have h2 : f_X12_close σ1 = some (r, σ2) := h2
  refine lv_aload_n hx hb dL_law_1090 rfl (lv_at hl 2 rfl) ?_
  refine z_callV (n := 0) (rest := []) (st1 := [.int r]) (c0 := 11) (i0 := 0) (hZX.2.1 (11, 0) (by decide)) (by rfl) S hG hS hZX (fun _ _ h => h) (c_X11_close l D aC zs A nl ad σ  r σ1 h1) zw_1299 zw_1300 zw_1301 zw_2 zw_1302 (by decide +kernel) ⟨rfl, rfl⟩ ⟨(Nat.le_of_ble_eq_true rfl), (Nat.le_of_ble_eq_true rfl)⟩ hl.1 rfl (by rfl) (by rfl) (Nat.le_of_ble_eq_true rfl) dL_law_1091 hroom ?_
  clear hG hS
  intro H locs _ hG hS
  refine lv_aload_n hx hb dL_law_1094 rfl (lv_at hl 1 rfl) ?_
  refine z_callV (n := 0) (rest := [.int r]) (st1 := [.int r, .int r]) (c0 := 12) (i0 := 0) (hZM.2.1 (12, 0) (by decide)) (by rfl) S hG hS hZM (fun _ _ h => h) (c_X12_close l D aC zs A nl ad σ1  r σ2 h2) zw_1348 zw_1349 zw_1350 zw_5 zw_1351 (by decide +kernel) ⟨rfl, rfl⟩ ⟨(Nat.le_of_ble_eq_true rfl), (Nat.le_of_ble_eq_true rfl)⟩ hl.1 rfl (by rfl) (by rfl) (Nat.le_of_ble_eq_true rfl) dL_law_1095 hroom ?_
  clear hG hS
  intro H locs _ hG hS
  refine lv_icmp_eq (tgt := 1307) hx hb dL_law_1098 (by decide) (fun _ => ?_) (fun h => absurd rfl h)
  exact kk σ2 H locs hG hS hI2 hs2 hm2
set_option maxRecDepth 100000 in
set_option maxHeartbeats 4000000 in
theorem zl_points {p : Program} {l : Launch} {e : Env} {s : State} {m : MethodId} {below : List Frame} {meth : Method} {c : Code} {b L : Nat} {xs : Nat → Int32} {D : va_G} {aC : Nat → ClassId} {zs : Nat × Nat} {A : Nat → Prop} {nl : zNL} {ad : Nat → Nat → Nat → Nat} {σ : zM} {a11 a12 : Nat} {H : Heap} {locs : List Loc} {ls : Array Slot} {i : Int32} {n cells slots : Nat} {Q : State → Prop} {Inv : Nat → zM → Prop} (e11 : ad 11 0 0 = a11) (e12 : ad 12 0 0 = a12) (S : zS p m c code 4 s #[Value.ref b] RL) (hX : va_X b L xs s s.heap) (hbl : b < s.heap.size) (hbA : ¬ A b) (hL : L ≤ 4096) (hZX : zH zs zfX A nl s) (hZM : zH zs zfM A nl s) (hIv : Inv n σ) (hG : zG D aC A nl ad σ s H) (hS : va_S A s.heap H locs) (hi : i = Int32.ofNat n) (hn : n + 8 ≤ L) (hroom : cells ≤ 600000 ∧ slots ≤ 7302249) (hl : lv_has ls 4 [(3, .int i), (2, .ref a12), (1, .ref a11), (0, .ref b)]) (hob : ∀ (x1 : Int32) (x2 : Int32) (x3 : Int32), zOb Inv (fun σ => f_X11_points σ x1 x2 x3) (fun σ => (f_X12_points σ x1 x2 x3).map (fun r => (r, σ)))) (kk : ∀ (σ2 : zM) (H1 : Heap) (locs1 : List Loc), zG D aC A nl ad σ2 s H1 → va_S A s.heap H1 locs1 → Inv (n + 8) σ2 → zSc σ2 = zSc σ → zMd σ2 = zMd σ → W p l e room_1 s m #[Value.ref b] below meth c H1 locs1 cells slots Q (F0 m 1307 ls [])) : W p l e room_1 s m #[Value.ref b] below meth c H locs cells slots Q (F0 m 1103 ls []) := by
  subst e11 e12
  obtain ⟨hx, hb, -, hown, hts⟩ := id S
  obtain ⟨r, σ1, σ2, h1, h2, hI2, hs2, hm2⟩ := hob (xs (i + 1).toNatClampNeg) (xs (i + 2).toNatClampNeg) (xs (i + 3).toNatClampNeg) n σ (by omega) hIv
  have h1 : f_X11_points σ (xs (i + 1).toNatClampNeg) (xs (i + 2).toNatClampNeg) (xs (i + 3).toNatClampNeg) = some (r, σ1) := h1
  have h2 : (f_X12_points σ1 (xs (i + 1).toNatClampNeg) (xs (i + 2).toNatClampNeg) (xs (i + 3).toNatClampNeg)).map (fun r => (r, σ1)) = some (r, σ2) := h2
  refine lv_aload_n hx hb dL_law_1103 rfl (lv_at hl 2 rfl) ?_
  refine lv_aload_n hx hb dL_law_1104 rfl (lv_at hl 3 rfl) ?_
  refine lv_iload_n hx hb dL_law_1105 rfl (lv_at hl 0 rfl) ?_
  refine lv_iconst (v := 1) hx hb dL_law_1106 (by decide) ?_
  refine lv_iadd hx hb dL_law_1107 ?_
  refine va_sld hx hb hX hbl hbA hS (zvin hi hL hn 1 (by decide)) dL_law_1108 ?_
  refine lv_aload_n hx hb dL_law_1109 rfl (lv_at hl 3 rfl) ?_
  refine lv_iload_n hx hb dL_law_1110 rfl (lv_at hl 0 rfl) ?_
  refine lv_iconst (v := 2) hx hb dL_law_1111 (by decide) ?_
  refine lv_iadd hx hb dL_law_1112 ?_
  refine va_sld hx hb hX hbl hbA hS (zvin hi hL hn 2 (by decide)) dL_law_1113 ?_
  refine lv_aload_n hx hb dL_law_1114 rfl (lv_at hl 3 rfl) ?_
  refine lv_iload_n hx hb dL_law_1115 rfl (lv_at hl 0 rfl) ?_
  refine lv_iconst (v := 3) hx hb dL_law_1116 (by decide) ?_
  refine lv_iadd hx hb dL_law_1117 ?_
  refine va_sld hx hb hX hbl hbA hS (zvin hi hL hn 3 (by decide)) dL_law_1118 ?_
  refine z_callV (n := 3) (rest := []) (st1 := [.int r]) (c0 := 11) (i0 := 0) (hZX.2.1 (11, 0) (by decide)) (by rfl) S hG hS hZX (fun _ _ h => h) (c_X11_points l D aC zs A nl ad σ (xs (i + 1).toNatClampNeg) (xs (i + 2).toNatClampNeg) (xs (i + 3).toNatClampNeg) r σ1 h1) zw_1386 zw_1387 zw_1388 zw_2 zw_1389 (by decide +kernel) ⟨rfl, rfl⟩ ⟨(Nat.le_of_ble_eq_true rfl), (Nat.le_of_ble_eq_true rfl)⟩ hl.1 rfl (by rfl) (by rfl) (Nat.le_of_ble_eq_true rfl) dL_law_1119 hroom ?_
  clear hG hS
  intro H locs _ hG hS
  refine lv_aload_n hx hb dL_law_1122 rfl (lv_at hl 1 rfl) ?_
  refine lv_aload_n hx hb dL_law_1123 rfl (lv_at hl 3 rfl) ?_
  refine lv_iload_n hx hb dL_law_1124 rfl (lv_at hl 0 rfl) ?_
  refine lv_iconst (v := 1) hx hb dL_law_1125 (by decide) ?_
  refine lv_iadd hx hb dL_law_1126 ?_
  refine va_sld hx hb hX hbl hbA hS (zvin hi hL hn 1 (by decide)) dL_law_1127 ?_
  refine lv_aload_n hx hb dL_law_1128 rfl (lv_at hl 3 rfl) ?_
  refine lv_iload_n hx hb dL_law_1129 rfl (lv_at hl 0 rfl) ?_
  refine lv_iconst (v := 2) hx hb dL_law_1130 (by decide) ?_
  refine lv_iadd hx hb dL_law_1131 ?_
  refine va_sld hx hb hX hbl hbA hS (zvin hi hL hn 2 (by decide)) dL_law_1132 ?_
  refine lv_aload_n hx hb dL_law_1133 rfl (lv_at hl 3 rfl) ?_
  refine lv_iload_n hx hb dL_law_1134 rfl (lv_at hl 0 rfl) ?_
  refine lv_iconst (v := 3) hx hb dL_law_1135 (by decide) ?_
  refine lv_iadd hx hb dL_law_1136 ?_
  refine va_sld hx hb hX hbl hbA hS (zvin hi hL hn 3 (by decide)) dL_law_1137 ?_
  obtain ⟨h2f, h2s⟩ := zrm h2
  refine z_callV (n := 3) (rest := [.int r]) (st1 := [.int r, .int r]) (c0 := 12) (i0 := 0) (hZM.2.1 (12, 0) (by decide)) (by rfl) S hG hS hZM (fun _ _ h => h) (c_X12_points l D aC zs A nl ad σ1 (xs (i + 1).toNatClampNeg) (xs (i + 2).toNatClampNeg) (xs (i + 3).toNatClampNeg) r h2f) zw_1395 zw_1396 zw_1397 zw_5 zw_1398 (by decide +kernel) ⟨rfl, rfl⟩ ⟨(Nat.le_of_ble_eq_true rfl), (Nat.le_of_ble_eq_true rfl)⟩ hl.1 rfl (by rfl) (by rfl) (Nat.le_of_ble_eq_true rfl) dL_law_1138 hroom ?_
  clear hG hS
  intro H locs _ hG hS
  refine lv_icmp_eq (tgt := 1307) hx hb dL_law_1141 (by decide) (fun _ => ?_) (fun h => absurd rfl h)
  rw [← h2s] at hG
  exact kk σ2 H locs hG hS hI2 hs2 hm2
set_option maxRecDepth 100000 in
set_option maxHeartbeats 4000000 in
theorem zl_voice {p : Program} {l : Launch} {e : Env} {s : State} {m : MethodId} {below : List Frame} {meth : Method} {c : Code} {b L : Nat} {xs : Nat → Int32} {D : va_G} {aC : Nat → ClassId} {zs : Nat × Nat} {A : Nat → Prop} {nl : zNL} {ad : Nat → Nat → Nat → Nat} {σ : zM} {a11 a12 : Nat} {H : Heap} {locs : List Loc} {ls : Array Slot} {i : Int32} {n cells slots : Nat} {Q : State → Prop} {Inv : Nat → zM → Prop} (e11 : ad 11 0 0 = a11) (e12 : ad 12 0 0 = a12) (S : zS p m c code 4 s #[Value.ref b] RL) (hX : va_X b L xs s s.heap) (hbl : b < s.heap.size) (hbA : ¬ A b) (hL : L ≤ 4096) (hZX : zH zs zfX A nl s) (hZM : zH zs zfM A nl s) (hIv : Inv n σ) (hG : zG D aC A nl ad σ s H) (hS : va_S A s.heap H locs) (hi : i = Int32.ofNat n) (hn : n + 8 ≤ L) (hroom : cells ≤ 600000 ∧ slots ≤ 7302249) (hl : lv_has ls 4 [(3, .int i), (2, .ref a12), (1, .ref a11), (0, .ref b)]) (hob : ∀ (x1 : Int32) (x2 : Int32), zOb Inv (fun σ => f_X11_voice σ x1 x2) (fun σ => (f_X12_voice σ x1 x2).map (fun r => (r, σ)))) (kk : ∀ (σ2 : zM) (H1 : Heap) (locs1 : List Loc), zG D aC A nl ad σ2 s H1 → va_S A s.heap H1 locs1 → Inv (n + 8) σ2 → zSc σ2 = zSc σ → zMd σ2 = zMd σ → W p l e room_1 s m #[Value.ref b] below meth c H1 locs1 cells slots Q (F0 m 1307 ls [])) : W p l e room_1 s m #[Value.ref b] below meth c H locs cells slots Q (F0 m 1146 ls []) := by
  subst e11 e12
  obtain ⟨hx, hb, -, hown, hts⟩ := id S
  obtain ⟨r, σ1, σ2, h1, h2, hI2, hs2, hm2⟩ := hob (xs (i + 1).toNatClampNeg) (xs (i + 2).toNatClampNeg) n σ (by omega) hIv
  have h1 : f_X11_voice σ (xs (i + 1).toNatClampNeg) (xs (i + 2).toNatClampNeg) = some (r, σ1) := h1
  have h2 : (f_X12_voice σ1 (xs (i + 1).toNatClampNeg) (xs (i + 2).toNatClampNeg)).map (fun r => (r, σ1)) = some (r, σ2) := h2
  refine lv_aload_n hx hb dL_law_1146 rfl (lv_at hl 2 rfl) ?_
  refine lv_aload_n hx hb dL_law_1147 rfl (lv_at hl 3 rfl) ?_
  refine lv_iload_n hx hb dL_law_1148 rfl (lv_at hl 0 rfl) ?_
  refine lv_iconst (v := 1) hx hb dL_law_1149 (by decide) ?_
  refine lv_iadd hx hb dL_law_1150 ?_
  refine va_sld hx hb hX hbl hbA hS (zvin hi hL hn 1 (by decide)) dL_law_1151 ?_
  refine lv_aload_n hx hb dL_law_1152 rfl (lv_at hl 3 rfl) ?_
  refine lv_iload_n hx hb dL_law_1153 rfl (lv_at hl 0 rfl) ?_
  refine lv_iconst (v := 2) hx hb dL_law_1154 (by decide) ?_
  refine lv_iadd hx hb dL_law_1155 ?_
  refine va_sld hx hb hX hbl hbA hS (zvin hi hL hn 2 (by decide)) dL_law_1156 ?_
  refine z_callV (n := 2) (rest := []) (st1 := [.int r]) (c0 := 11) (i0 := 0) (hZX.2.1 (11, 0) (by decide)) (by rfl) S hG hS hZX (fun _ _ h => h) (c_X11_voice l D aC zs A nl ad σ (xs (i + 1).toNatClampNeg) (xs (i + 2).toNatClampNeg) r σ1 h1) zw_1399 zw_1400 zw_1401 zw_2 zw_1402 (by decide +kernel) ⟨rfl, rfl⟩ ⟨(Nat.le_of_ble_eq_true rfl), (Nat.le_of_ble_eq_true rfl)⟩ hl.1 rfl (by rfl) (by rfl) (Nat.le_of_ble_eq_true rfl) dL_law_1157 hroom ?_
  clear hG hS
  intro H locs _ hG hS
  refine lv_aload_n hx hb dL_law_1160 rfl (lv_at hl 1 rfl) ?_
  refine lv_aload_n hx hb dL_law_1161 rfl (lv_at hl 3 rfl) ?_
  refine lv_iload_n hx hb dL_law_1162 rfl (lv_at hl 0 rfl) ?_
  refine lv_iconst (v := 1) hx hb dL_law_1163 (by decide) ?_
  refine lv_iadd hx hb dL_law_1164 ?_
  refine va_sld hx hb hX hbl hbA hS (zvin hi hL hn 1 (by decide)) dL_law_1165 ?_
  refine lv_aload_n hx hb dL_law_1166 rfl (lv_at hl 3 rfl) ?_
  refine lv_iload_n hx hb dL_law_1167 rfl (lv_at hl 0 rfl) ?_
  refine lv_iconst (v := 2) hx hb dL_law_1168 (by decide) ?_
  refine lv_iadd hx hb dL_law_1169 ?_
  refine va_sld hx hb hX hbl hbA hS (zvin hi hL hn 2 (by decide)) dL_law_1170 ?_
  obtain ⟨h2f, h2s⟩ := zrm h2
  refine z_callV (n := 2) (rest := [.int r]) (st1 := [.int r, .int r]) (c0 := 12) (i0 := 0) (hZM.2.1 (12, 0) (by decide)) (by rfl) S hG hS hZM (fun _ _ h => h) (c_X12_voice l D aC zs A nl ad σ1 (xs (i + 1).toNatClampNeg) (xs (i + 2).toNatClampNeg) r h2f) zw_1404 zw_1405 zw_1406 zw_5 zw_1407 (by decide +kernel) ⟨rfl, rfl⟩ ⟨(Nat.le_of_ble_eq_true rfl), (Nat.le_of_ble_eq_true rfl)⟩ hl.1 rfl (by rfl) (by rfl) (Nat.le_of_ble_eq_true rfl) dL_law_1171 hroom ?_
  clear hG hS
  intro H locs _ hG hS
  refine lv_icmp_eq (tgt := 1307) hx hb dL_law_1174 (by decide) (fun _ => ?_) (fun h => absurd rfl h)
  rw [← h2s] at hG
  exact kk σ2 H locs hG hS hI2 hs2 hm2
set_option maxRecDepth 100000 in
set_option maxHeartbeats 4000000 in
theorem zl_order {p : Program} {l : Launch} {e : Env} {s : State} {m : MethodId} {below : List Frame} {meth : Method} {c : Code} {b L : Nat} {xs : Nat → Int32} {D : va_G} {aC : Nat → ClassId} {zs : Nat × Nat} {A : Nat → Prop} {nl : zNL} {ad : Nat → Nat → Nat → Nat} {σ : zM} {a11 a12 : Nat} {H : Heap} {locs : List Loc} {ls : Array Slot} {i : Int32} {n cells slots : Nat} {Q : State → Prop} {Inv : Nat → zM → Prop} (e11 : ad 11 0 0 = a11) (e12 : ad 12 0 0 = a12) (S : zS p m c code 4 s #[Value.ref b] RL) (hX : va_X b L xs s s.heap) (hbl : b < s.heap.size) (hbA : ¬ A b) (hL : L ≤ 4096) (hZX : zH zs zfX A nl s) (hZM : zH zs zfM A nl s) (hIv : Inv n σ) (hG : zG D aC A nl ad σ s H) (hS : va_S A s.heap H locs) (hi : i = Int32.ofNat n) (hn : n + 8 ≤ L) (hroom : cells ≤ 600000 ∧ slots ≤ 7302249) (hl : lv_has ls 4 [(3, .int i), (2, .ref a12), (1, .ref a11), (0, .ref b)]) (hob : ∀ (x1 : Int32) (x2 : Int32) (x3 : Int32), zOb Inv (fun σ => f_X11_order σ x1 x2 x3) (fun σ => f_X12_order σ x1 x2 x3)) (kk : ∀ (σ2 : zM) (H1 : Heap) (locs1 : List Loc), zG D aC A nl ad σ2 s H1 → va_S A s.heap H1 locs1 → Inv (n + 8) σ2 → zSc σ2 = zSc σ → zMd σ2 = zMd σ → W p l e room_1 s m #[Value.ref b] below meth c H1 locs1 cells slots Q (F0 m 1307 ls [])) : W p l e room_1 s m #[Value.ref b] below meth c H locs cells slots Q (F0 m 1179 ls []) := by
  subst e11 e12
  obtain ⟨hx, hb, -, hown, hts⟩ := id S
  obtain ⟨r, σ1, σ2, h1, h2, hI2, hs2, hm2⟩ := hob (xs (i + 1).toNatClampNeg) (xs (i + 2).toNatClampNeg) (xs (i + 3).toNatClampNeg) n σ (by omega) hIv
  have h1 : f_X11_order σ (xs (i + 1).toNatClampNeg) (xs (i + 2).toNatClampNeg) (xs (i + 3).toNatClampNeg) = some (r, σ1) := h1
  have h2 : f_X12_order σ1 (xs (i + 1).toNatClampNeg) (xs (i + 2).toNatClampNeg) (xs (i + 3).toNatClampNeg) = some (r, σ2) := h2
  refine lv_aload_n hx hb dL_law_1179 rfl (lv_at hl 2 rfl) ?_
  refine lv_aload_n hx hb dL_law_1180 rfl (lv_at hl 3 rfl) ?_
  refine lv_iload_n hx hb dL_law_1181 rfl (lv_at hl 0 rfl) ?_
  refine lv_iconst (v := 1) hx hb dL_law_1182 (by decide) ?_
  refine lv_iadd hx hb dL_law_1183 ?_
  refine va_sld hx hb hX hbl hbA hS (zvin hi hL hn 1 (by decide)) dL_law_1184 ?_
  refine lv_aload_n hx hb dL_law_1185 rfl (lv_at hl 3 rfl) ?_
  refine lv_iload_n hx hb dL_law_1186 rfl (lv_at hl 0 rfl) ?_
  refine lv_iconst (v := 2) hx hb dL_law_1187 (by decide) ?_
  refine lv_iadd hx hb dL_law_1188 ?_
  refine va_sld hx hb hX hbl hbA hS (zvin hi hL hn 2 (by decide)) dL_law_1189 ?_
  refine lv_aload_n hx hb dL_law_1190 rfl (lv_at hl 3 rfl) ?_
  refine lv_iload_n hx hb dL_law_1191 rfl (lv_at hl 0 rfl) ?_
  refine lv_iconst (v := 3) hx hb dL_law_1192 (by decide) ?_
  refine lv_iadd hx hb dL_law_1193 ?_
  refine va_sld hx hb hX hbl hbA hS (zvin hi hL hn 3 (by decide)) dL_law_1194 ?_
  refine z_callV (n := 3) (rest := []) (st1 := [.int r]) (c0 := 11) (i0 := 0) (hZX.2.1 (11, 0) (by decide)) (by rfl) S hG hS hZX (fun _ _ h => h) (c_X11_order l D aC zs A nl ad σ (xs (i + 1).toNatClampNeg) (xs (i + 2).toNatClampNeg) (xs (i + 3).toNatClampNeg) r σ1 h1) zw_1408 zw_1409 zw_1410 zw_2 zw_1411 (by decide +kernel) ⟨rfl, rfl⟩ ⟨(Nat.le_of_ble_eq_true rfl), (Nat.le_of_ble_eq_true rfl)⟩ hl.1 rfl (by rfl) (by rfl) (Nat.le_of_ble_eq_true rfl) dL_law_1195 hroom ?_
  clear hG hS
  intro H locs _ hG hS
  refine lv_aload_n hx hb dL_law_1198 rfl (lv_at hl 1 rfl) ?_
  refine lv_aload_n hx hb dL_law_1199 rfl (lv_at hl 3 rfl) ?_
  refine lv_iload_n hx hb dL_law_1200 rfl (lv_at hl 0 rfl) ?_
  refine lv_iconst (v := 1) hx hb dL_law_1201 (by decide) ?_
  refine lv_iadd hx hb dL_law_1202 ?_
  refine va_sld hx hb hX hbl hbA hS (zvin hi hL hn 1 (by decide)) dL_law_1203 ?_
  refine lv_aload_n hx hb dL_law_1204 rfl (lv_at hl 3 rfl) ?_
  refine lv_iload_n hx hb dL_law_1205 rfl (lv_at hl 0 rfl) ?_
  refine lv_iconst (v := 2) hx hb dL_law_1206 (by decide) ?_
  refine lv_iadd hx hb dL_law_1207 ?_
  refine va_sld hx hb hX hbl hbA hS (zvin hi hL hn 2 (by decide)) dL_law_1208 ?_
  refine lv_aload_n hx hb dL_law_1209 rfl (lv_at hl 3 rfl) ?_
  refine lv_iload_n hx hb dL_law_1210 rfl (lv_at hl 0 rfl) ?_
  refine lv_iconst (v := 3) hx hb dL_law_1211 (by decide) ?_
  refine lv_iadd hx hb dL_law_1212 ?_
  refine va_sld hx hb hX hbl hbA hS (zvin hi hL hn 3 (by decide)) dL_law_1213 ?_
  refine z_callV (n := 3) (rest := [.int r]) (st1 := [.int r, .int r]) (c0 := 12) (i0 := 0) (hZM.2.1 (12, 0) (by decide)) (by rfl) S hG hS hZM (fun _ _ h => h) (c_X12_order l D aC zs A nl ad σ1 (xs (i + 1).toNatClampNeg) (xs (i + 2).toNatClampNeg) (xs (i + 3).toNatClampNeg) r σ2 h2) zw_1417 zw_1418 zw_1419 zw_5 zw_1420 (by decide +kernel) ⟨rfl, rfl⟩ ⟨(Nat.le_of_ble_eq_true rfl), (Nat.le_of_ble_eq_true rfl)⟩ hl.1 rfl (by rfl) (by rfl) (Nat.le_of_ble_eq_true rfl) dL_law_1214 hroom ?_
  clear hG hS
  intro H locs _ hG hS
  refine lv_icmp_eq (tgt := 1307) hx hb dL_law_1217 (by decide) (fun _ => ?_) (fun h => absurd rfl h)
  exact kk σ2 H locs hG hS hI2 hs2 hm2
set_option maxRecDepth 100000 in
set_option maxHeartbeats 4000000 in
theorem zl_author {p : Program} {l : Launch} {e : Env} {s : State} {m : MethodId} {below : List Frame} {meth : Method} {c : Code} {b L : Nat} {xs : Nat → Int32} {D : va_G} {aC : Nat → ClassId} {zs : Nat × Nat} {A : Nat → Prop} {nl : zNL} {ad : Nat → Nat → Nat → Nat} {σ : zM} {a11 a12 : Nat} {H : Heap} {locs : List Loc} {ls : Array Slot} {i : Int32} {n cells slots : Nat} {Q : State → Prop} {Inv : Nat → zM → Prop} (e11 : ad 11 0 0 = a11) (e12 : ad 12 0 0 = a12) (S : zS p m c code 4 s #[Value.ref b] RL) (hX : va_X b L xs s s.heap) (hbl : b < s.heap.size) (hbA : ¬ A b) (hL : L ≤ 4096) (hZX : zH zs zfX A nl s) (hZM : zH zs zfM A nl s) (hIv : Inv n σ) (hG : zG D aC A nl ad σ s H) (hS : va_S A s.heap H locs) (hi : i = Int32.ofNat n) (hn : n + 8 ≤ L) (hroom : cells ≤ 600000 ∧ slots ≤ 7302249) (hl : lv_has ls 4 [(3, .int i), (2, .ref a12), (1, .ref a11), (0, .ref b)]) (hob : ∀ (x1 : Int32), zOb Inv (fun σ => (f_X11_author σ x1).map (fun r => (r, σ))) (fun σ => (f_X12_author σ x1).map (fun r => (r, σ)))) (kk : ∀ (σ2 : zM) (H1 : Heap) (locs1 : List Loc), zG D aC A nl ad σ2 s H1 → va_S A s.heap H1 locs1 → Inv (n + 8) σ2 → zSc σ2 = zSc σ → zMd σ2 = zMd σ → W p l e room_1 s m #[Value.ref b] below meth c H1 locs1 cells slots Q (F0 m 1307 ls [])) : W p l e room_1 s m #[Value.ref b] below meth c H locs cells slots Q (F0 m 1222 ls []) := by
  subst e11 e12
  obtain ⟨hx, hb, -, hown, hts⟩ := id S
  obtain ⟨r, σ1, σ2, h1, h2, hI2, hs2, hm2⟩ := hob (xs (i + 1).toNatClampNeg) n σ (by omega) hIv
  have h1 : (f_X11_author σ (xs (i + 1).toNatClampNeg)).map (fun r => (r, σ)) = some (r, σ1) := h1
  have h2 : (f_X12_author σ1 (xs (i + 1).toNatClampNeg)).map (fun r => (r, σ1)) = some (r, σ2) := h2
  refine lv_aload_n hx hb dL_law_1222 rfl (lv_at hl 2 rfl) ?_
  refine lv_aload_n hx hb dL_law_1223 rfl (lv_at hl 3 rfl) ?_
  refine lv_iload_n hx hb dL_law_1224 rfl (lv_at hl 0 rfl) ?_
  refine lv_iconst (v := 1) hx hb dL_law_1225 (by decide) ?_
  refine lv_iadd hx hb dL_law_1226 ?_
  refine va_sld hx hb hX hbl hbA hS (zvin hi hL hn 1 (by decide)) dL_law_1227 ?_
  obtain ⟨h1f, h1s⟩ := zrm h1
  rw [h1s] at h2
  refine z_callV (n := 1) (rest := []) (st1 := [.int r]) (c0 := 11) (i0 := 0) (hZX.2.1 (11, 0) (by decide)) (by rfl) S hG hS hZX (fun _ _ h => h) (c_X11_author l D aC zs A nl ad σ (xs (i + 1).toNatClampNeg) r h1f) zw_1421 zw_1422 zw_1423 zw_2 zw_1424 (by decide +kernel) ⟨rfl, rfl⟩ ⟨(Nat.le_of_ble_eq_true rfl), (Nat.le_of_ble_eq_true rfl)⟩ hl.1 rfl (by rfl) (by rfl) (Nat.le_of_ble_eq_true rfl) dL_law_1228 hroom ?_
  clear hG hS
  intro H locs _ hG hS
  refine lv_aload_n hx hb dL_law_1231 rfl (lv_at hl 1 rfl) ?_
  refine lv_aload_n hx hb dL_law_1232 rfl (lv_at hl 3 rfl) ?_
  refine lv_iload_n hx hb dL_law_1233 rfl (lv_at hl 0 rfl) ?_
  refine lv_iconst (v := 1) hx hb dL_law_1234 (by decide) ?_
  refine lv_iadd hx hb dL_law_1235 ?_
  refine va_sld hx hb hX hbl hbA hS (zvin hi hL hn 1 (by decide)) dL_law_1236 ?_
  obtain ⟨h2f, h2s⟩ := zrm h2
  refine z_callV (n := 1) (rest := [.int r]) (st1 := [.int r, .int r]) (c0 := 12) (i0 := 0) (hZM.2.1 (12, 0) (by decide)) (by rfl) S hG hS hZM (fun _ _ h => h) (c_X12_author l D aC zs A nl ad σ (xs (i + 1).toNatClampNeg) r h2f) zw_1426 zw_1427 zw_1428 zw_5 zw_1429 (by decide +kernel) ⟨rfl, rfl⟩ ⟨(Nat.le_of_ble_eq_true rfl), (Nat.le_of_ble_eq_true rfl)⟩ hl.1 rfl (by rfl) (by rfl) (Nat.le_of_ble_eq_true rfl) dL_law_1237 hroom ?_
  clear hG hS
  intro H locs _ hG hS
  refine lv_icmp_eq (tgt := 1307) hx hb dL_law_1240 (by decide) (fun _ => ?_) (fun h => absurd rfl h)
  rw [← h2s] at hG
  exact kk σ2 H locs hG hS hI2 hs2 hm2
set_option maxRecDepth 100000 in
set_option maxHeartbeats 4000000 in
theorem zl_winner {p : Program} {l : Launch} {e : Env} {s : State} {m : MethodId} {below : List Frame} {meth : Method} {c : Code} {b L : Nat} {xs : Nat → Int32} {D : va_G} {aC : Nat → ClassId} {zs : Nat × Nat} {A : Nat → Prop} {nl : zNL} {ad : Nat → Nat → Nat → Nat} {σ : zM} {a11 a12 : Nat} {H : Heap} {locs : List Loc} {ls : Array Slot} {i : Int32} {n cells slots : Nat} {Q : State → Prop} {Inv : Nat → zM → Prop} (e11 : ad 11 0 0 = a11) (e12 : ad 12 0 0 = a12) (S : zS p m c code 4 s #[Value.ref b] RL) (hX : va_X b L xs s s.heap) (hbl : b < s.heap.size) (hbA : ¬ A b) (hL : L ≤ 4096) (hZX : zH zs zfX A nl s) (hZM : zH zs zfM A nl s) (hIv : Inv n σ) (hG : zG D aC A nl ad σ s H) (hS : va_S A s.heap H locs) (hi : i = Int32.ofNat n) (hn : n + 8 ≤ L) (hroom : cells ≤ 600000 ∧ slots ≤ 7302249) (hl : lv_has ls 4 [(3, .int i), (2, .ref a12), (1, .ref a11), (0, .ref b)]) (hob : zOb Inv (fun σ => f_X11_winner σ) (fun σ => f_X12_winner σ)) (kk : ∀ (σ2 : zM) (H1 : Heap) (locs1 : List Loc), zG D aC A nl ad σ2 s H1 → va_S A s.heap H1 locs1 → Inv (n + 8) σ2 → zSc σ2 = zSc σ → zMd σ2 = zMd σ → W p l e room_1 s m #[Value.ref b] below meth c H1 locs1 cells slots Q (F0 m 1307 ls [])) : W p l e room_1 s m #[Value.ref b] below meth c H locs cells slots Q (F0 m 1245 ls []) := by
  subst e11 e12
  obtain ⟨hx, hb, -, hown, hts⟩ := id S
  obtain ⟨r, σ1, σ2, h1, h2, hI2, hs2, hm2⟩ := hob n σ (by omega) hIv
  have h1 : f_X11_winner σ = some (r, σ1) := h1
  have h2 : f_X12_winner σ1 = some (r, σ2) := h2
  refine lv_aload_n hx hb dL_law_1245 rfl (lv_at hl 2 rfl) ?_
  refine z_callV (n := 0) (rest := []) (st1 := [.int r]) (c0 := 11) (i0 := 0) (hZX.2.1 (11, 0) (by decide)) (by rfl) S hG hS hZX (fun _ _ h => h) (c_X11_winner l D aC zs A nl ad σ  r σ1 h1) zw_1430 zw_1431 zw_1432 zw_2 zw_1433 (by decide +kernel) ⟨rfl, rfl⟩ ⟨(Nat.le_of_ble_eq_true rfl), (Nat.le_of_ble_eq_true rfl)⟩ hl.1 rfl (by rfl) (by rfl) (Nat.le_of_ble_eq_true rfl) dL_law_1246 hroom ?_
  clear hG hS
  intro H locs _ hG hS
  refine lv_aload_n hx hb dL_law_1249 rfl (lv_at hl 1 rfl) ?_
  refine z_callV (n := 0) (rest := [.int r]) (st1 := [.int r, .int r]) (c0 := 12) (i0 := 0) (hZM.2.1 (12, 0) (by decide)) (by rfl) S hG hS hZM (fun _ _ h => h) (c_X12_winner l D aC zs A nl ad σ1  r σ2 h2) zw_1434 zw_1435 zw_1436 zw_5 zw_1437 (by decide +kernel) ⟨rfl, rfl⟩ ⟨(Nat.le_of_ble_eq_true rfl), (Nat.le_of_ble_eq_true rfl)⟩ hl.1 rfl (by rfl) (by rfl) (Nat.le_of_ble_eq_true rfl) dL_law_1250 hroom ?_
  clear hG hS
  intro H locs _ hG hS
  refine lv_icmp_eq (tgt := 1307) hx hb dL_law_1253 (by decide) (fun _ => ?_) (fun h => absurd rfl h)
  exact kk σ2 H locs hG hS hI2 hs2 hm2
set_option maxRecDepth 100000 in
set_option maxHeartbeats 4000000 in
theorem zl_fail {p : Program} {l : Launch} {e : Env} {s : State} {m : MethodId} {below : List Frame} {meth : Method} {c : Code} {b L : Nat} {xs : Nat → Int32} {D : va_G} {aC : Nat → ClassId} {zs : Nat × Nat} {A : Nat → Prop} {nl : zNL} {ad : Nat → Nat → Nat → Nat} {σ : zM} {a11 a12 : Nat} {H : Heap} {locs : List Loc} {ls : Array Slot} {i : Int32} {n cells slots : Nat} {Q : State → Prop} {Inv : Nat → zM → Prop} (e11 : ad 11 0 0 = a11) (e12 : ad 12 0 0 = a12) (S : zS p m c code 4 s #[Value.ref b] RL) (hX : va_X b L xs s s.heap) (hbl : b < s.heap.size) (hbA : ¬ A b) (hL : L ≤ 4096) (hZX : zH zs zfX A nl s) (hZM : zH zs zfM A nl s) (hIv : Inv n σ) (hG : zG D aC A nl ad σ s H) (hS : va_S A s.heap H locs) (hi : i = Int32.ofNat n) (hn : n + 8 ≤ L) (hroom : cells ≤ 600000 ∧ slots ≤ 7302249) (hl : lv_has ls 4 [(3, .int i), (2, .ref a12), (1, .ref a11), (0, .ref b)]) (hob : zOb Inv (fun σ => f_X11_fail σ) (fun σ => f_X12_fail σ)) (kk : ∀ (σ2 : zM) (H1 : Heap) (locs1 : List Loc), zG D aC A nl ad σ2 s H1 → va_S A s.heap H1 locs1 → Inv (n + 8) σ2 → zSc σ2 = zSc σ → zMd σ2 = zMd σ → W p l e room_1 s m #[Value.ref b] below meth c H1 locs1 cells slots Q (F0 m 1307 ls [])) : W p l e room_1 s m #[Value.ref b] below meth c H locs cells slots Q (F0 m 1258 ls []) := by
  subst e11 e12
  obtain ⟨hx, hb, -, hown, hts⟩ := id S
  obtain ⟨r, σ1, σ2, h1, h2, hI2, hs2, hm2⟩ := hob n σ (by omega) hIv
  have h1 : f_X11_fail σ = some (r, σ1) := h1
  have h2 : f_X12_fail σ1 = some (r, σ2) := h2
  refine lv_aload_n hx hb dL_law_1258 rfl (lv_at hl 2 rfl) ?_
  refine z_callV (n := 0) (rest := []) (st1 := [.int r]) (c0 := 11) (i0 := 0) (hZX.2.1 (11, 0) (by decide)) (by rfl) S hG hS hZX (fun _ _ h => h) (c_X11_fail l D aC zs A nl ad σ  r σ1 h1) zw_1443 zw_1444 zw_1445 zw_2 zw_1446 (by decide +kernel) ⟨rfl, rfl⟩ ⟨(Nat.le_of_ble_eq_true rfl), (Nat.le_of_ble_eq_true rfl)⟩ hl.1 rfl (by rfl) (by rfl) (Nat.le_of_ble_eq_true rfl) dL_law_1259 hroom ?_
  clear hG hS
  intro H locs _ hG hS
  refine lv_aload_n hx hb dL_law_1262 rfl (lv_at hl 1 rfl) ?_
  refine z_callV (n := 0) (rest := [.int r]) (st1 := [.int r, .int r]) (c0 := 12) (i0 := 0) (hZM.2.1 (12, 0) (by decide)) (by rfl) S hG hS hZM (fun _ _ h => h) (c_X12_fail l D aC zs A nl ad σ1  r σ2 h2) zw_1448 zw_1449 zw_1450 zw_5 zw_1451 (by decide +kernel) ⟨rfl, rfl⟩ ⟨(Nat.le_of_ble_eq_true rfl), (Nat.le_of_ble_eq_true rfl)⟩ hl.1 rfl (by rfl) (by rfl) (Nat.le_of_ble_eq_true rfl) dL_law_1263 hroom ?_
  clear hG hS
  intro H locs _ hG hS
  refine lv_icmp_eq (tgt := 1307) hx hb dL_law_1266 (by decide) (fun _ => ?_) (fun h => absurd rfl h)
  exact kk σ2 H locs hG hS hI2 hs2 hm2
set_option maxRecDepth 100000 in
set_option maxHeartbeats 4000000 in
theorem zl_pay {p : Program} {l : Launch} {e : Env} {s : State} {m : MethodId} {below : List Frame} {meth : Method} {c : Code} {b L : Nat} {xs : Nat → Int32} {D : va_G} {aC : Nat → ClassId} {zs : Nat × Nat} {A : Nat → Prop} {nl : zNL} {ad : Nat → Nat → Nat → Nat} {σ : zM} {a11 a12 : Nat} {H : Heap} {locs : List Loc} {ls : Array Slot} {i : Int32} {n cells slots : Nat} {Q : State → Prop} {Inv : Nat → zM → Prop} (e11 : ad 11 0 0 = a11) (e12 : ad 12 0 0 = a12) (S : zS p m c code 4 s #[Value.ref b] RL) (hX : va_X b L xs s s.heap) (hbl : b < s.heap.size) (hbA : ¬ A b) (hL : L ≤ 4096) (hZX : zH zs zfX A nl s) (hZM : zH zs zfM A nl s) (hIv : Inv n σ) (hG : zG D aC A nl ad σ s H) (hS : va_S A s.heap H locs) (hi : i = Int32.ofNat n) (hn : n + 8 ≤ L) (hroom : cells ≤ 600000 ∧ slots ≤ 7302249) (hl : lv_has ls 4 [(3, .int i), (2, .ref a12), (1, .ref a11), (0, .ref b)]) (hob : zOb Inv (fun σ => f_X11_pay σ) (fun σ => f_X12_pay σ)) (kk : ∀ (σ2 : zM) (H1 : Heap) (locs1 : List Loc), zG D aC A nl ad σ2 s H1 → va_S A s.heap H1 locs1 → Inv (n + 8) σ2 → zSc σ2 = zSc σ → zMd σ2 = zMd σ → W p l e room_1 s m #[Value.ref b] below meth c H1 locs1 cells slots Q (F0 m 1307 ls [])) : W p l e room_1 s m #[Value.ref b] below meth c H locs cells slots Q (F0 m 1271 ls []) := by
  subst e11 e12
  obtain ⟨hx, hb, -, hown, hts⟩ := id S
  obtain ⟨r, σ1, σ2, h1, h2, hI2, hs2, hm2⟩ := hob n σ (by omega) hIv
  have h1 : f_X11_pay σ = some (r, σ1) := h1
  have h2 : f_X12_pay σ1 = some (r, σ2) := h2
  refine lv_aload_n hx hb dL_law_1271 rfl (lv_at hl 2 rfl) ?_
  refine z_callV (n := 0) (rest := []) (st1 := [.int r]) (c0 := 11) (i0 := 0) (hZX.2.1 (11, 0) (by decide)) (by rfl) S hG hS hZX (fun _ _ h => h) (c_X11_pay l D aC zs A nl ad σ  r σ1 h1) zw_1453 zw_1454 zw_1455 zw_2 zw_1456 (by decide +kernel) ⟨rfl, rfl⟩ ⟨(Nat.le_of_ble_eq_true rfl), (Nat.le_of_ble_eq_true rfl)⟩ hl.1 rfl (by rfl) (by rfl) (Nat.le_of_ble_eq_true rfl) dL_law_1272 hroom ?_
  clear hG hS
  intro H locs _ hG hS
  refine lv_aload_n hx hb dL_law_1275 rfl (lv_at hl 1 rfl) ?_
  refine z_callV (n := 0) (rest := [.int r]) (st1 := [.int r, .int r]) (c0 := 12) (i0 := 0) (hZM.2.1 (12, 0) (by decide)) (by rfl) S hG hS hZM (fun _ _ h => h) (c_X12_pay l D aC zs A nl ad σ1  r σ2 h2) zw_1457 zw_1458 zw_1459 zw_5 zw_1460 (by decide +kernel) ⟨rfl, rfl⟩ ⟨(Nat.le_of_ble_eq_true rfl), (Nat.le_of_ble_eq_true rfl)⟩ hl.1 rfl (by rfl) (by rfl) (Nat.le_of_ble_eq_true rfl) dL_law_1276 hroom ?_
  clear hG hS
  intro H locs _ hG hS
  refine lv_icmp_eq (tgt := 1307) hx hb dL_law_1279 (by decide) (fun _ => ?_) (fun h => absurd rfl h)
  exact kk σ2 H locs hG hS hI2 hs2 hm2
set_option maxRecDepth 100000 in
set_option maxHeartbeats 4000000 in
theorem zl_count {p : Program} {l : Launch} {e : Env} {s : State} {m : MethodId} {below : List Frame} {meth : Method} {c : Code} {b L : Nat} {xs : Nat → Int32} {D : va_G} {aC : Nat → ClassId} {zs : Nat × Nat} {A : Nat → Prop} {nl : zNL} {ad : Nat → Nat → Nat → Nat} {σ : zM} {a11 a12 : Nat} {H : Heap} {locs : List Loc} {ls : Array Slot} {i : Int32} {n cells slots : Nat} {Q : State → Prop} {Inv : Nat → zM → Prop} (e11 : ad 11 0 0 = a11) (e12 : ad 12 0 0 = a12) (S : zS p m c code 4 s #[Value.ref b] RL) (hX : va_X b L xs s s.heap) (hbl : b < s.heap.size) (hbA : ¬ A b) (hL : L ≤ 4096) (hZX : zH zs zfX A nl s) (hZM : zH zs zfM A nl s) (hIv : Inv n σ) (hG : zG D aC A nl ad σ s H) (hS : va_S A s.heap H locs) (hi : i = Int32.ofNat n) (hn : n + 8 ≤ L) (hroom : cells ≤ 600000 ∧ slots ≤ 7302249) (hl : lv_has ls 4 [(3, .int i), (2, .ref a12), (1, .ref a11), (0, .ref b)]) (hob : ∀ (x1 : Int32), zOb Inv (fun σ => (f_X11_count σ x1).map (fun r => (r, σ))) (fun σ => (f_X12_count σ x1).map (fun r => (r, σ)))) (kk : ∀ (σ2 : zM) (H1 : Heap) (locs1 : List Loc), zG D aC A nl ad σ2 s H1 → va_S A s.heap H1 locs1 → Inv (n + 8) σ2 → zSc σ2 = zSc σ → zMd σ2 = zMd σ → W p l e room_1 s m #[Value.ref b] below meth c H1 locs1 cells slots Q (F0 m 1307 ls [])) : W p l e room_1 s m #[Value.ref b] below meth c H locs cells slots Q (F0 m 1284 ls []) := by
  subst e11 e12
  obtain ⟨hx, hb, -, hown, hts⟩ := id S
  obtain ⟨r, σ1, σ2, h1, h2, hI2, hs2, hm2⟩ := hob (xs (i + 1).toNatClampNeg) n σ (by omega) hIv
  have h1 : (f_X11_count σ (xs (i + 1).toNatClampNeg)).map (fun r => (r, σ)) = some (r, σ1) := h1
  have h2 : (f_X12_count σ1 (xs (i + 1).toNatClampNeg)).map (fun r => (r, σ1)) = some (r, σ2) := h2
  refine lv_aload_n hx hb dL_law_1284 rfl (lv_at hl 2 rfl) ?_
  refine lv_aload_n hx hb dL_law_1285 rfl (lv_at hl 3 rfl) ?_
  refine lv_iload_n hx hb dL_law_1286 rfl (lv_at hl 0 rfl) ?_
  refine lv_iconst (v := 1) hx hb dL_law_1287 (by decide) ?_
  refine lv_iadd hx hb dL_law_1288 ?_
  refine va_sld hx hb hX hbl hbA hS (zvin hi hL hn 1 (by decide)) dL_law_1289 ?_
  obtain ⟨h1f, h1s⟩ := zrm h1
  rw [h1s] at h2
  refine z_callV (n := 1) (rest := []) (st1 := [.int r]) (c0 := 11) (i0 := 0) (hZX.2.1 (11, 0) (by decide)) (by rfl) S hG hS hZX (fun _ _ h => h) (c_X11_count l D aC zs A nl ad σ (xs (i + 1).toNatClampNeg) r h1f) zw_1462 zw_1463 zw_1464 zw_2 zw_1465 (by decide +kernel) ⟨rfl, rfl⟩ ⟨(Nat.le_of_ble_eq_true rfl), (Nat.le_of_ble_eq_true rfl)⟩ hl.1 rfl (by rfl) (by rfl) (Nat.le_of_ble_eq_true rfl) dL_law_1290 hroom ?_
  clear hG hS
  intro H locs _ hG hS
  refine lv_aload_n hx hb dL_law_1293 rfl (lv_at hl 1 rfl) ?_
  refine lv_aload_n hx hb dL_law_1294 rfl (lv_at hl 3 rfl) ?_
  refine lv_iload_n hx hb dL_law_1295 rfl (lv_at hl 0 rfl) ?_
  refine lv_iconst (v := 1) hx hb dL_law_1296 (by decide) ?_
  refine lv_iadd hx hb dL_law_1297 ?_
  refine va_sld hx hb hX hbl hbA hS (zvin hi hL hn 1 (by decide)) dL_law_1298 ?_
  obtain ⟨h2f, h2s⟩ := zrm h2
  refine z_callV (n := 1) (rest := [.int r]) (st1 := [.int r, .int r]) (c0 := 12) (i0 := 0) (hZM.2.1 (12, 0) (by decide)) (by rfl) S hG hS hZM (fun _ _ h => h) (c_X12_count l D aC zs A nl ad σ (xs (i + 1).toNatClampNeg) r h2f) zw_1482 zw_1483 zw_1484 zw_5 zw_1485 (by decide +kernel) ⟨rfl, rfl⟩ ⟨(Nat.le_of_ble_eq_true rfl), (Nat.le_of_ble_eq_true rfl)⟩ hl.1 rfl (by rfl) (by rfl) (Nat.le_of_ble_eq_true rfl) dL_law_1299 hroom ?_
  clear hG hS
  intro H locs _ hG hS
  refine lv_icmp_eq (tgt := 1307) hx hb dL_law_1302 (by decide) (fun _ => ?_) (fun h => absurd rfl h)
  rw [← h2s] at hG
  exact kk σ2 H locs hG hS hI2 hs2 hm2
