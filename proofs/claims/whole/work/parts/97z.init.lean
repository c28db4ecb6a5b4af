/-! the start: what is known -/
theorem zZ12 {σ1 : zM} (hZ : zEx zFi z00 σ1) : ∃ σ2, f_X12_init (zclr σ1 12 0) = some σ2 ∧ zEx zFi z00 σ2 ∧ (∀ c i k, c ≠ 12 → zI σ2 c i k = zI σ1 c i k ∧ zA σ2 c i k = zA σ1 c i k ∧ zL σ2 c i k = zL σ1 c i k) ∧ zI σ2 12 0 2 = nI 1 ∧ zI σ2 12 0 24 = -1 ∧ (zA σ2 12 0 6 0 = nI 4 ∧ zA σ2 12 0 6 1 = nI 6 ∧ zA σ2 12 0 6 2 = nI 8 ∧ zA σ2 12 0 6 3 = nI 6) ∧ ∀ i, i < 320 → zA σ2 12 0 55 i = nI 1001 := by
  obtain ⟨σa, ha⟩ : ∃ x, x = zsI (zclA (zclA (zclA (zclA (zclA (zclA (zclA (zsA (zsA (zsA (zsA (zclA (zclA (zclA (zclA (zsI (zclr σ1 12 0) 12 0 2 1) 12 0 3) 12 0 4) 12 0 5) 12 0 6) 12 0 6 0 4) 12 0 6 1 6) 12 0 6 2 8) 12 0 6 3 6) 12 0 7) 12 0 8) 12 0 10) 12 0 11) 12 0 12) 12 0 13) 12 0 14) 12 0 24 (-1) := ⟨_, rfl⟩
  obtain ⟨σb, hb⟩ : ∃ x, x = zclA (zclA (zclA (zclA (zclA (zclA (zclA (zclA (zclA (zclA (zclA (zclA (zclA (zclA (zclA σa 12 0 25) 12 0 26) 12 0 27) 12 0 28) 12 0 29) 12 0 30) 12 0 31) 12 0 32) 12 0 33) 12 0 34) 12 0 35) 12 0 36) 12 0 37) 12 0 38) 12 0 39 := ⟨_, rfl⟩
  obtain ⟨σc, hc⟩ : ∃ x, x = zclA (zclA (zclA (zclA (zclA (zclA (zclA (zclA (zclA (zclA (zclA (zclA (zclA σb 12 0 42) 12 0 45) 12 0 46) 12 0 47) 12 0 55) 12 0 56) 12 0 57) 12 0 58) 12 0 59) 12 0 60) 12 0 61) 12 0 62) 12 0 63 := ⟨_, rfl⟩
  obtain ⟨σ2, w1, w2, w3⟩ := X12_iniL (σ := σc)
  have xa : zEx zFi z00 σa := by
    rw [ha]
    exact (zZ_clA (zZ_clA (zZ_clA (zZ_clA (zZ_clA (zZ_clA (zZ_clA (((((zZ_clA (zZ_clA (zZ_clA (zZ_clA ((zZ_clr hZ).tr (zEx_sI (by decide))))))).tr (zEx_sA (by decide))).tr (zEx_sA (by decide))).tr (zEx_sA (by decide))).tr (zEx_sA (by decide)))))))))).tr (zEx_sI (by decide))
  have xb : zEx zFi z00 σb := by
    rw [hb]
    exact zZ_clA (zZ_clA (zZ_clA (zZ_clA (zZ_clA (zZ_clA (zZ_clA (zZ_clA (zZ_clA (zZ_clA (zZ_clA (zZ_clA (zZ_clA (zZ_clA (zZ_clA xa))))))))))))))
  have xc : zEx zFi z00 σc := by
    rw [hc]
    exact zZ_clA (zZ_clA (zZ_clA (zZ_clA (zZ_clA (zZ_clA (zZ_clA (zZ_clA (zZ_clA (zZ_clA (zZ_clA (zZ_clA (zZ_clA xb))))))))))))
  have oA : ∀ {σ : zM} {i k c' i' k' : Nat}, c' ≠ 12 → zI (zclA σ 12 i k) c' i' k' = zI σ c' i' k' ∧ zA (zclA σ 12 i k) c' i' k' = zA σ c' i' k' ∧ zL (zclA σ 12 i k) c' i' k' = zL σ c' i' k' := fun h => ⟨rfl, if_neg (fun e => h e.1), if_neg (fun e => h e.1)⟩
  have oS : ∀ {σ : zM} {i k j c' i' k' : Nat} {v : Int32}, c' ≠ 12 → zI (zsA σ 12 i k j v) c' i' k' = zI σ c' i' k' ∧ zA (zsA σ 12 i k j v) c' i' k' = zA σ c' i' k' ∧ zL (zsA σ 12 i k j v) c' i' k' = zL σ c' i' k' := fun h => ⟨rfl, if_neg (fun e => h e.1), rfl⟩
  have oI : ∀ {σ : zM} {i k c' i' k' : Nat} {v : Int32}, c' ≠ 12 → zI (zsI σ 12 i k v) c' i' k' = zI σ c' i' k' ∧ zA (zsI σ 12 i k v) c' i' k' = zA σ c' i' k' ∧ zL (zsI σ 12 i k v) c' i' k' = zL σ c' i' k' := fun h => ⟨if_neg (fun e => h e.1), rfl, rfl⟩
  have oC : ∀ {σ : zM} {i c' i' k' : Nat}, c' ≠ 12 → zI (zclr σ 12 i) c' i' k' = zI σ c' i' k' ∧ zA (zclr σ 12 i) c' i' k' = zA σ c' i' k' ∧ zL (zclr σ 12 i) c' i' k' = zL σ c' i' k' := fun h => ⟨if_neg (fun e => h e.1), rfl, rfl⟩
  have tr3 : ∀ {a b c : zM} {c' i' k' : Nat}, (zI a c' i' k' = zI b c' i' k' ∧ zA a c' i' k' = zA b c' i' k' ∧ zL a c' i' k' = zL b c' i' k') → (zI b c' i' k' = zI c c' i' k' ∧ zA b c' i' k' = zA c c' i' k' ∧ zL b c' i' k' = zL c c' i' k') → (zI a c' i' k' = zI c c' i' k' ∧ zA a c' i' k' = zA c c' i' k' ∧ zL a c' i' k' = zL c c' i' k') := fun h g => ⟨h.1.trans g.1, h.2.1.trans g.2.1, h.2.2.trans g.2.2⟩
  refine ⟨σ2, ?_, xc.tr (w2.mo (by decide)), fun c i k h => ?_, ?_, ?_, ⟨?_, ?_, ?_, ?_⟩, w3⟩
  · unfold f_X12_init
    simp only [zlt_e]
    rw [← ha, ← hb, ← hc, w1, Option.bind_some]
  · have hn : (c, k) ∉ ([(12, 55)] : List (Nat × Nat)) := by
      simp only [List.mem_singleton, Prod.mk.injEq]
      exact fun e => h e.1
    refine tr3 ⟨w2.1 c i k hn, w2.2.2.2.1 c i k hn, w2.2.2.2.2.1 c i k hn⟩ ?_
    have e1 : zI σc c i k = zI σb c i k ∧ zA σc c i k = zA σb c i k ∧ zL σc c i k = zL σb c i k := by
      rw [hc]
      exact tr3 (oA h) (tr3 (oA h) (tr3 (oA h) (tr3 (oA h) (tr3 (oA h) (tr3 (oA h) (tr3 (oA h) (tr3 (oA h) (tr3 (oA h) (tr3 (oA h) (tr3 (oA h) (tr3 (oA h) (oA h))))))))))))
    have e2 : zI σb c i k = zI σa c i k ∧ zA σb c i k = zA σa c i k ∧ zL σb c i k = zL σa c i k := by
      rw [hb]
      exact tr3 (oA h) (tr3 (oA h) (tr3 (oA h) (tr3 (oA h) (tr3 (oA h) (tr3 (oA h) (tr3 (oA h) (tr3 (oA h) (tr3 (oA h) (tr3 (oA h) (tr3 (oA h) (tr3 (oA h) (tr3 (oA h) (tr3 (oA h) (oA h))))))))))))))
    have e3 : zI σa c i k = zI σ1 c i k ∧ zA σa c i k = zA σ1 c i k ∧ zL σa c i k = zL σ1 c i k := by
      rw [ha]
      exact tr3 (oI h) (tr3 (oA h) (tr3 (oA h) (tr3 (oA h) (tr3 (oA h) (tr3 (oA h) (tr3 (oA h) (tr3 (oA h) (tr3 (oS h) (tr3 (oS h) (tr3 (oS h) (tr3 (oS h) (tr3 (oA h) (tr3 (oA h) (tr3 (oA h) (tr3 (oA h) (tr3 (oI h) (oC h)))))))))))))))))
    exact tr3 e1 (tr3 e2 e3)
  · rw [w2.1 12 0 2 (by decide), hc, hb, ha]; rfl
  · rw [w2.1 12 0 24 (by decide), hc, hb, ha]; rfl
  · rw [w2.2.2.2.1 12 0 6 (by decide), hc, hb, ha]; rfl
  · rw [w2.2.2.2.1 12 0 6 (by decide), hc, hb, ha]; rfl
  · rw [w2.2.2.2.1 12 0 6 (by decide), hc, hb, ha]; rfl
  · rw [w2.2.2.2.1 12 0 6 (by decide), hc, hb, ha]; rfl
theorem zrow36 {g : Nat → Int64} {x : Option zM} {σ : zM} (h : (x.map fun σ => (List.range 36).map fun j => zL σ 10 0 0 j) = some ((List.range 36).map g)) (hx : x = some σ) : ∀ j, j < 36 → zL σ 10 0 0 j = g j := by
  intro j hj
  rw [hx, Option.map_some] at h
  have h2 := congrArg (fun l : List Int64 => l.getD j 0) (Option.some.inj h)
  simp only [List.getD_eq_getElem?_getD, List.getElem?_map, List.getElem?_range hj, Option.map_some, Option.getD_some] at h2
  exact h2
theorem zInit : zIni zInv := by
  obtain ⟨σ1, a1, a2, a3, a4, a5, a6, a7, a8, a9⟩ := zZ11
  obtain ⟨σ, b1, b2, b3, b4, b5, b6, b7⟩ := zZ12 a2
  have zi : ∀ c i k, (c, k) ∉ zFi → zI σ c i k = 0 := fun c i k h => b2.1 c i k h
  have za : ∀ c i k j, (c, k) ∉ zFi → zA σ c i k j = 0 := fun c i k j h => by rw [b2.2.2.2.1 c i k h]; rfl
  have zl : ∀ c i k j, (c, k) ∉ zFi → zL σ c i k j = 0 := fun c i k j h => by rw [b2.2.2.2.2.1 c i k h]; rfl
  have zo : ∀ c i k j, (c, k) ∉ zFi → zO σ c i k j = none := fun c i k j h => by rw [b2.2.2.2.2.2 c i k h]; rfl
  have ct0 : ∀ n, fb_ct (fun s => (0 : Nat).testBit s) n = 0 := fun n => fb_ct_zero.mpr (fun s _ => Nat.zero_testBit s)
  refine ⟨σ1, σ, a1, b1, ⟨?_, ?_, ?_, ?_, ?_, ?_, ?_, ?_, ?_, ?_, ?_, ?_, ?_⟩, ?_, ?_⟩
  · exact ⟨by rw [zi 11 0 10 (by decide), zi 12 0 0 (by decide)], 0, by omega, zi 12 0 0 (by decide)⟩
  · show zI σ 11 0 11 = zI σ 12 0 24
    rw [(b3 11 0 11 (by decide)).1, a3, b5]
  · refine ⟨0, by omega, zi 9 0 1 (by decide), zi 12 0 19 (by decide), fun i hi => Or.inl ⟨0, by omega, za 9 0 0 i (by decide), za 12 0 38 i (by decide)⟩⟩
  · exact ⟨0, by omega, zi 5 0 1 (by decide), zi 5 0 2 (by decide), zi 12 0 17 (by decide), fun j hj => absurd hj (Nat.not_lt_zero j)⟩
  · intro i hi
    have e8 := (b3 8 0 0 (by decide)).2.1
    rw [e8]
    have hi4 : i = 0 ∨ i = 1 ∨ i = 2 ∨ i = 3 := by omega
    rcases hi4 with rfl | rfl | rfl | rfl
    · exact ⟨4, by omega, a4.1, b6.1⟩
    · exact ⟨6, by omega, a4.2.1, b6.2.1⟩
    · exact ⟨8, by omega, a4.2.2.1, b6.2.2.1⟩
    · exact ⟨6, by omega, a4.2.2.2, b6.2.2.2⟩
  · exact ⟨0, by omega, zi 11 0 12 (by decide), zi 12 0 1 (by decide), fun s hs => absurd hs (Nat.not_lt_zero s), fun s _ _ k _ => za 12 0 3 _ (by decide)⟩
  · refine ⟨0, by decide, b2.2.1 11 0 13 (by decide), fun a b _ _ => ?_, ?_⟩
    · rw [za 12 0 14 _ (by decide), Nat.zero_testBit]
      rfl
    · rw [zi 12 0 15 (by decide), ct0]
      rfl
  · refine ⟨fun a _ => Or.inl ⟨zl 3 0 0 a (by decide), zl 12 0 42 a (by decide)⟩, ⟨0, by omega, zi 3 0 4 (by decide), zi 12 0 43 (by decide)⟩, by rw [zi 3 0 5 (by decide), zi 12 0 44 (by decide)], fun i _ => ⟨?_, ?_, ?_⟩⟩
    · rw [za 3 0 1 i (by decide), za 12 0 45 i (by decide)]
    · rw [za 3 0 2 i (by decide), za 12 0 46 i (by decide)]
    · rw [za 3 0 3 i (by decide), za 12 0 47 i (by decide)]
  · refine ⟨⟨0, by omega, zi 2 0 1 (by decide), zi 12 0 48 (by decide)⟩, fun i hi => ⟨1001, by omega, ?_, b7 i (by omega)⟩⟩
    rw [(b3 2 0 0 (by decide)).2.1]
    exact a6 i hi
  · intro j hj
    rw [(b3 10 0 0 (by decide)).2.2]
    exact zrow36 zwd36 a1 j hj
  · refine ⟨0, 0, by omega, zi 1 0 2 (by decide), zi 12 0 16 (by decide), Or.inl (b2.2.2.1 1 0 3 (by decide)), zi 12 0 18 (by decide), by omega, fun j hj => absurd hj (Nat.not_lt_zero j), fun j _ _ => zo 1 0 0 j (by decide), ?_, fun w hw => ?_, fun r h1 h2 => ?_⟩
    · rw [(b3 0 7 7 (by decide)).1]
      exact a7
    · rw [(b3 0 7 5 (by decide)).2.1]
      exact a8 w hw
    · rw [(b3 0 7 6 (by decide)).2.1]
      exact a9 r (by omega)
  · refine ⟨Or.inl ?_, 1, by omega, by omega, b4, fun s hs => ⟨0, by omega, za 12 0 10 s (by decide), fun h => by omega⟩⟩
    rw [(b3 8 0 4 (by decide)).1]
    exact a5
  · have ro : ∀ r, iRo1 σ (zI σ 12 0 1) r 0 := fun r => by
      refine ⟨by omega, fun s hs => ?_, ?_, fun j hj => ⟨0, by omega, za 6 r 2 j (by decide), za 12 0 57 _ (by decide), fun _ => rfl, fun a b _ h => by omega, fun i hi => by omega⟩⟩
      · rw [za 6 r 0 s (by decide), Nat.zero_testBit]
        rfl
      · rw [zi 6 r 6 (by decide), ct0]
        rfl
    have nb : ∀ s, ¬ ((0 : Nat).testBit s = true) := fun s h => by
      rw [Nat.zero_testBit] at h
      cases h
    exact ⟨0, 0, 0, 0, 0, 0, 0, by omega, by omega, by omega, zi 12 0 50 (by decide), zi 12 0 54 (by decide), zi 12 0 49 (by decide), zi 11 0 15 (by decide), zi 11 0 14 (by decide), ro 0, ro 1, fun s hs => absurd hs (nb s), fun s hs => hs, za 12 0 58 0 (by decide), fun _ => rfl, fun h => by omega, zi 12 0 65 (by decide), fun _ => rfl, fun h => by omega, za 12 0 58 1 (by decide), fun _ => rfl, fun _ => rfl, fun r hr => by omega, zi 11 0 16 (by decide), zi 12 0 51 (by decide), by omega, zi 11 0 17 (by decide), zi 12 0 52 (by decide), by omega, by rw [zi 11 0 18 (by decide), zi 12 0 53 (by decide)]⟩
  · unfold zSc
    rw [zi 11 0 12 (by decide)]
    rfl
  · unfold zMd
    rw [zi 1 0 2 (by decide), show zR σ 1 0 3 = none from b2.2.2.1 1 0 3 (by decide)]
    rfl
