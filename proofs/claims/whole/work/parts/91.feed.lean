/-! ===== Int32 by its bits: bt x i ===== -/
def bt (x : Int32) (i : Nat) : Bool := x.toBitVec.getLsbD i
theorem b_ext {x y : Int32} (h : ∀ i, i < 32 → bt x i = bt y i) : x = y := Int32.toBitVec_inj.mp (BitVec.eq_of_getLsbD_eq (fun i hi => h i hi))
theorem b_or (x y : Int32) (i : Nat) : bt (x ||| y) i = (bt x i || bt y i) := by unfold bt; rw [Int32.toBitVec_or, BitVec.getLsbD_or]
theorem b_and (x y : Int32) (i : Nat) : bt (x &&& y) i = (bt x i && bt y i) := by unfold bt; rw [Int32.toBitVec_and, BitVec.getLsbD_and]
theorem b_xor (x y : Int32) (i : Nat) : bt (x ^^^ y) i = (bt x i ^^ bt y i) := by unfold bt; rw [Int32.toBitVec_xor, BitVec.getLsbD_xor]
theorem b_big {x : Int32} {i : Nat} (h : 32 ≤ i) : bt x i = false := BitVec.getLsbD_of_ge _ _ h
theorem b_255 (i : Nat) : bt 255 i = decide (i < 8) := by
  rcases Nat.lt_or_ge i 32 with h | h
  · exact (by decide +kernel : ∀ i, i < 32 → bt 255 i = decide (i < 8)) i h
  · rw [b_big h, decide_eq_false (by omega)]
theorem b_65535 (i : Nat) : bt 65535 i = decide (i < 16) := by
  rcases Nat.lt_or_ge i 32 with h | h
  · exact (by decide +kernel : ∀ i, i < 32 → bt 65535 i = decide (i < 16)) i h
  · rw [b_big h, decide_eq_false (by omega)]
theorem b_m1 : ∀ i, i < 32 → bt (-1) i = true := by decide +kernel
theorem b_0 (i : Nat) : bt 0 i = false := BitVec.getLsbD_zero
theorem s_l : ∀ n, n < 32 → ((nI n &&& 31).toBitVec.smod 32).toNat = n := by decide +kernel
theorem s_u : ∀ n, n < 32 → (((nI n).toUInt32 &&& Int32.toUInt32 31).toBitVec % 32).toNat = n := by decide +kernel
theorem b_shl (n : Nat) (hn : n < 32) (x : Int32) {i : Nat} (hi : i < 32) : bt (x <<< (nI n &&& 31)) i = (decide (n ≤ i) && bt x (i - n)) := by
  unfold bt
  rw [Int32.toBitVec_shiftLeft]
  show (x.toBitVec <<< ((nI n &&& 31).toBitVec.smod 32).toNat).getLsbD i = _
  rw [s_l n hn, BitVec.getLsbD_shiftLeft]
  rcases Nat.lt_or_ge i n with h | h
  · simp [h, Nat.not_le.mpr h]
  · simp [hi, h, Nat.not_lt.mpr h]
theorem b_ushr (n : Nat) (hn : n < 32) (x : Int32) (i : Nat) : bt ((x.toUInt32 >>> ((nI n).toUInt32 &&& Int32.toUInt32 31)).toInt32) i = bt x (n + i) := by
  show (x.toUInt32 >>> ((nI n).toUInt32 &&& Int32.toUInt32 31)).toBitVec.getLsbD i = x.toUInt32.toBitVec.getLsbD (n + i)
  rw [UInt32.toBitVec_shiftRight]
  show (x.toUInt32.toBitVec >>> (((nI n).toUInt32 &&& Int32.toUInt32 31).toBitVec % 32).toNat).getLsbD i = _
  rw [s_u n hn, BitVec.getLsbD_ushiftRight]
theorem b_sshr (n : Nat) (hn : n < 32) (x : Int32) {i : Nat} (hi : i < 32) : bt (x >>> (nI n &&& 31)) i = if n + i < 32 then bt x (n + i) else bt x 31 := by
  unfold bt
  rw [Int32.toBitVec_shiftRight]
  show (x.toBitVec.sshiftRight ((nI n &&& 31).toBitVec.smod 32).toNat).getLsbD i = _
  rw [s_l n hn, BitVec.getLsbD_sshiftRight, BitVec.msb_eq_getLsbD_last]
  simp [hi]
theorem b_shl8 (x : Int32) {i : Nat} (hi : i < 32) : bt (x <<< ((8 : Int32) &&& 31)) i = (decide (8 ≤ i) && bt x (i - 8)) := b_shl 8 (by omega) x hi
theorem b_shl16 (x : Int32) {i : Nat} (hi : i < 32) : bt (x <<< ((16 : Int32) &&& 31)) i = (decide (16 ≤ i) && bt x (i - 16)) := b_shl 16 (by omega) x hi
theorem b_shl24 (x : Int32) {i : Nat} (hi : i < 32) : bt (x <<< ((24 : Int32) &&& 31)) i = (decide (24 ≤ i) && bt x (i - 24)) := b_shl 24 (by omega) x hi
theorem b_sshr8 (x : Int32) {i : Nat} (hi : i < 32) : bt (x >>> ((8 : Int32) &&& 31)) i = if 8 + i < 32 then bt x (8 + i) else bt x 31 := b_sshr 8 (by omega) x hi
/-! ===== a byte read unsigned ===== -/
theorem bp_b (x : Int32) : x.toInt8.toInt32 &&& 255 = x &&& 255 := by
  apply Int32.toBitVec_inj.mp
  rw [Int32.toBitVec_and, Int32.toBitVec_and, Int8.toBitVec_toInt32, Int32.toBitVec_toInt8]
  apply BitVec.eq_of_getLsbD_eq
  intro i hi
  rw [BitVec.getLsbD_and, BitVec.getLsbD_and]
  have hm : ∀ i < 32, 8 ≤ i → (255 : Int32).toBitVec.getLsbD i = false := by decide
  rcases Nat.lt_or_ge i 8 with z | z
  · rw [BitVec.getLsbD_signExtend, BitVec.getLsbD_signExtend, if_pos z, if_pos hi]
    simp only [z, hi, decide_true, Bool.true_and]
  · rw [hm i hi z]; simp
/-! ===== cuts of what is narrow already ===== -/
theorem fb_byte {x : Int32} (h1 : -128 ≤ x.toInt) (h2 : x.toInt < 128) : x.toInt8.toInt32 = x := by
  apply Int32.toInt_inj.1
  rw [Int8.toInt_toInt32, Int32.toInt_toInt8, Int.bmod_eq_of_le (by omega) (by omega)]
theorem fb_short {x : Int32} (h1 : -32768 ≤ x.toInt) (h2 : x.toInt < 32768) : x.toInt16.toInt32 = x := by
  apply Int32.toInt_inj.1
  rw [Int16.toInt_toInt32, Int32.toInt_toInt16, Int.bmod_eq_of_le (by omega) (by omega)]
theorem fb_byte_rng (x : Int32) : -128 ≤ x.toInt8.toInt32.toInt ∧ x.toInt8.toInt32.toInt < 128 := by
  rw [Int8.toInt_toInt32]
  have h1 := Int8.le_toInt x.toInt8
  have h2 := Int8.toInt_lt x.toInt8
  omega
theorem fb_short_rng (x : Int32) : -32768 ≤ x.toInt16.toInt32.toInt ∧ x.toInt16.toInt32.toInt < 32768 := by
  rw [Int16.toInt_toInt32]
  have h1 := Int16.le_toInt x.toInt16
  have h2 := Int16.toInt_lt x.toInt16
  omega
theorem fb_byte_twice (x : Int32) : x.toInt8.toInt32.toInt8.toInt32 = x.toInt8.toInt32 := fb_byte (fb_byte_rng x).1 (fb_byte_rng x).2
theorem fb_short_twice (x : Int32) : x.toInt16.toInt32.toInt16.toInt32 = x.toInt16.toInt32 := fb_short (fb_short_rng x).1 (fb_short_rng x).2
theorem fb_char {n : Nat} (h : n < 65536) : (nI n).toUInt32.toUInt16.toUInt32.toInt32 = nI n := by
  apply Int32.toBitVec_inj.1
  apply BitVec.eq_of_toNat_eq
  have e1 : (nI n).toBitVec.toNat = n := by
    show (BitVec.ofNat 32 n).toNat = n
    rw [BitVec.toNat_ofNat, Nat.mod_eq_of_lt (by omega)]
  have e2 : ((nI n).toUInt32.toUInt16.toUInt32).toNat = n := by
    rw [UInt16.toNat_toUInt32, UInt32.toNat_toUInt16]
    show (nI n).toBitVec.toNat % 2 ^ 16 = n
    rw [e1, Nat.mod_eq_of_lt (by omega)]
  rw [e1]
  exact e2

/-! feed -/
def zsh : Nat → Int32
  | 0 => 24
  | 1 => 16
  | 2 => 8
  | 3 => 0
  | _ => -8
def zbc (x : Int32) (i : Nat) : Int32 := zushr x (zsh i) &&& 255
def zbr (x : Int32) (i : Nat) : Int32 := vp_nar .byte ((x >>> (zsh i &&& 31)).toInt8.toInt32)
theorem zsh_n : ∀ i, i < 4 → zsh i = nI (24 - 8 * i) := by decide
theorem zsh_s : ∀ i, i < 4 → zsh i + (-8) = zsh (i + 1) ∧ ¬ zsh i < 0 := by decide
theorem zby_8 (y : Int32) : (∃ b, b < 128 ∧ y &&& 255 = nI b ∧ y.toInt8.toInt32 = nI b) ∨ ∃ b, 128 ≤ b ∧ b < 256 ∧ y &&& 255 = nI b ∧ y.toInt8.toInt32 < 0 := by
  obtain ⟨z, hz⟩ : ∃ z, z = y.toInt8.toInt32 := ⟨_, rfl⟩
  have h1 := fb_byte_rng y
  rw [← bp_b y, ← hz]
  rw [← hz] at h1
  rw [pk_and z (m := 255) 8 (by decide)]
  have hd : z.toInt = if 2 * z.toBitVec.toNat < 2 ^ 32 then (z.toBitVec.toNat : Int) else (z.toBitVec.toNat : Int) - ((2 ^ 32 : Nat) : Int) := BitVec.toInt_eq_toNat_cond _
  have hl : z.toBitVec.toNat < 2 ^ 32 := z.toBitVec.isLt
  by_cases h : z < 0
  · refine Or.inr ⟨z.toBitVec.toNat % 2 ^ 8, ?_, by omega, rfl, h⟩
    rw [fa_lt] at h
    have e0 : (0 : Int32).toInt = 0 := rfl
    rw [e0] at h
    split at hd <;> omega
  · obtain ⟨j, hj, rfl⟩ := nI_of h
    rw [nI_toInt hj] at h1
    have hj2 : (nI j).toBitVec.toNat = j := pk_tn (by omega)
    refine Or.inl ⟨j, by omega, ?_, rfl⟩
    rw [hj2, Nat.mod_eq_of_lt (by omega)]
theorem zby_x (x : Int32) {i : Nat} (hi : i < 4) : zBy (zbc x i) (zbr x i) := by
  have hn : 24 - 8 * i < 32 := by omega
  have e1 : zbc x i = (x >>> (zsh i &&& 31)) &&& 255 := by
    unfold zbc zushr
    rw [zsh_n i hi]
    apply b_ext
    intro j hj
    rw [b_and, b_and, b_255, b_ushr _ hn, b_sshr _ hn _ hj]
    by_cases h8 : j < 8
    · rw [if_pos (by omega)]
    · rw [decide_eq_false h8, Bool.and_false, Bool.and_false]
  have e2 : zbr x i = (x >>> (zsh i &&& 31)).toInt8.toInt32 := by
    unfold zbr
    rw [pk_vb]
  rw [e1, e2]
  rcases zby_8 (x >>> (zsh i &&& 31)) with ⟨b, h1, h2, h3⟩ | ⟨b, h0, h1, h2, h3⟩
  · exact Or.inl ⟨b, h1, h2, h3⟩
  · exact Or.inr ⟨b, h0, h1, h2, h3, fb_byte_twice _⟩
def zbW (g f : Nat → Int32) (n : Nat) : Nat → Nat → Int32
  | 0 => f
  | i + 1 => zu (zbW g f n i) (n + i) (g i)
def zTR (f g : Nat → Int32) : Prop := ∀ i, i < 900 → zBy (f i) (g i)
theorem zTR_W {f g : Nat → Int32} {n : Nat} (x : Int32) (h : zTR f g) : ∀ i, i ≤ 4 → zTR (zbW (zbc x) f n i) (zbW (zbr x) g n i)
  | 0, _ => h
  | i + 1, hi => fun j hj => by
    show zBy (zu (zbW (zbc x) f n i) (n + i) (zbc x i) j) (zu (zbW (zbr x) g n i) (n + i) (zbr x i) j)
    by_cases e : j = n + i
    · rw [e, zu_eq, zu_eq]
      exact zby_x x (by omega)
    · rw [zu_ne _ _ e, zu_ne _ _ e]
      exact zTR_W x h i (by omega) j hj
theorem zX9add {σ : zM} {n : Nat} (x : Int32) (h : zI σ 9 0 1 = nI n) (hn : n + 4 ≤ 900) : ∃ σ', f_X9_add σ x = some σ' ∧ zI σ' 9 0 1 = nI (n + 4) ∧ zEx [(9, 0), (9, 1)] σ σ' ∧ zA σ' 9 0 0 = zbW (zbc x) (zA σ 9 0 0) n 4 := by
  have hz : ∃ t, zwh (fun (q : (Int32 × zM)) => f_X9_add_L3 x q.1 q.2) zFu (24, σ) = some t ∧ zI t 9 0 1 = nI (n + 4) ∧ zEx [(9, 0), (9, 1)] σ t ∧ zA t 9 0 0 = zbW (zbc x) (zA σ 9 0 0) n 4 := by
    refine zwh_ex (fun (i : Nat) (q : Int32 × zM) => q.1 = zsh i ∧ zI q.2 9 0 1 = nI (n + i) ∧ zEx [(9, 0), (9, 1)] σ q.2 ∧ zA q.2 9 0 0 = zbW (zbc x) (zA σ 9 0 0) n i) _ 4 ⟨rfl, h, zEx.rf, rfl⟩ (fun i q hi hq => ?_) (fun q hq => ?_) (by omega)
    · obtain ⟨q1, q2⟩ := q
      obtain ⟨h1, h2, h3, h4⟩ := hq
      simp only at h1 h2 h3 h4
      subst h1
      obtain ⟨s1, s2⟩ := zsh_s i hi
      refine Or.inl ⟨(zsh (i + 1), zsI (zsA q2 9 0 0 (n + i) (zbc x i)) 9 0 1 (nI (n + (i + 1)))), ?_, rfl, rfl, h3.tr ((zEx_sA (by decide)).tr (zEx_sI (by decide))), ?_⟩
      · show f_X9_add_L3 x (zsh i) q2 = _
        unfold f_X9_add_L3 f_X9_add_B52_3
        rw [if_neg s2, h2, if_neg (zlt0 (by omega)), if_neg (by rw [zq900, nI_leI (by omega) (by omega)]; omega), zix_n (by omega) (by omega), Option.bind_some]
        simp only [zlt_e]
        rw [show zI (zsA q2 9 0 0 (n + i) (zushr x (zsh i) &&& 255)) 9 0 1 = nI (n + i) from h2, nI_1, s1]
        rfl
      · show zu (zA q2 9 0 0) (n + i) (zbc x i) = _
        rw [h4]
        rfl
    · obtain ⟨q1, q2⟩ := q
      obtain ⟨h1, h2, h3, h4⟩ := hq
      simp only at h1 h2 h3 h4
      subst h1
      refine ⟨q2, ?_, h2, h3, h4⟩
      show f_X9_add_L3 x (zsh 4) q2 = _
      unfold f_X9_add_L3
      rw [if_pos (by decide)]
  obtain ⟨t, h1, h2, h3, h4⟩ := hz
  refine ⟨t, ?_, h2, h3, h4⟩
  unfold f_X9_add
  rw [h1, Option.bind_some]
theorem zX12four {σ : zM} {n : Nat} (x : Int32) (h : zI σ 12 0 19 = nI n) (hn : n + 4 ≤ 900) : ∃ σ', f_X12_four σ x = some σ' ∧ zI σ' 12 0 19 = nI (n + 4) ∧ zEx [(12, 38), (12, 19)] σ σ' ∧ zA σ' 12 0 38 = zbW (zbr x) (zA σ 12 0 38) n 4 := by
  have hz : ∃ t, zwh (fun (q : (Int32 × zM)) => f_X12_four_L3 x q.1 q.2) zFu (24, σ) = some t ∧ zI t 12 0 19 = nI (n + 4) ∧ zEx [(12, 38), (12, 19)] σ t ∧ zA t 12 0 38 = zbW (zbr x) (zA σ 12 0 38) n 4 := by
    refine zwh_ex (fun (i : Nat) (q : Int32 × zM) => q.1 = zsh i ∧ zI q.2 12 0 19 = nI (n + i) ∧ zEx [(12, 38), (12, 19)] σ q.2 ∧ zA q.2 12 0 38 = zbW (zbr x) (zA σ 12 0 38) n i) _ 4 ⟨rfl, h, zEx.rf, rfl⟩ (fun i q hi hq => ?_) (fun q hq => ?_) (by omega)
    · obtain ⟨q1, q2⟩ := q
      obtain ⟨h1, h2, h3, h4⟩ := hq
      simp only at h1 h2 h3 h4
      subst h1
      obtain ⟨s1, s2⟩ := zsh_s i hi
      refine Or.inl ⟨(zsh (i + 1), zsI (zsA q2 12 0 38 (n + i) (zbr x i)) 12 0 19 (nI (n + (i + 1)))), ?_, rfl, rfl, h3.tr ((zEx_sA (by decide)).tr (zEx_sI (by decide))), ?_⟩
      · show f_X12_four_L3 x (zsh i) q2 = _
        unfold f_X12_four_L3
        rw [if_neg s2, h2, zix_n (by omega) (by omega), Option.bind_some]
        simp only [zlt_e]
        rw [show zI (zsA q2 12 0 38 (n + i) (vp_nar .byte ((x >>> (zsh i &&& 31)).toInt8.toInt32))) 12 0 19 = nI (n + i) from h2, nI_1, s1]
        rfl
      · show zu (zA q2 12 0 38) (n + i) (zbr x i) = _
        rw [h4]
        rfl
    · obtain ⟨q1, q2⟩ := q
      obtain ⟨h1, h2, h3, h4⟩ := hq
      simp only at h1 h2 h3 h4
      subst h1
      refine ⟨q2, ?_, h2, h3, h4⟩
      show f_X12_four_L3 x (zsh 4) q2 = _
      unfold f_X12_four_L3
      rw [if_pos (by decide)]
  obtain ⟨t, h1, h2, h3, h4⟩ := hz
  refine ⟨t, ?_, h2, h3, h4⟩
  unfold f_X12_four
  rw [h1, Option.bind_some]
theorem zTR_5 {f g f1 g1 f2 g2 f3 g3 f4 g4 f5 g5 : Nat → Int32} {n1 n2 n3 n4 n5 : Nat} {x1 x2 x3 x4 x5 : Int32} (h : zTR f g) (a1 : f1 = zbW (zbc x1) f n1 4) (b1 : g1 = zbW (zbr x1) g n1 4) (a2 : f2 = zbW (zbc x2) f1 n2 4) (b2 : g2 = zbW (zbr x2) g1 n2 4) (a3 : f3 = zbW (zbc x3) f2 n3 4) (b3 : g3 = zbW (zbr x3) g2 n3 4) (a4 : f4 = zbW (zbc x4) f3 n4 4) (b4 : g4 = zbW (zbr x4) g3 n4 4) (a5 : f5 = zbW (zbc x5) f4 n5 4) (b5 : g5 = zbW (zbr x5) g4 n5 4) : zTR f5 g5 := by
  subst a1 b1 a2 b2 a3 b3 a4 b4 a5 b5
  exact zTR_W x5 (zTR_W x4 (zTR_W x3 (zTR_W x2 (zTR_W x1 h 4 (Nat.le_refl 4)) 4 (Nat.le_refl 4)) 4 (Nat.le_refl 4)) 4 (Nat.le_refl 4)) 4 (Nat.le_refl 4)
theorem ob_feed (x1 x2 x3 x4 x5 : Int32) : zOb zInv (fun σ => f_X11_feed σ x1 x2 x3 x4 x5) (fun σ => f_X12_feed σ x1 x2 x3 x4 x5) := by
  intro n σ hn hI
  have hI0 := hI
  obtain ⟨hDay, hFlt, hTap, hNam, hSun, hSch, hPai, hQue, hPan, hWds, hBri, hMen, hRnd⟩ := hI
  obtain ⟨k, k1, k2, k3, k4⟩ := hTap
  by_cases hk : k + 20 ≤ 900
  · obtain ⟨τ1, t1, u1, v1, w1⟩ := zX9add x1 k2 (by omega)
    obtain ⟨τ2, t2, u2, v2, w2⟩ := zX9add x2 u1 (by omega)
    obtain ⟨τ3, t3, u3, v3, w3⟩ := zX9add x3 u2 (by omega)
    obtain ⟨τ4, t4, u4, v4, w4⟩ := zX9add x4 u3 (by omega)
    obtain ⟨τ5, t5, u5, v5, w5⟩ := zX9add x5 u4 (by omega)
    have vv := (((v1.tr v2).tr v3).tr v4).tr v5
    have g0 : zI τ5 12 0 19 = nI k := (vv.1 12 0 19 (by decide)).trans k3
    have f0 : zA τ5 12 0 38 = zA σ 12 0 38 := vv.2.2.2.1 12 0 38 (by decide)
    obtain ⟨ρ1, p1, q1, r1, s1⟩ := zX12four x1 g0 (by omega)
    obtain ⟨ρ2, p2, q2, r2, s2⟩ := zX12four x2 q1 (by omega)
    obtain ⟨ρ3, p3, q3, r3, s3⟩ := zX12four x3 q2 (by omega)
    obtain ⟨ρ4, p4, q4, r4, s4⟩ := zX12four x4 q3 (by omega)
    obtain ⟨ρ5, p5, q5, r5, s5⟩ := zX12four x5 q4 (by omega)
    have rr := (((r1.tr r2).tr r3).tr r4).tr r5
    have hEx : zEx [(9, 0), (9, 1), (12, 38), (12, 19)] σ ρ5 := (vv.mo (by decide)).tr (rr.mo (by decide))
    refine ⟨nI (k + 4 + 4 + 4 + 4 + 4), τ5, ρ5, ?_, ?_, ⟨iDay_fr hEx (by decide) hDay, iFlt_fr hEx (by decide) hFlt, ?_, iNam_fr hEx (by decide) hNam, iSun_fr hEx (by decide) hSun, iSch_fr hEx (by decide) hSch, iPai_fr hEx (by decide) hPai, iQue_fr hEx (by decide) hQue, iPan_fr hEx (by decide) hPan, iWds_fr hEx (by decide) hWds, iBri_fr hEx (by decide) hBri, iMen_mo (iMen_fr hEx (by decide) hMen), iRnd_fr hEx (by decide) hRnd⟩, ?_, ?_⟩
    · show f_X11_feed σ x1 x2 x3 x4 x5 = _
      unfold f_X11_feed f_X9_hasRoomFor
      rw [k2, zq20, nI_add, if_neg (show ¬ (900 : Int32) < nI (k + 20) by rw [zq900, nI_ltI (by omega) (by omega)]; omega), if_neg z10, t1, Option.bind_some, t2, Option.bind_some, t3, Option.bind_some, t4, Option.bind_some, t5, Option.bind_some, u5]
    · show f_X12_feed τ5 x1 x2 x3 x4 x5 = _
      unfold f_X12_feed
      rw [g0, zq20, nI_add, if_pos (show nI (k + 20) ≤ 900 by rw [zq900, nI_leI (by omega) (by omega)]; omega), p1, Option.bind_some, p2, Option.bind_some, p3, Option.bind_some, p4, Option.bind_some, p5, Option.bind_some, q5]
    · refine ⟨k + 4 + 4 + 4 + 4 + 4, by omega, (rr.1 9 0 1 (by decide)).trans u5, q5, ?_⟩
      rw [rr.2.2.2.1 9 0 0 (by decide)]
      rw [f0] at s1
      exact zTR_5 (f := zA σ 9 0 0) (g := zA σ 12 0 38) k4 w1 s1 w2 s2 w3 s3 w4 s4 w5 s5
    · show (zI ρ5 11 0 12).toNatClampNeg = (zI σ 11 0 12).toNatClampNeg
      rw [hEx.1 11 0 12 (by decide)]
    · show (zI ρ5 1 0 2).toNatClampNeg + (if zR ρ5 1 0 3 = none then 0 else 1) = zMd σ
      rw [hEx.1 1 0 2 (by decide), hEx.2.2.1 1 0 3 (by decide)]
      rfl
  · refine ⟨-1, σ, σ, ?_, ?_, zMono n σ hI0, rfl, rfl⟩
    · show f_X11_feed σ x1 x2 x3 x4 x5 = _
      unfold f_X11_feed f_X9_hasRoomFor
      rw [k2, zq20, nI_add, if_pos (show (900 : Int32) < nI (k + 20) by rw [zq900, nI_ltI (by omega) (by omega)]; omega), if_pos rfl]
    · show f_X12_feed σ x1 x2 x3 x4 x5 = _
      unfold f_X12_feed
      rw [k3, zq20, nI_add, if_neg (show ¬ nI (k + 20) ≤ 900 by rw [zq900, nI_leI (by omega) (by omega)]; omega)]
