/-! statements: which one it is -/
def zBrn (R : Int32) (k : Nat) (σ : zM) : Option (Int32 × zM) := match k with
  | 0 => (f_X12_rooms σ R).bind fun q => some (q.1, q.2)
  | 1 => (f_X12_pairs σ R 12 131294808271214).bind fun q => some (q.1, q.2)
  | 2 => (f_X12_pairs σ R 13 25209).bind fun q => some (q.1, q.2)
  | 3 => (f_X12_rates σ R).bind fun q => some (q.1, q.2)
  | 4 => (f_X12_plain σ R 0 0 9999).bind fun q => some (q.1, q.2)
  | 5 => (f_X12_plain σ R 1 0 9999).bind fun q => some (q.1, q.2)
  | 6 => (f_X12_plain σ R 2 0 9999).bind fun q => some (q.1, q.2)
  | 7 => (f_X12_costs σ R).bind fun q => some (q.1, q.2)
  | 8 => (f_X12_outs σ R).bind fun q => some (q.1, q.2)
  | 9 => (f_X12_plain σ R 4 0 999999).bind fun q => some (q.1, q.2)
  | 10 => (f_X12_plain σ R 5 1 10).bind fun q => some (q.1, q.2)
  | 11 => (f_X12_votes σ R).bind fun q => some (q.1, q.2)
  | 12 => (f_X12_ties σ R).bind fun q => some (q.1, q.2)
  | _ => (f_X12_fees σ R).bind fun q43 => if q43.1 = 0 then (some (0, q43.2)) else (some (1, q43.2))
def zRdk (R : Int32) : Nat → Nat → zM → Option (Int32 × zM)
  | 0, _, σ => some (0, σ)
  | d + 1, k, σ => (f_X12_takes σ (zW8t k)).bind fun q => if q.1 = 0 then zRdk R d (k + 1) q.2 else zBrn R k q.2
theorem zRdk_e (σ : zM) (R : Int32) : f_X12_reads σ R = zRdk R 14 0 σ := by
  unfold f_X12_reads
  simp only [zRdk, z8_0, z8_1, z8_2, z8_3, z8_4, z8_5, z8_6, z8_7, z8_8, z8_9, z8_10, z8_11, z8_12, z8_13]
  rfl
theorem zJ_reads {σ : zM} {T : Nat → Nat} {n N i : Nat} {W : Nat → List Nat} {k0 pd t : Nat} {R : Int32} (h : zPC σ T n N i W k0 pd t) : ∀ d k σ', d + k = 14 → (∀ c, c < k → zKw T n N i ≠ nI c) → zPR σ' T n i W (k0 + pd) t → (d = 0 → zPX σ' T n i W (k0 + pd) t) → ∃ σr, zEx [(12, 21), (12, 40)] σ' σr ∧ ((∃ c, c < 14 ∧ zKw T n N i = nI c ∧ i < N ∧ zPR σr T n (i + 1) W (k0 + pd) t ∧ zTs T n i + (zLq c).length ≤ zTs T n (i + 1) ∧ zRdk R d k σ' = zBrn R c σr) ∨ ((∀ c, c < 14 → zKw T n N i ≠ nI c) ∧ zPX σr T n i W (k0 + pd) t ∧ zRdk R d k σ' = some (0, σr)))
  | 0, k, σ', hk, hno, _, hx => ⟨σ', zEx.rf, Or.inr ⟨fun c hc => hno c (by omega), hx rfl, rfl⟩⟩
  | d + 1, k, σ', hk, hno, h', _ => by
    obtain ⟨σb, w1, w2⟩ := zJ_w (c := k) (by omega) h h'
    have e : zRdk R (d + 1) k σ' = (f_X12_takes σ' (zW8t k)).bind fun q => if q.1 = 0 then zRdk R d (k + 1) q.2 else zBrn R k q.2 := rfl
    rw [e]
    rcases w2 with ⟨g1, g2, g3, g4, g5, g6, g7⟩ | ⟨g1, g3, g4, g5, g6⟩
    · refine ⟨σb, w1, Or.inl ⟨k, by omega, (zKw_c (by omega)).mpr g1, g2, g6, g7, ?_⟩⟩
      rw [g4, Option.bind_some]
      show (if (1 : Int32) = 0 then _ else zBrn R k σb) = _
      rw [if_neg z10]
    · have hno' : ∀ c, c < k + 1 → zKw T n N i ≠ nI c := fun c hc => by
        by_cases ec : c = k
        · rw [ec]
          intro h2
          rw [(zKw_c (by omega)).mp h2] at g1
          cases g1
        · exact hno c (by omega)
      obtain ⟨σr, x1, x2⟩ := zJ_reads h d (k + 1) σb (by omega) hno' (zPX_R g6) (fun _ => g6)
      refine ⟨σr, w1.tr x1, ?_⟩
      have e2 : ((f_X12_takes σ' (zW8t k)).bind fun q => if q.1 = 0 then zRdk R d (k + 1) q.2 else zBrn R k q.2) = zRdk R d (k + 1) σb := by
        rw [g4, Option.bind_some]
        show (if (0 : Int32) = 0 then _ else _) = _
        rw [if_pos rfl]
      rw [e2]
      exact x2
