/-! doubles as whole numbers of the least double: bounds that rounding keeps -/
abbrev fp_Z (a : UInt64) : Int := FP.Core.zval FP.Core.b64 (FP.Core.val64 a)
abbrev fp_F (a : UInt64) : Prop := FP.Core.DFin a
/-- one, in these units -/
abbrev fp_o : Int := (FP.Core.one64 : Int)
def fp_top : Nat := 2 ^ 2098
theorem fp_top_eq : FP.Core.b64.tails * 2 ^ (FP.Core.b64.exps - 2) = fp_top := by decide +kernel
theorem fp_n {a : UInt64} (h : fp_F a) : vf_n64 a := by
  have h1 := (FP.Core.ne_nan a).mp (FP.Core.DFin.ne_nan h)
  unfold vf_n64
  rw [UInt64.le_iff_toNat_le, FP.Core.mask_toNat]
  exact Nat.le_trans h1 (by decide)
theorem fp_zabs (d : FP.Core.Datum) : (FP.Core.zval FP.Core.b64 d).natAbs = FP.Core.zmag FP.Core.b64 d := FP.Core.natAbs_signed _ _
theorem fp_fin {a : UInt64} (hn : FP.Core.val64 a ≠ .nan) {U : Int} (h1 : -U ≤ fp_Z a) (h2 : fp_Z a ≤ U) (hU : U < (fp_top : Int)) : fp_F a := by
  have h3 : FP.Core.zmag FP.Core.b64 (FP.Core.val64 a) < fp_top := by
    have := fp_zabs (FP.Core.val64 a)
    unfold fp_Z at h1 h2
    omega
  show ∃ s c q, FP.Core.val64 a = .fin s c q
  cases hd : FP.Core.val64 a with
  | nan => exact absurd hd hn
  | inf s =>
    rw [hd] at h3
    have h4 : FP.Core.zmag FP.Core.b64 (.inf s) = fp_top := fp_top_eq
    omega
  | fin s c q => exact ⟨s, c, q, rfl⟩
/-- T is a number of the format, and finite -/
def fp_R (T : Int) : Prop := ∃ V : FP.Core.Datum, FP.Core.fits FP.Core.b64 V ∧ V ≠ .nan ∧ FP.Core.zval FP.Core.b64 V = T ∧ T.natAbs < fp_top
theorem fp_R_neg {T : Int} (h : fp_R T) : fp_R (-T) := by
  obtain ⟨V, h1, h2, h3, h4⟩ := h
  exact ⟨FP.Core.negate V, FP.Core.negate_fits h1, FP.Core.negate_ne_nan h2, by rw [FP.Core.zval_negate, h3], by omega⟩
theorem fp_R_of {a : UInt64} (h : fp_F a) : fp_R (fp_Z a) := by
  refine ⟨FP.Core.val64 a, FP.Core.val64_fits a, FP.Core.DFin.ne_nan h, rfl, ?_⟩
  have h1 := FP.Core.DFin.zval_lt h
  have h2 := fp_zabs (FP.Core.val64 a)
  rw [fp_top_eq] at h1
  unfold fp_Z
  omega
theorem fp_pow_top {N j : Nat} (hN : N < 2 ^ 53) (hj : j ≤ 2045) : N * 2 ^ j < fp_top := by
  have h1 : N * 2 ^ j < 2 ^ 53 * 2 ^ j := Nat.mul_lt_mul_of_pos_right hN (Nat.two_pow_pos _)
  have h2 : 2 ^ 53 * 2 ^ j ≤ 2 ^ 53 * 2 ^ 2045 := Nat.mul_le_mul_left _ (Nat.pow_le_pow_right (by decide) hj)
  have h3 : 2 ^ 53 * 2 ^ 2045 = fp_top := by decide +kernel
  exact Nat.lt_of_lt_of_le h1 (Nat.le_trans h2 (Nat.le_of_eq h3))
theorem fp_qmax : FP.Core.b64.qmax = 971 := by decide
theorem fp_R_nat (N j : Nat) (hN : N < 2 ^ 53) (hj : j ≤ 2045) : fp_R ((N * 2 ^ j : Nat) : Int) := by
  obtain ⟨c, q, h1, h2⟩ := FP.Core.round_exact FP.Core.good_b64 false (c := N) (q := FP.Core.b64.qmin + (j : Int)) hN (by omega) (by rw [FP.Core.qmin_b64, fp_qmax]; omega)
  have hf := FP.Core.round_fits FP.Core.good_b64 (.fin false N (FP.Core.b64.qmin + (j : Int)))
  rw [h1] at hf
  refine ⟨.fin false c q, hf, (fun h => by cases h), ?_, ?_⟩
  · show ((FP.Core.inUnits c q FP.Core.b64.qmin : Nat) : Int) = _
    rw [h2]
    unfold FP.Core.inUnits
    rw [show (FP.Core.b64.qmin + (j : Int) - FP.Core.b64.qmin).toNat = j by omega]
  · rw [Int.natAbs_natCast]
    exact fp_pow_top hN hj
/-- a program decides it -/
def fp_isR (T : Int) : Bool := decide (T.natAbs < 2 ^ 53) || (decide (T.natAbs % 2 ^ (T.natAbs.log2 - 52) = 0) && decide (T.natAbs.log2 ≤ 2097))
theorem fp_R_abs {T : Int} (h : fp_R (T.natAbs : Int)) : fp_R T := by
  rcases Int.natAbs_eq T with e | e
  · rw [e]; exact h
  · rw [e]; exact fp_R_neg h
theorem fp_R_dec {T : Int} (h : fp_isR T = true) : fp_R T := by
  refine fp_R_abs ?_
  unfold fp_isR at h
  rw [Bool.or_eq_true, Bool.and_eq_true, decide_eq_true_eq, decide_eq_true_eq, decide_eq_true_eq] at h
  by_cases hs : T.natAbs < 2 ^ 53
  · have := fp_R_nat T.natAbs 0 hs (by decide)
    rwa [Nat.pow_zero, Nat.mul_one] at this
  · rcases h with h | ⟨h1, h2⟩
    · exact absurd h hs
    · have hlt : T.natAbs < 2 ^ (T.natAbs.log2 + 1) := Nat.lt_log2_self
      have hdv : T.natAbs / 2 ^ (T.natAbs.log2 - 52) * 2 ^ (T.natAbs.log2 - 52) = T.natAbs := Nat.div_mul_cancel (Nat.dvd_of_mod_eq_zero h1)
      have hN : T.natAbs / 2 ^ (T.natAbs.log2 - 52) < 2 ^ 53 := by
        refine (Nat.div_lt_iff_lt_mul (Nat.two_pow_pos _)).mpr ?_
        rw [← Nat.pow_add]
        exact Nat.lt_of_lt_of_le hlt (Nat.pow_le_pow_right (by decide) (by omega))
      have := fp_R_nat _ (T.natAbs.log2 - 52) hN (by omega)
      rwa [hdv] at this
/-- rounding is monotone: of quotients, with signs -/
theorem fp_rr_le {s : Bool} {A B : Nat} {e e0 T : Int} (hB : 0 < B) (hT : fp_R T) (h0 : e0 ≤ FP.Core.b64.qmin) (h0e : e0 ≤ e)
    (h : FP.Core.signed s (FP.Core.inUnits A e e0) ≤ T * ((2 ^ (FP.Core.b64.qmin - e0).toNat * B : Nat) : Int)) : FP.Core.zval FP.Core.b64 (FP.Core.roundRatio FP.Core.b64 s A B e) ≤ T := by
  obtain ⟨V, hV, hn, rfl, -⟩ := hT
  have hle := FP.Core.zmag_roundRatio_le FP.Core.good_b64 (s := s) (A := A) (B := B) (e := e) (e0 := e0) hB hV hn h0 h0e
  have hge := FP.Core.zmag_roundRatio_ge FP.Core.good_b64 (s := s) (A := A) (B := B) (e := e) (e0 := e0) hB hV h0 h0e
  rw [Nat.mul_assoc] at hle hge
  have hP : 0 < 2 ^ (FP.Core.b64.qmin - e0).toNat * B := Nat.mul_pos (Nat.two_pow_pos _) hB
  unfold FP.Core.zval at h ⊢
  rw [FP.Core.sgn_roundRatio]
  rw [← FP.Core.signed_mul] at h
  have hz : FP.Core.zmag FP.Core.b64 V * (2 ^ (FP.Core.b64.qmin - e0).toNat * B) = 0 → FP.Core.zmag FP.Core.b64 V = 0 := fun h => by
    rcases Nat.mul_eq_zero.mp h with h | h <;> omega
  generalize FP.Core.zmag FP.Core.b64 V * (2 ^ (FP.Core.b64.qmin - e0).toNat * B) = vP at *
  generalize FP.Core.zmag FP.Core.b64 V = v at *
  generalize FP.Core.zmag FP.Core.b64 (FP.Core.roundRatio FP.Core.b64 s A B e) = r at *
  generalize FP.Core.inUnits A e e0 = u at *
  generalize FP.Core.sgn V = t at *
  cases s <;> cases t <;> simp only [FP.Core.signed, if_true, Bool.false_eq_true, if_false] at h ⊢
  · have := hle (by omega); omega
  · have := hle (by omega); have := hz (by omega); omega
  · omega
  · have := hge (by omega); omega
theorem fp_zneg_rr (s : Bool) (A B : Nat) (e : Int) : FP.Core.zval FP.Core.b64 (FP.Core.roundRatio FP.Core.b64 (!s) A B e) = -FP.Core.zval FP.Core.b64 (FP.Core.roundRatio FP.Core.b64 s A B e) := by
  rw [← FP.Core.zval_negate, FP.Core.negate_roundRatio]
theorem fp_sneg (s : Bool) (n : Nat) : FP.Core.signed (!s) n = -FP.Core.signed s n := FP.Core.signed_not s n
theorem fp_rr_ge {s : Bool} {A B : Nat} {e e0 T : Int} (hB : 0 < B) (hT : fp_R T) (h0 : e0 ≤ FP.Core.b64.qmin) (h0e : e0 ≤ e)
    (h : T * ((2 ^ (FP.Core.b64.qmin - e0).toNat * B : Nat) : Int) ≤ FP.Core.signed s (FP.Core.inUnits A e e0)) : T ≤ FP.Core.zval FP.Core.b64 (FP.Core.roundRatio FP.Core.b64 s A B e) := by
  have h1 := fp_rr_le (s := !s) (A := A) (B := B) (e := e) hB (fp_R_neg hT) h0 h0e (by rw [fp_sneg, Int.neg_mul]; omega)
  rw [fp_zneg_rr] at h1
  omega
/-- the exact results -/
theorem fp_add_rr {a b : UInt64} (ha : fp_F a) (hb : fp_F b) : ∃ sg n e, FP.Core.val64 (FP.dadd a b) = FP.Core.roundRatio FP.Core.b64 sg n 1 e ∧ FP.Core.b64.qmin ≤ e ∧ FP.Core.signed sg (FP.Core.inUnits n e FP.Core.b64.qmin) = fp_Z a + fp_Z b := by
  have fa := FP.Core.val64_fits a
  have fb := FP.Core.val64_fits b
  have hv := FP.Core.val64_dadd a b
  obtain ⟨s, c, q, h1⟩ := ha
  obtain ⟨t, d, r, h2⟩ := hb
  rw [h1] at fa hv
  rw [h2] at fb hv
  obtain ⟨sg, n, e, h3, h4, h5⟩ := FP.Core.sum_units fa fb
  rw [h3] at hv
  exact ⟨sg, n, e, hv, h4, by unfold fp_Z; rw [h1, h2]; exact h5⟩
theorem fp_sub_rr {a b : UInt64} (ha : fp_F a) (hb : fp_F b) : ∃ sg n e, FP.Core.val64 (FP.dsub a b) = FP.Core.roundRatio FP.Core.b64 sg n 1 e ∧ FP.Core.b64.qmin ≤ e ∧ FP.Core.signed sg (FP.Core.inUnits n e FP.Core.b64.qmin) = fp_Z a - fp_Z b := by
  have fa := FP.Core.val64_fits a
  have fb := FP.Core.negate_fits (FP.Core.val64_fits b)
  have hv := FP.Core.val64_dsub a b
  have hz : FP.Core.zval FP.Core.b64 (FP.Core.negate (FP.Core.val64 b)) = -fp_Z b := FP.Core.zval_negate _ _
  obtain ⟨s, c, q, h1⟩ := ha
  obtain ⟨t, d, r, h2⟩ := hb
  have h2' : FP.Core.negate (FP.Core.val64 b) = .fin (!t) d r := by rw [h2]; rfl
  rw [h1] at fa hv
  rw [h2'] at fb hv hz
  obtain ⟨sg, n, e, h3, h4, h5⟩ := FP.Core.sum_units fa fb
  rw [h3] at hv
  refine ⟨sg, n, e, hv, h4, ?_⟩
  rw [h5, hz]
  unfold fp_Z
  rw [h1]
  omega
theorem fp_szv (d : FP.Core.Datum) : FP.Core.signed (FP.Core.sgn d) (FP.Core.zmag FP.Core.b64 d) = FP.Core.zval FP.Core.b64 d := rfl
theorem fp_smul (s t : Bool) (m n : Nat) : FP.Core.signed (s != t) (m * n) = FP.Core.signed s m * FP.Core.signed t n := by
  cases s <;> cases t <;> simp [FP.Core.signed, Int.mul_neg, Int.neg_mul]
theorem fp_mul_rr {a b : UInt64} (ha : fp_F a) (hb : fp_F b) : ∃ sg n e, FP.Core.val64 (FP.dmul a b) = FP.Core.roundRatio FP.Core.b64 sg n 1 e ∧ 2 * FP.Core.b64.qmin ≤ e ∧ FP.Core.signed sg (FP.Core.inUnits n e (2 * FP.Core.b64.qmin)) = fp_Z a * fp_Z b := by
  have fa := FP.Core.val64_fits a
  have fb := FP.Core.val64_fits b
  have hv := FP.Core.val64_dmul a b
  obtain ⟨s, c, q, h1⟩ := ha
  obtain ⟨t, d, r, h2⟩ := hb
  rw [h1] at fa hv
  rw [h2] at fb hv
  obtain ⟨h3, h4, h5⟩ := FP.Core.product_units fa fb
  rw [h3] at hv
  refine ⟨_, _, _, hv, h4, ?_⟩
  rw [h5, fp_smul]
  unfold fp_Z
  rw [h1, h2]
  rfl
theorem fp_pq : 2 ^ (FP.Core.b64.qmin - 2 * FP.Core.b64.qmin).toNat * 1 = FP.Core.one64 := by
  rw [Nat.mul_one, show FP.Core.b64.qmin - 2 * FP.Core.b64.qmin = -FP.Core.b64.qmin by omega]
  exact FP.Core.pow_qmin64
theorem fp_div_rr {a b : UInt64} (ha : fp_F a) (hb : fp_F b) (hz : fp_Z b ≠ 0) : ∃ sg A B e e0, FP.Core.val64 (FP.ddiv a b) = FP.Core.roundRatio FP.Core.b64 sg A B e ∧ 0 < B ∧ e0 ≤ FP.Core.b64.qmin ∧ e0 ≤ e ∧
    FP.Core.inUnits A e e0 = FP.Core.zmag FP.Core.b64 (FP.Core.val64 a) * FP.Core.one64 ∧ 2 ^ (FP.Core.b64.qmin - e0).toNat * B = FP.Core.zmag FP.Core.b64 (FP.Core.val64 b) ∧ sg = (FP.Core.sgn (FP.Core.val64 a) != FP.Core.sgn (FP.Core.val64 b)) := by
  have fa := FP.Core.val64_fits a
  have fb := FP.Core.val64_fits b
  have hv := FP.Core.val64_ddiv a b
  unfold fp_Z at hz
  obtain ⟨s, c, q, h1⟩ := ha
  obtain ⟨t, d, r, h2⟩ := hb
  rw [h1] at fa hv ⊢
  rw [h2] at fb hv hz ⊢
  have hd : d ≠ 0 := fun h => hz (by rw [h]; show FP.Core.signed t (FP.Core.inUnits 0 r FP.Core.b64.qmin) = 0; unfold FP.Core.inUnits; rw [Nat.zero_mul]; exact FP.Core.signed_zero t)
  have hq : FP.Core.quotient FP.Core.b64 (.fin s c q) (.fin t d r) = FP.Core.roundRatio FP.Core.b64 (s != t) c d (q - r) := by
    show (if d = 0 then _ else _) = _
    rw [if_neg hd]
  rw [hq] at hv
  have q1 := fa.2.1
  have r1 := fb.2.1
  refine ⟨_, c, d, q - r, 2 * FP.Core.b64.qmin - r, hv, by omega, by have := FP.Core.qmin_b64; omega, by have := FP.Core.qmin_b64; omega, ?_, ?_, rfl⟩
  · show FP.Core.inUnits c (q - r) (2 * FP.Core.b64.qmin - r) = FP.Core.inUnits c q FP.Core.b64.qmin * FP.Core.one64
    rw [← FP.Core.pow_qmin64]
    unfold FP.Core.inUnits
    rw [show (q - r - (2 * FP.Core.b64.qmin - r)).toNat = (q - FP.Core.b64.qmin).toNat + (-FP.Core.b64.qmin).toNat by have := FP.Core.qmin_b64; omega, Nat.pow_add, Nat.mul_assoc]
  · show _ = FP.Core.inUnits d r FP.Core.b64.qmin
    unfold FP.Core.inUnits
    rw [show (FP.Core.b64.qmin - (2 * FP.Core.b64.qmin - r)).toNat = (r - FP.Core.b64.qmin).toNat by omega, Nat.mul_comm]
/-- monotone, an operation each -/
theorem fp_p0 : ((2 ^ (FP.Core.b64.qmin - FP.Core.b64.qmin).toNat * 1 : Nat) : Int) = 1 := by rw [Int.sub_self]; rfl
theorem fp_add_le {a b : UInt64} (ha : fp_F a) (hb : fp_F b) {T : Int} (hT : fp_R T) (h : fp_Z a + fp_Z b ≤ T) : fp_Z (FP.dadd a b) ≤ T := by
  obtain ⟨sg, n, e, h1, h2, h3⟩ := fp_add_rr ha hb
  unfold fp_Z; rw [h1]
  exact fp_rr_le (by decide) hT (Int.le_refl _) h2 (by rw [h3, fp_p0, Int.mul_one]; exact h)
theorem fp_add_ge {a b : UInt64} (ha : fp_F a) (hb : fp_F b) {T : Int} (hT : fp_R T) (h : T ≤ fp_Z a + fp_Z b) : T ≤ fp_Z (FP.dadd a b) := by
  obtain ⟨sg, n, e, h1, h2, h3⟩ := fp_add_rr ha hb
  unfold fp_Z; rw [h1]
  exact fp_rr_ge (by decide) hT (Int.le_refl _) h2 (by rw [h3, fp_p0, Int.mul_one]; exact h)
theorem fp_sub_le {a b : UInt64} (ha : fp_F a) (hb : fp_F b) {T : Int} (hT : fp_R T) (h : fp_Z a - fp_Z b ≤ T) : fp_Z (FP.dsub a b) ≤ T := by
  obtain ⟨sg, n, e, h1, h2, h3⟩ := fp_sub_rr ha hb
  unfold fp_Z; rw [h1]
  exact fp_rr_le (by decide) hT (Int.le_refl _) h2 (by rw [h3, fp_p0, Int.mul_one]; exact h)
theorem fp_sub_ge {a b : UInt64} (ha : fp_F a) (hb : fp_F b) {T : Int} (hT : fp_R T) (h : T ≤ fp_Z a - fp_Z b) : T ≤ fp_Z (FP.dsub a b) := by
  obtain ⟨sg, n, e, h1, h2, h3⟩ := fp_sub_rr ha hb
  unfold fp_Z; rw [h1]
  exact fp_rr_ge (by decide) hT (Int.le_refl _) h2 (by rw [h3, fp_p0, Int.mul_one]; exact h)
theorem fp_mul_le {a b : UInt64} (ha : fp_F a) (hb : fp_F b) {T : Int} (hT : fp_R T) (h : fp_Z a * fp_Z b ≤ T * fp_o) : fp_Z (FP.dmul a b) ≤ T := by
  obtain ⟨sg, n, e, h1, h2, h3⟩ := fp_mul_rr ha hb
  unfold fp_Z; rw [h1]
  exact fp_rr_le (by decide) hT (by have := FP.Core.qmin_b64; omega) h2 (by rw [h3, fp_pq]; exact h)
theorem fp_mul_ge {a b : UInt64} (ha : fp_F a) (hb : fp_F b) {T : Int} (hT : fp_R T) (h : T * fp_o ≤ fp_Z a * fp_Z b) : T ≤ fp_Z (FP.dmul a b) := by
  obtain ⟨sg, n, e, h1, h2, h3⟩ := fp_mul_rr ha hb
  unfold fp_Z; rw [h1]
  exact fp_rr_ge (by decide) hT (by have := FP.Core.qmin_b64; omega) h2 (by rw [h3, fp_pq]; exact h)
theorem fp_div_pos {a b : UInt64} (ha : fp_F a) (hb : fp_F b) (hz : 0 < fp_Z b) : ∃ sg A B e e0, FP.Core.val64 (FP.ddiv a b) = FP.Core.roundRatio FP.Core.b64 sg A B e ∧ 0 < B ∧ e0 ≤ FP.Core.b64.qmin ∧ e0 ≤ e ∧
    FP.Core.signed sg (FP.Core.inUnits A e e0) = fp_Z a * fp_o ∧ ((2 ^ (FP.Core.b64.qmin - e0).toNat * B : Nat) : Int) = fp_Z b := by
  obtain ⟨sg, A, B, e, e0, h1, h2, h3, h4, h5, h6, h7⟩ := fp_div_rr ha hb (by omega)
  have hs : FP.Core.sgn (FP.Core.val64 b) = false := by
    unfold fp_Z FP.Core.zval at hz
    cases h : FP.Core.sgn (FP.Core.val64 b) with
    | false => rfl
    | true => rw [h] at hz; simp only [FP.Core.signed, if_true] at hz; omega
  rw [hs] at h7
  refine ⟨sg, A, B, e, e0, h1, h2, h3, h4, ?_, ?_⟩
  · rw [h5, h7, FP.Core.signed_mul, Bool.bne_false]; rfl
  · rw [h6]; unfold fp_Z FP.Core.zval; rw [hs]; rfl
theorem fp_div_le {a b : UInt64} (ha : fp_F a) (hb : fp_F b) (hz : 0 < fp_Z b) {T : Int} (hT : fp_R T) (h : fp_Z a * fp_o ≤ T * fp_Z b) : fp_Z (FP.ddiv a b) ≤ T := by
  obtain ⟨sg, A, B, e, e0, h1, h2, h3, h4, h5, h6⟩ := fp_div_pos ha hb hz
  unfold fp_Z; rw [h1]
  exact fp_rr_le h2 hT h3 h4 (by rw [h5, h6]; exact h)
theorem fp_div_ge {a b : UInt64} (ha : fp_F a) (hb : fp_F b) (hz : 0 < fp_Z b) {T : Int} (hT : fp_R T) (h : T * fp_Z b ≤ fp_Z a * fp_o) : T ≤ fp_Z (FP.ddiv a b) := by
  obtain ⟨sg, A, B, e, e0, h1, h2, h3, h4, h5, h6⟩ := fp_div_pos ha hb hz
  unfold fp_Z; rw [h1]
  exact fp_rr_ge h2 hT h3 h4 (by rw [h5, h6]; exact h)
/-- no NaN -/
theorem fp_add_nn {a b : UInt64} (ha : fp_F a) (hb : fp_F b) : FP.Core.val64 (FP.dadd a b) ≠ .nan := by
  obtain ⟨sg, n, e, h1, -, -⟩ := fp_add_rr ha hb
  rw [h1]; exact FP.Core.roundRatio_ne_nan _ _ _ _ _
theorem fp_sub_nn {a b : UInt64} (ha : fp_F a) (hb : fp_F b) : FP.Core.val64 (FP.dsub a b) ≠ .nan := by
  obtain ⟨sg, n, e, h1, -, -⟩ := fp_sub_rr ha hb
  rw [h1]; exact FP.Core.roundRatio_ne_nan _ _ _ _ _
theorem fp_mul_nn {a b : UInt64} (ha : fp_F a) (hb : fp_F b) : FP.Core.val64 (FP.dmul a b) ≠ .nan := by
  obtain ⟨sg, n, e, h1, -, -⟩ := fp_mul_rr ha hb
  rw [h1]; exact FP.Core.roundRatio_ne_nan _ _ _ _ _
theorem fp_div_nn {a b : UInt64} (ha : fp_F a) (hb : fp_F b) (hz : fp_Z b ≠ 0) : FP.Core.val64 (FP.ddiv a b) ≠ .nan := by
  obtain ⟨sg, A, B, e, e0, h1, -⟩ := fp_div_rr ha hb hz
  rw [h1]; exact FP.Core.roundRatio_ne_nan _ _ _ _ _
/-- an interval -/
def fp_I (a : UInt64) (L U : Int) : Prop := fp_F a ∧ L ≤ fp_Z a ∧ fp_Z a ≤ U
theorem fp_I.n {a : UInt64} {L U : Int} (h : fp_I a L U) : vf_n64 a := fp_n h.1
theorem fp_I.w {a : UInt64} {L U L' U' : Int} (h : fp_I a L U) (h1 : L' ≤ L) (h2 : U ≤ U') : fp_I a L' U' := ⟨h.1, Int.le_trans h1 h.2.1, Int.le_trans h.2.2 h2⟩
theorem fp_mk {a : UInt64} {L U : Int} (hn : FP.Core.val64 a ≠ .nan) (hL : fp_R L) (hU : fp_R U) (h1 : L ≤ fp_Z a) (h2 : fp_Z a ≤ U) : fp_I a L U := by
  obtain ⟨-, -, -, -, g1⟩ := hL
  obtain ⟨-, -, -, -, g2⟩ := hU
  refine ⟨fp_fin hn (U := max (L.natAbs : Int) (U.natAbs : Int)) (by omega) (by omega) (by omega), h1, h2⟩
theorem fp_I_add {a b : UInt64} {L U L' U' : Int} (L2 U2 : Int) (ha : fp_I a L U) (hb : fp_I b L' U') (h : (fp_isR L2 && fp_isR U2 && decide (L2 ≤ L + L') && decide (U + U' ≤ U2)) = true) : fp_I (FP.dadd a b) L2 U2 := by
  simp only [Bool.and_eq_true, decide_eq_true_eq] at h
  obtain ⟨⟨⟨r1, r2⟩, h1⟩, h2⟩ := h
  have a1 := ha.2.1; have a2 := ha.2.2; have b1 := hb.2.1; have b2 := hb.2.2
  exact fp_mk (fp_add_nn ha.1 hb.1) (fp_R_dec r1) (fp_R_dec r2) (fp_add_ge ha.1 hb.1 (fp_R_dec r1) (by omega)) (fp_add_le ha.1 hb.1 (fp_R_dec r2) (by omega))
theorem fp_I_sub {a b : UInt64} {L U L' U' : Int} (L2 U2 : Int) (ha : fp_I a L U) (hb : fp_I b L' U') (h : (fp_isR L2 && fp_isR U2 && decide (L2 ≤ L - U') && decide (U - L' ≤ U2)) = true) : fp_I (FP.dsub a b) L2 U2 := by
  simp only [Bool.and_eq_true, decide_eq_true_eq] at h
  obtain ⟨⟨⟨r1, r2⟩, h1⟩, h2⟩ := h
  have a1 := ha.2.1; have a2 := ha.2.2; have b1 := hb.2.1; have b2 := hb.2.2
  exact fp_mk (fp_sub_nn ha.1 hb.1) (fp_R_dec r1) (fp_R_dec r2) (fp_sub_ge ha.1 hb.1 (fp_R_dec r1) (by omega)) (fp_sub_le ha.1 hb.1 (fp_R_dec r2) (by omega))
/-- a product of two intervals lies between the least and the greatest of the four corners -/
theorem fp_corner {x y L U L' U' T : Int} (a1 : L ≤ x) (a2 : x ≤ U) (b1 : L' ≤ y) (b2 : y ≤ U') (c1 : L * L' ≤ T) (c2 : L * U' ≤ T) (c3 : U * L' ≤ T) (c4 : U * U' ≤ T) : x * y ≤ T := by
  rcases Int.le_total 0 y with hy | hy
  · have h1 : x * y ≤ U * y := Int.mul_le_mul_of_nonneg_right a2 hy
    rcases Int.le_total 0 U with hu | hu
    · exact Int.le_trans h1 (Int.le_trans (Int.mul_le_mul_of_nonneg_left b2 hu) c4)
    · exact Int.le_trans h1 (Int.le_trans (Int.mul_le_mul_of_nonpos_left hu b1) c3)
  · have h1 : x * y ≤ L * y := Int.mul_le_mul_of_nonpos_right a1 hy
    rcases Int.le_total 0 L with hu | hu
    · exact Int.le_trans h1 (Int.le_trans (Int.mul_le_mul_of_nonneg_left b2 hu) c2)
    · exact Int.le_trans h1 (Int.le_trans (Int.mul_le_mul_of_nonpos_left hu b1) c1)
theorem fp_cornerG {x y L U L' U' T : Int} (a1 : L ≤ x) (a2 : x ≤ U) (b1 : L' ≤ y) (b2 : y ≤ U') (c1 : T ≤ L * L') (c2 : T ≤ L * U') (c3 : T ≤ U * L') (c4 : T ≤ U * U') : T ≤ x * y := by
  have h := fp_corner (x := -x) (y := y) (L := -U) (U := -L) (L' := L') (U' := U') (T := -T) (by omega) (by omega) b1 b2 (by rw [Int.neg_mul]; omega) (by rw [Int.neg_mul]; omega) (by rw [Int.neg_mul]; omega) (by rw [Int.neg_mul]; omega)
  rw [Int.neg_mul] at h
  omega
def fp_cMul (L U L' U' L2 U2 : Int) : Bool := fp_isR L2 && fp_isR U2 && decide (L2 * fp_o ≤ L * L') && decide (L2 * fp_o ≤ L * U') && decide (L2 * fp_o ≤ U * L') && decide (L2 * fp_o ≤ U * U') && decide (L * L' ≤ U2 * fp_o) && decide (L * U' ≤ U2 * fp_o) && decide (U * L' ≤ U2 * fp_o) && decide (U * U' ≤ U2 * fp_o)
theorem fp_I_mul {a b : UInt64} {L U L' U' : Int} (L2 U2 : Int) (ha : fp_I a L U) (hb : fp_I b L' U') (h : fp_cMul L U L' U' L2 U2 = true) : fp_I (FP.dmul a b) L2 U2 := by
  unfold fp_cMul at h
  simp only [Bool.and_eq_true, decide_eq_true_eq] at h
  obtain ⟨⟨⟨⟨⟨⟨⟨⟨⟨r1, r2⟩, d1⟩, d2⟩, d3⟩, d4⟩, c1⟩, c2⟩, c3⟩, c4⟩ := h
  exact fp_mk (fp_mul_nn ha.1 hb.1) (fp_R_dec r1) (fp_R_dec r2)
    (fp_mul_ge ha.1 hb.1 (fp_R_dec r1) (fp_cornerG ha.2.1 ha.2.2 hb.2.1 hb.2.2 d1 d2 d3 d4)) (fp_mul_le ha.1 hb.1 (fp_R_dec r2) (fp_corner ha.2.1 ha.2.2 hb.2.1 hb.2.2 c1 c2 c3 c4))
theorem fp_sqn (x : Int) : 0 ≤ x * x := by
  rcases Int.le_total 0 x with h | h
  · exact Int.mul_nonneg h h
  · have := Int.mul_nonneg (show 0 ≤ -x by omega) (show 0 ≤ -x by omega)
    rwa [Int.neg_mul_neg] at this
/-- a square is not below zero -/
theorem fp_I_sq {a : UInt64} {L U : Int} (U2 : Int) (ha : fp_I a L U) (h : (fp_isR U2 && decide (L * L ≤ U2 * fp_o) && decide (L * U ≤ U2 * fp_o) && decide (U * U ≤ U2 * fp_o)) = true) : fp_I (FP.dmul a a) 0 U2 := by
  simp only [Bool.and_eq_true, decide_eq_true_eq] at h
  obtain ⟨⟨⟨r2, c1⟩, c2⟩, c4⟩ := h
  have c3 : U * L ≤ U2 * fp_o := by rw [Int.mul_comm]; exact c2
  have r1 : fp_R 0 := fp_R_dec (by decide)
  exact fp_mk (fp_mul_nn ha.1 ha.1) r1 (fp_R_dec r2) (fp_mul_ge ha.1 ha.1 r1 (by rw [Int.zero_mul]; exact fp_sqn _)) (fp_mul_le ha.1 ha.1 (fp_R_dec r2) (fp_corner ha.2.1 ha.2.2 ha.2.1 ha.2.2 c1 c2 c3 c4))
/-- a quotient by a number above zero -/
def fp_cDiv (L U L' U' L2 U2 : Int) : Bool := fp_isR L2 && fp_isR U2 && decide (0 < L') && decide (L2 * L' ≤ L * fp_o) && decide (L2 * U' ≤ L * fp_o) && decide (U * fp_o ≤ U2 * L') && decide (U * fp_o ≤ U2 * U')
theorem fp_lin {c y L' U' T : Int} (b1 : L' ≤ y) (b2 : y ≤ U') (h1 : T ≤ c * L') (h2 : T ≤ c * U') : T ≤ c * y := by
  rcases Int.le_total 0 c with hc | hc
  · exact Int.le_trans h1 (Int.mul_le_mul_of_nonneg_left b1 hc)
  · exact Int.le_trans h2 (Int.mul_le_mul_of_nonpos_left hc b2)
theorem fp_linL {c y L' U' T : Int} (b1 : L' ≤ y) (b2 : y ≤ U') (h1 : c * L' ≤ T) (h2 : c * U' ≤ T) : c * y ≤ T := by
  rcases Int.le_total 0 c with hc | hc
  · exact Int.le_trans (Int.mul_le_mul_of_nonneg_left b2 hc) h2
  · exact Int.le_trans (Int.mul_le_mul_of_nonpos_left hc b1) h1
theorem fp_o_pos : (0 : Int) < fp_o := by
  have := FP.Core.one64_pos
  unfold fp_o
  omega
theorem fp_I_div {a b : UInt64} {L U L' U' : Int} (L2 U2 : Int) (ha : fp_I a L U) (hb : fp_I b L' U') (h : fp_cDiv L U L' U' L2 U2 = true) : fp_I (FP.ddiv a b) L2 U2 := by
  unfold fp_cDiv at h
  simp only [Bool.and_eq_true, decide_eq_true_eq] at h
  obtain ⟨⟨⟨⟨⟨⟨r1, r2⟩, p0⟩, d1⟩, d2⟩, c1⟩, c2⟩ := h
  have b1 := hb.2.1
  have hp : 0 < fp_Z b := by omega
  have ho := fp_o_pos
  have l1 : L * fp_o ≤ fp_Z a * fp_o := Int.mul_le_mul_of_nonneg_right ha.2.1 (Int.le_of_lt ho)
  have l2 : fp_Z a * fp_o ≤ U * fp_o := Int.mul_le_mul_of_nonneg_right ha.2.2 (Int.le_of_lt ho)
  exact fp_mk (fp_div_nn ha.1 hb.1 (by omega)) (fp_R_dec r1) (fp_R_dec r2)
    (fp_div_ge ha.1 hb.1 hp (fp_R_dec r1) (Int.le_trans (fp_linL hb.2.1 hb.2.2 d1 d2) l1)) (fp_div_le ha.1 hb.1 hp (fp_R_dec r2) (Int.le_trans l2 (fp_lin hb.2.1 hb.2.2 c1 c2)))
/-- what a comparison says -/
theorem fp_lt {a b : UInt64} (h : FP.dcmp a b = some .lt) : fp_Z a < fp_Z b := (FP.Core.dcmp_lt.mp h).2.2
theorem fp_gt {a b : UInt64} (h : FP.dcmp a b = some .gt) : fp_Z b < fp_Z a := (FP.Core.dcmp_gt.mp h).2.2
theorem fp_eq {a b : UInt64} (h : FP.dcmp a b = some .eq) : fp_Z a = fp_Z b := (FP.Core.dcmp_eq.mp h).2.2
theorem fp_cmp {a b : UInt64} (ha : fp_F a) (hb : fp_F b) : FP.dcmp a b = some (compare (fp_Z a) (fp_Z b)) := FP.Core.dcmp_zval (FP.Core.DFin.ne_nan ha) (FP.Core.DFin.ne_nan hb)
theorem fp_const {a : UInt64} {T : Int} (h : (decide (a.toNat % 2 ^ 63 < 9218868437227405312) && decide (fp_Z a = T)) = true) : fp_I a T T := by
  simp only [Bool.and_eq_true, decide_eq_true_eq] at h
  exact ⟨(FP.Core.fin_bits a).mpr h.1, by omega, by omega⟩
/-- N * 2 ^ j, for bounds -/
def fp_d (N : Int) (j : Nat) : Int := N * ((2 ^ j : Nat) : Int)
theorem fp_I_neg {a : UInt64} {L U : Int} (h : fp_I a L U) : fp_I (FP.dneg a) (-U) (-L) := by
  have h1 : FP.Core.val64 (FP.dneg a) = FP.Core.negate (FP.Core.val64 a) := FP.val64_dneg a
  have hz : fp_Z (FP.dneg a) = -fp_Z a := by unfold fp_Z; rw [h1, FP.Core.zval_negate]
  obtain ⟨⟨s, c, q, hf⟩, h2, h3⟩ := h
  refine ⟨⟨!s, c, q, by rw [h1, hf]; rfl⟩, ?_, ?_⟩ <;> rw [hz] <;> omega
theorem fp_l2d_I (v : Int64) : fp_I (FP.l2d v) (fp_d (-1) 1139) (fp_d 1 1139) := by
  have hf : fp_F (FP.l2d v) := FP.Core.l2d_fin v
  obtain ⟨s, c, q, h1, h2⟩ := FP.Core.mag_bits (FP.Core.l2d_mag v) (by decide)
  have hz := fp_zabs (FP.Core.val64 (FP.l2d v))
  have h3 : FP.Core.zmag FP.Core.b64 (FP.Core.val64 (FP.l2d v)) < 2 ^ 52 * 2 ^ (1088 - 1) := by
    have h1' : FP.Core.val64 (FP.l2d v) = .fin s c q := h1
    rw [h1']; exact h2
  have e1 : ((2 ^ 52 * 2 ^ (1088 - 1) : Nat) : Int) = fp_d 1 1139 := by decide +kernel
  have e2 : fp_d (-1) 1139 = -(fp_d 1 1139) := by decide +kernel
  generalize 2 ^ 52 * 2 ^ (1088 - 1) = M at *
  refine ⟨hf, ?_, ?_⟩ <;> unfold fp_Z <;> omega
