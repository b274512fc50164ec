/-! the document's reckonings as functions of doubles, and their bounds -/
def pb_floor (z : UInt64) : UInt64 := if FP.dcmp (FP.l2d (FP.d2l z)) z = some .gt then FP.dsub (FP.l2d (FP.d2l z)) FP.dconst1 else FP.l2d (FP.d2l z)
def pb_wrap (side z : UInt64) : UInt64 := if FP.dcmp (FP.dsub z (FP.dmul side (pb_floor (FP.ddiv z side)))) side = some .lt then FP.dsub z (FP.dmul side (pb_floor (FP.ddiv z side))) else FP.dconst0
def pb_half : UInt64 := 4602678819172646912
def pb_near (side z : UInt64) : UInt64 := FP.dsub z (FP.dmul side (pb_floor (FP.dadd (FP.ddiv z side) 4602678819172646912)))
def pb_r2 (side x1 y1 x2 y2 : UInt64) : UInt64 := FP.dadd (FP.dmul (pb_near side (FP.dsub x2 x1)) (pb_near side (FP.dsub x2 x1))) (FP.dmul (pb_near side (FP.dsub y2 y1)) (pb_near side (FP.dsub y2 y1)))
theorem fp_o_eq : fp_o = fp_d 1 1074 := by decide +kernel
theorem pb_big : fp_d 1 1126 = 4503599627370496 * fp_o := by decide +kernel
theorem pb_floor_spec {z : UInt64} (hz : fp_F z) (h1 : -(fp_d 1 1126) < fp_Z z) (h2 : fp_Z z < fp_d 1 1126) : ∃ i : Int, fp_F (pb_floor z) ∧ fp_Z (pb_floor z) = i * fp_o ∧ i * fp_o ≤ fp_Z z ∧ fp_Z z < (i + 1) * fp_o := by
  have hn := FP.Core.DFin.ne_nan hz
  have hv := FP.Core.d2l_val hn
  have hsz : fp_Z z = FP.Core.signed (FP.Core.sgn (FP.Core.val64 z)) (FP.Core.zmag FP.Core.b64 (FP.Core.val64 z)) := rfl
  rw [pb_big] at h1 h2
  have ho := FP.Core.one64_pos
  generalize FP.Core.zmag FP.Core.b64 (FP.Core.val64 z) = mm at *
  generalize FP.Core.sgn (FP.Core.val64 z) = sg at *
  have dm : FP.Core.one64 * (mm / FP.Core.one64) + mm % FP.Core.one64 = mm := Nat.div_add_mod _ _
  have ml : mm % FP.Core.one64 < FP.Core.one64 := Nat.mod_lt _ ho
  have hq : mm / FP.Core.one64 < 4503599627370496 := by
    refine (Nat.div_lt_iff_lt_mul ho).mpr ?_
    unfold fp_o at h1 h2
    cases sg <;> simp only [FP.Core.signed, if_true, Bool.false_eq_true, if_false] at hsz <;> omega
  generalize mm / FP.Core.one64 = qq at *
  have hpr : ((FP.Core.one64 * qq : Nat) : Int) = (qq : Int) * fp_o := by unfold fp_o; rw [Nat.mul_comm]; exact Int.natCast_mul _ _
  have ht : (FP.Core.d2l z).toInt = FP.Core.signed sg qq := by
    rw [hv]
    cases sg <;> simp only [FP.Core.signed, if_true, Bool.false_eq_true, if_false] <;> omega
  have hw : FP.Core.DInt (FP.Core.signed sg qq) (FP.l2d (FP.d2l z)) := by
    rw [← ht]
    refine FP.Core.l2d_int ?_
    show (FP.Core.d2l z).toInt.natAbs ≤ 2 ^ 53
    rw [ht, FP.Core.natAbs_signed]
    omega
  have hwz := FP.Core.DInt_zval hw
  have hwn := FP.Core.DInt_ne_nan hw
  have hwf : fp_F (FP.l2d (FP.d2l z)) := FP.Core.l2d_fin _
  have hoi : (0 : Int) < fp_o := fp_o_pos
  have hex : FP.Core.signed sg qq * fp_o = FP.Core.signed sg (FP.Core.one64 * qq) := by
    cases sg <;> simp only [FP.Core.signed, if_true, Bool.false_eq_true, if_false]
    · exact hpr.symm
    · rw [Int.neg_mul, hpr]
  unfold pb_floor
  by_cases hg : FP.dcmp (FP.l2d (FP.d2l z)) z = some .gt
  · rw [if_pos hg]
    have g1 := fp_gt hg
    have hs1 : FP.Core.DInt (FP.Core.signed sg qq - 1) (FP.dsub (FP.l2d (FP.d2l z)) FP.dconst1) := FP.Core.dsub_int hw FP.Core.dint_one (by
      have := FP.Core.natAbs_signed sg qq
      omega)
    have hsz1 := FP.Core.DInt_zval hs1
    refine ⟨FP.Core.signed sg qq - 1, ?_, hsz1, ?_, ?_⟩
    · unfold FP.Core.DInt at hs1
      show ∃ s c q, FP.Core.val64 (FP.dsub (FP.l2d (FP.d2l z)) FP.dconst1) = .fin s c q
      cases hd : FP.Core.val64 (FP.dsub (FP.l2d (FP.d2l z)) FP.dconst1) with
      | nan => rw [hd] at hs1; exact hs1.elim
      | inf s => rw [hd] at hs1; exact hs1.elim
      | fin s c q => exact ⟨s, c, q, rfl⟩
    · rw [Int.sub_mul, Int.one_mul, hex, hsz]
      unfold fp_Z at g1
      rw [hwz, show (FP.Core.one64 : Int) = fp_o from rfl, hex] at g1
      unfold fp_o
      cases sg <;> simp only [FP.Core.signed, if_true, Bool.false_eq_true, if_false] at hsz g1 ⊢ <;> unfold fp_Z at hsz <;> omega
    · rw [Int.sub_add_cancel]
      unfold fp_Z at g1 ⊢
      rw [hwz] at g1
      exact g1
  · rw [if_neg hg]
    refine ⟨FP.Core.signed sg qq, hwf, hwz, ?_, ?_⟩
    · refine Int.not_lt.mp (fun h => hg (FP.Core.dcmp_gt.mpr ⟨hwn, hn, ?_⟩))
      rw [hwz]; exact h
    · have g1 : ¬ (fp_Z z < FP.Core.signed sg qq * fp_o) := fun h => hg (FP.Core.dcmp_gt.mpr ⟨hwn, hn, by rw [hwz]; exact h⟩)
      rw [Int.add_mul, Int.one_mul, hex]
      rw [hex] at g1
      rw [hsz] at g1 ⊢
      unfold fp_o
      cases sg <;> simp only [FP.Core.signed, if_true, Bool.false_eq_true, if_false] at g1 ⊢ <;> omega
theorem fp_R_int {N : Int} {j : Nat} (h1 : -9007199254740992 < N) (h2 : N < 9007199254740992) (hj : j ≤ 2045) : fp_R (fp_d N j) := by
  have h := fp_R_nat N.natAbs j (by omega) hj
  unfold fp_d
  rcases Int.natAbs_eq N with e | e
  · rw [e]; rw [Int.natCast_mul] at h; exact h
  · rw [e, Int.neg_mul]; rw [Int.natCast_mul] at h; exact fp_R_neg h
/-- the side of the box: k halves -/
def pb_S (side : UInt64) (k : Int) : Prop := fp_F side ∧ fp_Z side = fp_d k 1073 ∧ 8 ≤ k ∧ k ≤ 64
theorem pb_gg : ∃ gg : Int, 0 < gg ∧ fp_o = 2 * (32 * gg) ∧ (∀ N, fp_d N 1068 = N * gg) ∧ (∀ N, fp_d N 1073 = N * (32 * gg)) ∧ (∀ N, fp_d N 1074 = N * (2 * (32 * gg))) ∧ (∀ N, fp_d N 1069 = N * (2 * gg)) := by
  refine ⟨((2 ^ 1068 : Nat) : Int), by decide +kernel, by decide +kernel, fun N => rfl, fun N => ?_, fun N => ?_, fun N => ?_⟩
  · unfold fp_d; rw [show ((2 ^ 1073 : Nat) : Int) = 32 * ((2 ^ 1068 : Nat) : Int) by decide +kernel]
  · unfold fp_d; rw [show ((2 ^ 1074 : Nat) : Int) = 2 * (32 * ((2 ^ 1068 : Nat) : Int)) by decide +kernel]
  · unfold fp_d; rw [show ((2 ^ 1069 : Nat) : Int) = 2 * ((2 ^ 1068 : Nat) : Int) by decide +kernel]
theorem pb_S.I {side : UInt64} {k : Int} (h : pb_S side k) : fp_I side (fp_d 4 1074) (fp_d 32 1074) := by
  obtain ⟨h1, h2, h3, h4⟩ := h
  obtain ⟨gg, g0, -, -, e2, e3, -⟩ := pb_gg
  refine ⟨h1, ?_, ?_⟩ <;> rw [h2, e2, e3]
  · have := Int.mul_le_mul_of_nonneg_right h3 (show (0 : Int) ≤ 32 * gg by omega); omega
  · have := Int.mul_le_mul_of_nonneg_right h4 (show (0 : Int) ≤ 32 * gg by omega); omega
/-- side * i is exact -/
theorem pb_side_mul {side F : UInt64} {k i : Int} (hs : pb_S side k) (hF : fp_F F) (hz : fp_Z F = i * fp_o) (h1 : -9007199254740992 < k * i) (h2 : k * i < 9007199254740992) : fp_Z (FP.dmul side F) = fp_d (k * i) 1073 := by
  have hR := fp_R_int (j := 1073) h1 h2 (by decide)
  have e : fp_Z side * fp_Z F = fp_d (k * i) 1073 * fp_o := by
    rw [hs.2.1, hz]; unfold fp_d; generalize ((2 ^ 1073 : Nat) : Int) = hh; generalize fp_o = oo; ac_rfl
  have a := fp_mul_le hs.1 hF hR (Int.le_of_eq e)
  have b := fp_mul_ge hs.1 hF hR (Int.le_of_eq e.symm)
  omega
theorem pb_ki {k i B : Int} (h3 : 8 ≤ k) (h4 : k ≤ 64) (h1 : -B ≤ i) (h2 : i ≤ B) : -(64 * B) ≤ k * i ∧ k * i ≤ 64 * B := by
  have hk : 0 ≤ k := by omega
  have hB : 0 ≤ B := by omega
  have a1 : k * i ≤ k * B := Int.mul_le_mul_of_nonneg_left h2 hk
  have a2 : k * B ≤ 64 * B := Int.mul_le_mul_of_nonneg_right h4 hB
  have b1 : k * (-B) ≤ k * i := Int.mul_le_mul_of_nonneg_left h1 hk
  rw [Int.mul_neg] at b1
  omega
/-- a whole number of ones between two bounds -/
theorem pb_int_le {i B : Int} (h : i * fp_o < (B + 1) * fp_o) : i ≤ B := by
  have := Int.lt_of_mul_lt_mul_right h (Int.le_of_lt fp_o_pos)
  omega
theorem pb_floor_I {z : UInt64} (hz : fp_I z (fp_d (-1) 1121) (fp_d 1 1121)) : fp_I (pb_floor z) (fp_d (-1) 1122) (fp_d 1 1122) := by
  obtain ⟨hf, h1, h2⟩ := hz
  have e1 : fp_d (-1) 1121 = -(fp_d 1 1121) := by decide +kernel
  have e2 : fp_d (-1) 1122 = -(fp_d 1 1122) := by decide +kernel
  have e3 : fp_d 1 1121 < fp_d 1 1126 := by decide +kernel
  have e4 : fp_d 1 1121 + fp_o ≤ fp_d 1 1122 := by decide +kernel
  have hop := fp_o_pos
  rw [e1] at h1
  obtain ⟨i, g1, g2, g3, g4⟩ := pb_floor_spec hf (by omega) (by omega)
  rw [Int.add_mul, Int.one_mul] at g4
  refine ⟨g1, ?_, ?_⟩ <;> rw [g2] <;> omega
/-- NEAREST: i sides are taken away, exactly; what is left is at most 17/32 of one; then one rounding -/
theorem pb_near_spec {side z : UInt64} {k : Int} (hs : pb_S side k) (hz : fp_I z (fp_d (-1) 1122) (fp_d 1 1122)) : ∃ i gg : Int, 0 < gg ∧ fp_o = 2 * (32 * gg) ∧ k * i * (32 * gg) - 17 * (k * gg) ≤ fp_Z z ∧ fp_Z z ≤ k * i * (32 * gg) + 17 * (k * gg) ∧ FP.Core.val64 (pb_near side z) ≠ .nan ∧
    (∀ T : Int, fp_R T → fp_Z z - k * i * (32 * gg) ≤ T → fp_Z (pb_near side z) ≤ T) ∧ (∀ T : Int, fp_R T → T ≤ fp_Z z - k * i * (32 * gg) → T ≤ fp_Z (pb_near side z)) := by
  have hsI := hs.I
  have hd := fp_I_div (fp_d (-1) 1120) (fp_d 1 1120) hz hsI (by decide +kernel)
  have hh := fp_const (a := 4602678819172646912) (T := fp_d 1 1073) (by decide +kernel)
  have ha := fp_I_add (fp_d (-3) 1119) (fp_d 3 1119) hd hh (by decide +kernel)
  obtain ⟨i, f1, f2, f3, f4⟩ := pb_floor_spec ha.1 (Int.lt_of_lt_of_le (by decide +kernel) ha.2.1) (Int.lt_of_le_of_lt ha.2.2 (by decide +kernel))
  obtain ⟨gg, g0, eo, e1, e2, e3, e4⟩ := pb_gg
  obtain ⟨-, hk, k1, k2⟩ := id hs
  have hiU : i ≤ 105553116266496 := pb_int_le (Int.lt_of_le_of_lt f3 (Int.lt_of_le_of_lt ha.2.2 (by decide +kernel)))
  have hiL : -105553116266497 ≤ i := by
    have : -(i + 1) ≤ 105553116266496 := pb_int_le (by
      rw [Int.neg_mul]
      have h5 : -(fp_d 3 1119) ≤ fp_Z (FP.dadd (FP.ddiv z side) 4602678819172646912) := by
        have := ha.2.1
        rw [show fp_d (-3) 1119 = -(fp_d 3 1119) by decide +kernel] at this
        exact this
      have h6 : fp_d 3 1119 < (105553116266496 + 1) * fp_o := by decide +kernel
      omega)
    omega
  obtain ⟨m1, m2⟩ := pb_ki (B := 105553116266497) k1 k2 hiL (by omega)
  have hm := pb_side_mul hs f1 f2 (by omega) (by omega)
  rw [e2] at hm
  have hmf : fp_F (FP.dmul side (pb_floor (FP.dadd (FP.ddiv z side) 4602678819172646912))) := by
    have hfI : fp_I (pb_floor (FP.dadd (FP.ddiv z side) 4602678819172646912)) (fp_d (-1) 1122) (fp_d 1 1122) := pb_floor_I (ha.w (by decide +kernel) (by decide +kernel))
    exact (fp_I_mul (fp_d (-1) 1127) (fp_d 1 1127) hsI hfI (by decide +kernel)).1
  rw [e2] at hk
  have zn := hz.1
  have sn := hs.1
  have sp : 0 < fp_Z side := by rw [hk]; exact Int.mul_pos (by omega) (by omega)
  have hzh : fp_Z 4602678819172646912 = 32 * gg := by
    have : fp_Z 4602678819172646912 = fp_d 1 1073 := by decide +kernel
    rw [this, e2]; omega
  -- not too far below
  have low : k * (32 * i - 17) * gg ≤ fp_Z z := by
    refine Int.not_lt.mp (fun hlt => ?_)
    have r1 : fp_R ((32 * i - 17) * (2 * gg)) := by rw [← e4]; exact fp_R_int (by omega) (by omega) (by decide)
    have q1 : fp_Z (FP.ddiv z side) ≤ (32 * i - 17) * (2 * gg) := fp_div_le zn sn sp r1 (by
      rw [hk, eo]
      refine Int.le_trans (Int.mul_le_mul_of_nonneg_right (Int.le_of_lt hlt) (by omega)) (Int.le_of_eq ?_)
      ac_rfl)
    have r2 : fp_R ((32 * i - 1) * (2 * gg)) := by rw [← e4]; exact fp_R_int (by omega) (by omega) (by decide)
    have q2 : fp_Z (FP.dadd (FP.ddiv z side) 4602678819172646912) ≤ (32 * i - 1) * (2 * gg) := fp_add_le hd.1 hh.1 r2 (by
      rw [hzh, Int.sub_mul]; rw [Int.sub_mul] at q1; omega)
    rw [eo, Int.mul_comm] at f3
    rw [Int.sub_mul] at q2
    have : 32 * i * (2 * gg) = 2 * (32 * gg) * i := by ac_rfl
    omega
  have high : fp_Z z ≤ k * (32 * i + 17) * gg := by
    refine Int.not_lt.mp (fun hlt => ?_)
    have r1 : fp_R ((32 * i + 17) * (2 * gg)) := by rw [← e4]; exact fp_R_int (by omega) (by omega) (by decide)
    have q1 : (32 * i + 17) * (2 * gg) ≤ fp_Z (FP.ddiv z side) := fp_div_ge zn sn sp r1 (by
      rw [hk, eo]
      refine Int.le_trans (Int.le_of_eq ?_) (Int.mul_le_mul_of_nonneg_right (Int.le_of_lt hlt) (by omega))
      ac_rfl)
    have r2 : fp_R ((32 * i + 33) * (2 * gg)) := by rw [← e4]; exact fp_R_int (by omega) (by omega) (by decide)
    have q2 : (32 * i + 33) * (2 * gg) ≤ fp_Z (FP.dadd (FP.ddiv z side) 4602678819172646912) := fp_add_ge hd.1 hh.1 r2 (by
      rw [hzh, Int.add_mul]; rw [Int.add_mul] at q1; omega)
    rw [eo, Int.add_mul] at f4
    rw [Int.add_mul] at q2
    have : 32 * i * (2 * gg) = i * (2 * (32 * gg)) := by ac_rfl
    omega
  have b1 : k * gg ≤ 64 * gg := Int.mul_le_mul_of_nonneg_right k2 (by omega)
  have x1 : k * (32 * i - 17) * gg = k * i * (32 * gg) - 17 * (k * gg) := by
    rw [Int.mul_sub, Int.sub_mul]
    congr 1 <;> ac_rfl
  have x2 : k * (32 * i + 17) * gg = k * i * (32 * gg) + 17 * (k * gg) := by
    rw [Int.mul_add, Int.add_mul]
    congr 1 <;> ac_rfl
  rw [x1] at low
  rw [x2] at high
  exact ⟨i, gg, g0, eo, low, high, fp_sub_nn zn hmf, fun T hT h => fp_sub_le zn hmf hT (by rw [hm]; exact h), fun T hT h => fp_sub_ge zn hmf hT (by rw [hm]; exact h)⟩
/-- NEAREST leaves at most half a side and a little -/
theorem pb_near_I {side z : UInt64} {k : Int} (hs : pb_S side k) (hz : fp_I z (fp_d (-1) 1122) (fp_d 1 1122)) : fp_I (pb_near side z) (fp_d (-17) 1074) (fp_d 17 1074) := by
  obtain ⟨i, gg, g0, eo, low, high, nn, up, dn⟩ := pb_near_spec hs hz
  obtain ⟨-, -, -, k2⟩ := hs
  have b1 : k * gg ≤ 64 * gg := Int.mul_le_mul_of_nonneg_right k2 (by omega)
  have r3 : fp_R (fp_d 17 1074) := fp_R_dec (by decide +kernel)
  have r4 : fp_R (fp_d (-17) 1074) := fp_R_dec (by decide +kernel)
  have e3 : fp_d 17 1074 = 17 * fp_o := by decide +kernel
  have e4 : fp_d (-17) 1074 = -(17 * fp_o) := by decide +kernel
  exact fp_mk nn r4 r3 (dn _ r4 (by rw [e4]; omega)) (up _ r3 (by rw [e3]; omega))
theorem pb_wrap_I {side z : UInt64} {k : Int} (hs : pb_S side k) (hz : fp_I z (fp_d (-1) 1121) (fp_d 1 1121)) : fp_I (pb_wrap side z) (fp_d (-1) 1074) (fp_d 32 1074) := by
  have hsI := hs.I
  have hd := fp_I_div (fp_d (-1) 1119) (fp_d 1 1119) hz hsI (by decide +kernel)
  obtain ⟨i, f1, f2, f3, f4⟩ := pb_floor_spec hd.1 (Int.lt_of_lt_of_le (by decide +kernel) hd.2.1) (Int.lt_of_le_of_lt hd.2.2 (by decide +kernel))
  obtain ⟨gg, g0, eo, e1, e2, e3, e4⟩ := pb_gg
  obtain ⟨-, hk, k1, k2⟩ := id hs
  have hiU : i ≤ 35184372088832 := pb_int_le (Int.lt_of_le_of_lt f3 (Int.lt_of_le_of_lt hd.2.2 (by decide +kernel)))
  have hiL : -35184372088833 ≤ i := by
    have : -(i + 1) ≤ 35184372088832 := pb_int_le (by
      rw [Int.neg_mul]
      have h5 : -(fp_d 1 1119) ≤ fp_Z (FP.ddiv z side) := by
        have := hd.2.1
        rw [show fp_d (-1) 1119 = -(fp_d 1 1119) by decide +kernel] at this
        exact this
      have h6 : fp_d 1 1119 < (35184372088832 + 1) * fp_o := by decide +kernel
      omega)
    omega
  obtain ⟨m1, m2⟩ := pb_ki (B := 35184372088833) k1 k2 hiL (by omega)
  have hm := pb_side_mul hs f1 f2 (by omega) (by omega)
  rw [e2] at hm
  have hmI : fp_I (FP.dmul side (pb_floor (FP.ddiv z side))) (fp_d (-1) 1127) (fp_d 1 1127) := by
    have hfI : fp_I (pb_floor (FP.ddiv z side)) (fp_d (-1) 1122) (fp_d 1 1122) := pb_floor_I (hd.w (by decide +kernel) (by decide +kernel))
    exact fp_I_mul (fp_d (-1) 1127) (fp_d 1 1127) hsI hfI (by decide +kernel)
  have hin := fp_I_sub (fp_d (-1) 1128) (fp_d 1 1128) hz hmI (by decide +kernel)
  rw [e2] at hk
  have zn := hz.1
  have sn := hs.1
  have sp : 0 < fp_Z side := by rw [hk]; exact Int.mul_pos (by omega) (by omega)
  have low : k * i * (32 * gg) - 64 * gg ≤ fp_Z z := by
    refine Int.not_lt.mp (fun hlt => ?_)
    have r1 : fp_R ((32 * i - 1) * (2 * gg)) := by rw [← e4]; exact fp_R_int (by omega) (by omega) (by decide)
    have b1 : k * gg ≤ 64 * gg := Int.mul_le_mul_of_nonneg_right k2 (by omega)
    have x1 : k * (32 * i - 1) * gg = k * i * (32 * gg) - k * gg := by
      rw [Int.mul_sub, Int.sub_mul, Int.mul_one]
      congr 1
      ac_rfl
    have q1 : fp_Z (FP.ddiv z side) ≤ (32 * i - 1) * (2 * gg) := fp_div_le zn sn sp r1 (by
      rw [hk, eo]
      refine Int.le_trans (Int.mul_le_mul_of_nonneg_right (show fp_Z z ≤ k * (32 * i - 1) * gg by omega) (by omega)) (Int.le_of_eq ?_)
      ac_rfl)
    rw [eo, Int.mul_comm] at f3
    rw [Int.sub_mul] at q1
    have : 32 * i * (2 * gg) = 2 * (32 * gg) * i := by ac_rfl
    omega
  have r4 : fp_R (fp_d (-1) 1074) := fp_R_dec (by decide +kernel)
  have lo2 := fp_sub_ge zn hmI.1 r4 (by rw [hm, e3]; omega)
  unfold pb_wrap
  by_cases hc : FP.dcmp (FP.dsub z (FP.dmul side (pb_floor (FP.ddiv z side)))) side = some .lt
  · rw [if_pos hc]
    have h5 := fp_lt hc
    have h6 := hsI.2.2
    exact ⟨hin.1, lo2, by omega⟩
  · rw [if_neg hc]
    exact (fp_const (a := FP.dconst0) (T := 0) (by decide +kernel)).w (by decide +kernel) (by decide +kernel)
