/-! r2 of two atoms, seen from either: bounds -/
abbrev pb_Ip (a : UInt64) : Prop := fp_I a (fp_d (-1) 1074) (fp_d 32 1074)
theorem fp_sub_anti {a b : UInt64} (ha : fp_F a) (hb : fp_F b) : fp_Z (FP.dsub b a) = -fp_Z (FP.dsub a b) := by
  obtain ⟨sg, n, e, h1, h2, h3⟩ := fp_sub_rr ha hb
  obtain ⟨sg', n', e', h1', h2', h3'⟩ := fp_sub_rr hb ha
  have hu : FP.Core.inUnits n e FP.Core.b64.qmin = FP.Core.inUnits n' e' FP.Core.b64.qmin := by
    have a1 := FP.Core.natAbs_signed sg (FP.Core.inUnits n e FP.Core.b64.qmin)
    have a2 := FP.Core.natAbs_signed sg' (FP.Core.inUnits n' e' FP.Core.b64.qmin)
    omega
  have hc : FP.Core.roundRatio FP.Core.b64 sg' n' 1 e' = FP.Core.roundRatio FP.Core.b64 sg' n 1 e := by
    refine FP.Core.roundRatio_congr (by decide) (by decide) ?_
    unfold FP.Core.inUnits at hu
    rw [Nat.mul_one, Nat.mul_one]
    rcases Int.le_total e e' with h | h
    · rw [show (e - e').toNat = 0 by omega, Nat.pow_zero, Nat.mul_one]
      rw [show (e' - FP.Core.b64.qmin).toNat = (e' - e).toNat + (e - FP.Core.b64.qmin).toNat by omega, Nat.pow_add, ← Nat.mul_assoc] at hu
      exact (Nat.eq_of_mul_eq_mul_right (Nat.two_pow_pos _) hu).symm
    · rw [show (e' - e).toNat = 0 by omega, Nat.pow_zero, Nat.mul_one]
      rw [show (e - FP.Core.b64.qmin).toNat = (e - e').toNat + (e' - FP.Core.b64.qmin).toNat by omega, Nat.pow_add, ← Nat.mul_assoc] at hu
      exact (Nat.eq_of_mul_eq_mul_right (Nat.two_pow_pos _) hu).symm
  unfold fp_Z
  rw [h1, h1', hc]
  by_cases hn : n = 0
  · subst hn
    have hz : ∀ s : Bool, FP.Core.zval FP.Core.b64 (FP.Core.roundRatio FP.Core.b64 s 0 1 e) = 0 := fun s => by
      have : FP.Core.roundRatio FP.Core.b64 s 0 1 e = .fin s 0 FP.Core.b64.qmin := by unfold FP.Core.roundRatio; rw [if_pos rfl]
      rw [this]
      show FP.Core.signed s (FP.Core.inUnits 0 FP.Core.b64.qmin FP.Core.b64.qmin) = 0
      unfold FP.Core.inUnits
      rw [Nat.zero_mul]
      exact FP.Core.signed_zero s
    rw [hz, hz]
    rfl
  · have hs : sg' = !sg := by
      have hp : 0 < FP.Core.inUnits n e FP.Core.b64.qmin := Nat.mul_pos (by omega) (Nat.two_pow_pos _)
      rw [← hu] at h3'
      generalize FP.Core.inUnits n e FP.Core.b64.qmin = U at *
      cases sg <;> cases sg' <;> simp only [FP.Core.signed, if_true, Bool.false_eq_true, if_false] at h3 h3' <;> first | rfl | (exfalso; omega)
    rw [hs, fp_zneg_rr]
theorem pb_near_flip {side z z2 : UInt64} {k : Int} (hs : pb_S side k) (hz : fp_I z (fp_d (-1) 1122) (fp_d 1 1122)) (hz2 : fp_I z2 (fp_d (-1) 1122) (fp_d 1 1122)) (hneg : fp_Z z2 = -fp_Z z) {T : Int} (hT : fp_R T) (h0 : 0 ≤ T) (h1 : T ≤ fp_o)
    (h : T < fp_Z (pb_near side z) ∨ fp_Z (pb_near side z) < -T) : T ≤ fp_Z (pb_near side z2) ∨ fp_Z (pb_near side z2) ≤ -T := by
  obtain ⟨i, gg, g0, eo, low, high, -, up, dn⟩ := pb_near_spec hs hz
  obtain ⟨i2, gg2, g02, eo2, low2, high2, -, up2, dn2⟩ := pb_near_spec hs hz2
  have eg : gg2 = gg := by omega
  subst eg
  obtain ⟨-, -, k1, k2⟩ := hs
  have q1 : 8 * gg2 ≤ k * gg2 := Int.mul_le_mul_of_nonneg_right k1 (by omega)
  have x1 : k * i * (32 * gg2) = 32 * (i * (k * gg2)) := by ac_rfl
  have x2 : k * i2 * (32 * gg2) = 32 * (i2 * (k * gg2)) := by ac_rfl
  rw [x1] at low high up dn
  rw [x2] at low2 high2 up2 dn2
  have hTn : fp_R (-T) := fp_R_neg hT
  generalize hQ : k * gg2 = Q at *
  have hsum : i * Q + i2 * Q = (i + i2) * Q := (Int.add_mul i i2 Q).symm
  have c1 : i + i2 ≤ 1 := by
    refine Int.not_lt.mp (fun hlt => ?_)
    have : 2 * Q ≤ (i + i2) * Q := Int.mul_le_mul_of_nonneg_right (by omega) (by omega)
    omega
  have c2 : -1 ≤ i + i2 := by
    refine Int.not_lt.mp (fun hlt => ?_)
    have : (i + i2) * Q ≤ (-2) * Q := Int.mul_le_mul_of_nonneg_right (by omega) (by omega)
    omega
  rcases (show i + i2 = 0 ∨ i + i2 = 1 ∨ i + i2 = -1 by omega) with e | e | e
  · rw [e, Int.zero_mul] at hsum
    rcases h with h | h
    · exact Or.inr (up2 _ hTn (by
        have : ¬ (fp_Z z - 32 * (i * Q) ≤ T) := fun q => absurd (up T hT q) (by omega)
        omega))
    · exact Or.inl (dn2 _ hT (by
        have : ¬ (-T ≤ fp_Z z - 32 * (i * Q)) := fun q => absurd (dn _ hTn q) (by omega)
        omega))
  · rw [e, Int.one_mul] at hsum
    exact Or.inr (up2 _ hTn (by omega))
  · rw [e, Int.neg_mul, Int.one_mul] at hsum
    exact Or.inl (dn2 _ hT (by omega))
theorem pb_sub_p {x y : UInt64} (hx : pb_Ip x) (hy : pb_Ip y) : fp_I (FP.dsub x y) (fp_d (-1) 1122) (fp_d 1 1122) := (fp_I_sub (fp_d (-33) 1074) (fp_d 33 1074) hx hy (by decide +kernel)).w (by decide +kernel) (by decide +kernel)
theorem pb_r2_I {side x1 y1 x2 y2 : UInt64} {k : Int} (hs : pb_S side k) (h1 : fp_I (FP.dsub x2 x1) (fp_d (-1) 1122) (fp_d 1 1122)) (h2 : fp_I (FP.dsub y2 y1) (fp_d (-1) 1122) (fp_d 1 1122)) : fp_I (pb_r2 side x1 y1 x2 y2) 0 (fp_d 578 1074) := by
  have a := fp_I_sq (fp_d 289 1074) (pb_near_I hs h1) (by decide +kernel)
  have b := fp_I_sq (fp_d 289 1074) (pb_near_I hs h2) (by decide +kernel)
  exact fp_I_add 0 (fp_d 578 1074) a b (by decide +kernel)
/-- no OVERLAP seen one way: r2 is not small seen the other way -/
theorem pb_r2_flip {side x1 y1 x2 y2 : UInt64} {k : Int} (hs : pb_S side k) (hx1 : pb_Ip x1) (hy1 : pb_Ip y1) (hx2 : pb_Ip x2) (hy2 : pb_Ip y2) (h : ¬ FP.dcmp (pb_r2 side x1 y1 x2 y2) 4562146422526312448 = some .lt) : fp_d 1 1062 ≤ fp_Z (pb_r2 side x2 y2 x1 y1) := by
  have cx := pb_sub_p hx2 hx1
  have cy := pb_sub_p hy2 hy1
  have dx := pb_sub_p hx1 hx2
  have dy := pb_sub_p hy1 hy2
  have hr := pb_r2_I hs cx cy
  have hc := fp_const (a := 4562146422526312448) (T := fp_d 1 1064) (by decide +kernel)
  have hge : fp_d 1 1064 ≤ fp_Z (pb_r2 side x1 y1 x2 y2) := by
    refine Int.not_lt.mp (fun hlt => h ?_)
    exact FP.Core.dcmp_lt.mpr ⟨FP.Core.DFin.ne_nan hr.1, FP.Core.DFin.ne_nan hc.1, Int.lt_of_lt_of_le hlt hc.2.1⟩
  have na := pb_near_I hs cx
  have nb := pb_near_I hs cy
  have na2 := pb_near_I hs dx
  have nb2 := pb_near_I hs dy
  have rT : fp_R (fp_d 1 1068) := fp_R_dec (by decide +kernel)
  have t0 : 0 ≤ fp_d 1 1068 := by decide +kernel
  have t1 : fp_d 1 1068 ≤ fp_o := by decide +kernel
  have big : (fp_d 1 1068 < fp_Z (pb_near side (FP.dsub x2 x1)) ∨ fp_Z (pb_near side (FP.dsub x2 x1)) < -(fp_d 1 1068)) ∨ (fp_d 1 1068 < fp_Z (pb_near side (FP.dsub y2 y1)) ∨ fp_Z (pb_near side (FP.dsub y2 y1)) < -(fp_d 1 1068)) := by
    refine Classical.byContradiction (fun hb => ?_)
    have e2 : -(fp_d 1 1068) = fp_d (-1) 1068 := by decide +kernel
    have ia : fp_I (pb_near side (FP.dsub x2 x1)) (fp_d (-1) 1068) (fp_d 1 1068) := ⟨na.1, by rw [← e2]; exact Int.not_lt.mp (fun q => hb (Or.inl (Or.inr q))), Int.not_lt.mp (fun q => hb (Or.inl (Or.inl q)))⟩
    have ib : fp_I (pb_near side (FP.dsub y2 y1)) (fp_d (-1) 1068) (fp_d 1 1068) := ⟨nb.1, by rw [← e2]; exact Int.not_lt.mp (fun q => hb (Or.inr (Or.inr q))), Int.not_lt.mp (fun q => hb (Or.inr (Or.inl q)))⟩
    have sa := fp_I_sq (fp_d 1 1062) ia (by decide +kernel)
    have sb := fp_I_sq (fp_d 1 1062) ib (by decide +kernel)
    have ss := fp_I_add 0 (fp_d 1 1063) sa sb (by decide +kernel)
    have h5 := ss.2.2
    have h6 : fp_d 1 1063 < fp_d 1 1064 := by decide +kernel
    have h7 : fp_Z (pb_r2 side x1 y1 x2 y2) ≤ fp_d 1 1063 := h5
    omega
  have sqb : ∀ w : UInt64, fp_I w (fp_d (-17) 1074) (fp_d 17 1074) → (fp_d 1 1068 ≤ fp_Z w ∨ fp_Z w ≤ -(fp_d 1 1068)) → fp_d 1 1062 ≤ fp_Z (FP.dmul w w) := by
    intro w hw hh
    have rr : fp_R (fp_d 1 1062) := fp_R_dec (by decide +kernel)
    refine fp_mul_ge hw.1 hw.1 rr ?_
    have e : fp_d 1 1062 * fp_o = fp_d 1 1068 * fp_d 1 1068 := by decide +kernel
    rw [e]
    rcases hh with hh | hh
    · exact Int.mul_le_mul hh hh t0 (Int.le_trans t0 hh)
    · have h9 : fp_d 1 1068 ≤ -fp_Z w := by omega
      have := Int.mul_le_mul h9 h9 t0 (Int.le_trans t0 h9)
      rwa [Int.neg_mul_neg] at this
  have rr : fp_R (fp_d 1 1062) := fp_R_dec (by decide +kernel)
  have qa := fp_I_sq (fp_d 289 1074) na2 (by decide +kernel)
  have qb := fp_I_sq (fp_d 289 1074) nb2 (by decide +kernel)
  have za := qa.2.1
  have zb := qb.2.1
  rcases big with hb | hb
  · have := sqb _ na2 (pb_near_flip hs cx dx (fp_sub_anti hx2.1 hx1.1) rT t0 t1 hb)
    exact fp_add_ge qa.1 qb.1 rr (by omega)
  · have := sqb _ nb2 (pb_near_flip hs cy dy (fp_sub_anti hy2.1 hy1.1) rT t0 t1 hb)
    exact fp_add_ge qa.1 qb.1 rr (by omega)
