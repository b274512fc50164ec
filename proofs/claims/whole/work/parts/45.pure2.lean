/-! ROOT lies between its number and one; scale keeps the speeds in bounds; a STEP keeps the bounds -/
theorem fp_R_two {a : UInt64} (h : fp_F a) (hb : (fp_Z a).natAbs < 2 ^ 2000) : fp_R (2 * fp_Z a) := by
  obtain ⟨s, c, q, hd⟩ := h
  have hf := FP.Core.val64_fits a
  rw [hd] at hf
  obtain ⟨h1, h2, h3, -⟩ := hf
  have hz := fp_zabs (FP.Core.val64 a)
  rw [hd] at hz
  have hm : FP.Core.zmag FP.Core.b64 (.fin s c q) = c * 2 ^ (q - FP.Core.b64.qmin).toNat := rfl
  rw [hm] at hz
  have hza : (fp_Z a).natAbs = c * 2 ^ (q - FP.Core.b64.qmin).toNat := by unfold fp_Z; rw [hd]; exact hz
  refine fp_R_abs ?_
  rw [Int.natAbs_mul, hza]
  generalize hj : (q - FP.Core.b64.qmin).toNat = j at *
  by_cases hc : c = 0
  · subst hc
    have := fp_R_nat 0 0 (by decide) (by decide)
    simpa using this
  · have hj2 : j < 2000 := by
      have : 2 ^ j ≤ c * 2 ^ j := Nat.le_mul_of_pos_left _ (Nat.pos_of_ne_zero hc)
      exact (Nat.pow_lt_pow_iff_right (by decide)).mp (Nat.lt_of_le_of_lt this (by rw [← hza]; exact hb))
    have e : ((2 : Int).natAbs : Nat) * (c * 2 ^ j) = c * 2 ^ (j + 1) := by
      rw [Nat.pow_succ, show (2 : Int).natAbs = 2 from rfl]
      generalize 2 ^ j = p9
      rw [Nat.mul_comm 2, Nat.mul_assoc]
    rw [e]
    exact fp_R_nat c (j + 1) h1 (by omega)
theorem pb_hz2 : fp_F 4602678819172646912 ∧ fp_Z 4602678819172646912 = fp_d 1 1073 := ⟨(fp_const (a := 4602678819172646912) (T := fp_d 1 1073) (by decide +kernel)).1, by decide +kernel⟩
theorem pb_ho2 : fp_o = 2 * fp_d 1 1073 := by rw [← pb_two 1073]; exact fp_o_eq
theorem pb_hp2 : 0 < fp_d 1 1073 := by decide +kernel
/-- half a sum between twice lo and twice hi -/
theorem pb_halve {s : UInt64} {lo hi : Int} (hs : fp_F s) (rl : fp_R lo) (rh : fp_R hi) (h1 : 2 * lo ≤ fp_Z s) (h2 : fp_Z s ≤ 2 * hi) : fp_I (FP.dmul s 4602678819172646912) lo hi := by
  have hp := Int.le_of_lt pb_hp2
  refine fp_mk (fp_mul_nn hs pb_hz2.1) rl rh (fp_mul_ge hs pb_hz2.1 rl ?_) (fp_mul_le hs pb_hz2.1 rh ?_)
  · rw [pb_hz2.2, pb_ho2]
    refine Int.le_trans (Int.le_of_eq ?_) (Int.mul_le_mul_of_nonneg_right h1 hp)
    generalize fp_d 1 1073 = q1
    ac_rfl
  · rw [pb_hz2.2, pb_ho2]
    refine Int.le_trans (Int.mul_le_mul_of_nonneg_right h2 hp) (Int.le_of_eq ?_)
    generalize fp_d 1 1073 = q1
    ac_rfl
theorem pb_rt_box {z : UInt64} {lo hi : Int} (hz : fp_F z) (rl : fp_R lo) (rh : fp_R hi) (rl2 : fp_R (2 * lo)) (rh2 : fp_R (2 * hi)) (h0 : 0 < lo) (hlh : lo ≤ hi) (hprod : lo * hi = fp_Z z * fp_o) (hsum : lo + hi = fp_Z z + fp_o) : ∀ k, fp_I (pb_rt z k) lo hi
  | 0 => by
    have h1 := fp_const (a := FP.dconst1) (T := fp_o) (by decide +kernel)
    have e1 : fp_Z FP.dconst1 = fp_o := Int.le_antisymm h1.2.2 h1.2.1
    have sF : fp_I (FP.dadd z FP.dconst1) (2 * lo) (2 * hi) := fp_mk (fp_add_nn hz h1.1) rl2 rh2 (fp_add_ge hz h1.1 rl2 (by rw [e1]; omega)) (fp_add_le hz h1.1 rh2 (by rw [e1]; omega))
    exact pb_halve sF.1 rl rh sF.2.1 sF.2.2
  | k + 1 => by
    have ih := pb_rt_box hz rl rh rl2 rh2 h0 hlh hprod hsum k
    have a1 := ih.2.1
    have a2 := ih.2.2
    have hr : 0 < fp_Z (pb_rt z k) := by omega
    have q : fp_I (FP.ddiv z (pb_rt z k)) lo hi := fp_mk (fp_div_nn hz ih.1 (by omega)) rl rh
      (fp_div_ge hz ih.1 hr rl (by rw [← hprod]; exact Int.mul_le_mul_of_nonneg_left a2 (by omega)))
      (fp_div_le hz ih.1 hr rh (by rw [← hprod, Int.mul_comm lo hi]; exact Int.mul_le_mul_of_nonneg_left a1 (by omega)))
    have b1 := q.2.1
    have b2 := q.2.2
    have sF : fp_I (FP.dadd (pb_rt z k) (FP.ddiv z (pb_rt z k))) (2 * lo) (2 * hi) := fp_mk (fp_add_nn ih.1 q.1) rl2 rh2 (fp_add_ge ih.1 q.1 rl2 (by omega)) (fp_add_le ih.1 q.1 rh2 (by omega))
    exact pb_halve sF.1 rl rh sF.2.1 sF.2.2
theorem pb_oR : fp_R fp_o := by rw [fp_o_eq]; exact fp_R_dec (by decide +kernel)
theorem pb_oR2 : fp_R (2 * fp_o) := by rw [fp_o_eq, ← pb_two 1074]; exact fp_R_dec (by decide +kernel)
theorem pb_natAbs_lt {a : Int} (h0 : 0 ≤ a) (h : a ≤ fp_d 1 1105) : a.natAbs < 2 ^ 2000 := by
  have h1 : fp_d 1 1105 = ((2 ^ 1105 : Nat) : Int) := by unfold fp_d; rw [Int.one_mul]
  have h2 : (2 : Nat) ^ 1105 < 2 ^ 2000 := Nat.pow_lt_pow_right (by decide) (by decide)
  rw [h1] at h
  have : (a.natAbs : Int) ≤ ((2 ^ 1105 : Nat) : Int) := by omega
  exact Nat.lt_of_le_of_lt (Int.ofNat_le.mp this) h2
theorem pb_root_lo {z : UInt64} (hz : fp_I z 0 (fp_d 1 1105)) (h1 : fp_Z z ≤ fp_o) : fp_I (pb_root z) 0 fp_o := by
  unfold pb_root
  have c0 := fp_const (a := FP.dconst0) (T := 0) (by decide +kernel)
  have e0 : fp_Z FP.dconst0 = 0 := by decide +kernel
  split
  · exact c0.w (Int.le_refl _) (Int.le_of_lt fp_o_pos)
  · rename_i h
    have hne : fp_Z z ≠ 0 := fun e => h (by rw [fp_cmp hz.1 c0.1, e, e0]; rfl)
    have h0 := hz.2.1
    have hp := fp_o_pos
    exact (pb_rt_box (lo := fp_Z z) (hi := fp_o) hz.1 (fp_R_of hz.1) pb_oR (fp_R_two hz.1 (pb_natAbs_lt hz.2.1 hz.2.2)) pb_oR2 (by omega) h1 rfl rfl 40).w (by omega) (Int.le_refl _)
theorem pb_root_hi {z : UInt64} (hz : fp_I z 0 (fp_d 1 1105)) (h1 : fp_o < fp_Z z) : fp_I (pb_root z) 0 (fp_d 1 1105) := by
  unfold pb_root
  have c0 := fp_const (a := FP.dconst0) (T := 0) (by decide +kernel)
  have hp := fp_o_pos
  split
  · exact c0.w (Int.le_refl _) (by decide +kernel)
  · exact (pb_rt_box (lo := fp_o) (hi := fp_Z z) hz.1 pb_oR (fp_R_of hz.1) pb_oR2 (fp_R_two hz.1 (pb_natAbs_lt hz.2.1 hz.2.2)) hp (by omega) (Int.mul_comm _ _) (Int.add_comm _ _) 40).w (by omega) hz.2.2
theorem pb_sq_le {a B : Int} (hB : 0 ≤ B) (h : B ≤ a ∨ a ≤ -B) : B * B ≤ a * a := by
  rcases h with h | h
  · exact Int.mul_le_mul h h hB (by omega)
  · have h2 : B ≤ -a := by omega
    have := Int.mul_le_mul h2 h2 hB (by omega)
    rw [Int.neg_mul_neg] at this
    exact this
/-- where the TEMPERATURE isn't above 1000, no speed is above 512 -/
theorem pb_heat_uv {mass u v : Nat → UInt64} {stuck : Nat → Int32} {n : Nat} (hn : n ≤ 10) (hm : ∀ i, i < n → pb_Im (mass i)) (hu : ∀ i, i < n → pb_Iu (u i)) (hv : ∀ i, i < n → pb_Iu (v i)) (hl : pb_loose stuck n ≠ 0) (hh : fp_Z (pb_heat mass u v stuck n) ≤ fp_d 1000 1074) (i : Nat) (hi : i < n) :
    (-(fp_d 1 1083) ≤ fp_Z (u i) ∧ fp_Z (u i) ≤ fp_d 1 1083) ∧ (-(fp_d 1 1083) ≤ fp_Z (v i) ∧ fp_Z (v i) ≤ fp_d 1 1083) := by
  have h83 : 0 ≤ fp_d 1 1083 := by decide +kernel
  have squ := fp_I_sq (fp_d 1 1154) (hu i hi) (by decide +kernel)
  have sqv := fp_I_sq (fp_d 1 1154) (hv i hi) (by decide +kernel)
  have key : ∀ w : UInt64, fp_F w → (fp_d 1 1092 ≤ fp_Z (FP.dmul w w)) → (fp_Z (FP.dmul w w) ≤ fp_Z (FP.dadd (FP.dmul (u i) (u i)) (FP.dmul (v i) (v i)))) → False := fun w hw h1 h2 => by
    have r89 : fp_R (fp_d 1 1089) := fp_R_dec (by decide +kernel)
    have sF := fp_I_add 0 (fp_d 1 1155) squ sqv (by decide +kernel)
    have hmi := hm i hi
    have h3 : fp_d 1 1089 ≤ fp_Z (pb_ht mass u v i) := by
      unfold pb_ht
      refine fp_mul_ge hmi.1 sF.1 r89 ?_
      have e : fp_d 1 1089 * fp_o = fp_d 1 1071 * fp_d 1 1092 := by decide +kernel
      rw [e]
      exact Int.mul_le_mul hmi.2.1 (Int.le_trans h1 h2) (by decide +kernel) (Int.le_trans (by decide +kernel) hmi.2.1)
    have A := pb_hs_I hn hm hu hv i (by omega)
    have t := pb_ht_I (hm i hi) (hu i hi) (hv i hi)
    have h4 : fp_d 1 1089 ≤ fp_Z (pb_hs mass u v (i + 1)) := fp_add_ge A.1 t.1 r89 (by have := A.2.1; omega)
    have h5 := pb_hs_mono hn hm hu hv (i + 1) n (by omega) (Nat.le_refl _)
    have h6 : fp_d 1 1089 ≤ fp_Z (pb_hs mass u v n) := Int.le_trans h4 h5
    have l1 := pb_loose_le stuck n
    have k2 := fp_const (a := 4611686018427387904) (T := fp_d 2 1074) (by decide +kernel)
    have g := fp_I_mul (fp_d 2 1074) (fp_d 20 1074) k2 (pb_i2d_I (k := pb_loose stuck n) (by omega) (by omega)) (by decide +kernel)
    have hsF := pb_hs_I10 hn hm hu hv n (Nat.le_refl _)
    have r16 : fp_R (fp_d 1600 1074) := fp_R_dec (by decide +kernel)
    have h7 : fp_d 1600 1074 ≤ fp_Z (pb_heat mass u v stuck n) := by
      unfold pb_heat
      rw [if_neg hl]
      refine fp_div_ge hsF.1 g.1 (Int.lt_of_lt_of_le (by decide +kernel) g.2.1) r16 ?_
      have e : fp_d 1600 1074 * fp_d 20 1074 ≤ fp_d 1 1089 * fp_o := by decide +kernel
      exact Int.le_trans (Int.mul_le_mul_of_nonneg_left g.2.2 (by decide +kernel)) (Int.le_trans e (Int.mul_le_mul_of_nonneg_right h6 (Int.le_of_lt fp_o_pos)))
    have e2 : fp_d 1000 1074 < fp_d 1600 1074 := by decide +kernel
    omega
  have big : ∀ w : UInt64, fp_F w → (fp_d 1 1083 ≤ fp_Z w ∨ fp_Z w ≤ -(fp_d 1 1083)) → fp_d 1 1092 ≤ fp_Z (FP.dmul w w) := fun w hw h => by
    refine fp_mul_ge hw hw (fp_R_dec (by decide +kernel)) ?_
    have e : fp_d 1 1092 * fp_o = fp_d 1 1083 * fp_d 1 1083 := by decide +kernel
    rw [e]
    exact pb_sq_le h83 h
  have gu : fp_Z (FP.dmul (u i) (u i)) ≤ fp_Z (FP.dadd (FP.dmul (u i) (u i)) (FP.dmul (v i) (v i))) := fp_add_ge squ.1 sqv.1 (fp_R_of squ.1) (by have := sqv.2.1; omega)
  have gv : fp_Z (FP.dmul (v i) (v i)) ≤ fp_Z (FP.dadd (FP.dmul (u i) (u i)) (FP.dmul (v i) (v i))) := fp_add_ge squ.1 sqv.1 (fp_R_of sqv.1) (by have := squ.2.1; omega)
  have nu : ¬ (fp_d 1 1083 ≤ fp_Z (u i) ∨ fp_Z (u i) ≤ -(fp_d 1 1083)) := fun h => key (u i) (hu i hi).1 (big _ (hu i hi).1 h) gu
  have nv : ¬ (fp_d 1 1083 ≤ fp_Z (v i) ∨ fp_Z (v i) ≤ -(fp_d 1 1083)) := fun h => key (v i) (hv i hi).1 (big _ (hv i hi).1 h) gv
  generalize fp_d 1 1083 = B at *
  exact ⟨⟨by omega, by omega⟩, ⟨by omega, by omega⟩⟩
theorem pb_brg_I {tw : UInt64} {mass u v : pb_A} {stuck : Nat → Int32} {n : Nat} (hn : n ≤ 10) (hm : ∀ i, i < n → pb_Im (mass i)) (hu : ∀ i, i < n → pb_Iu (u i)) (hv : ∀ i, i < n → pb_Iu (v i)) (ht : pb_It tw) :
    (∀ i, i < n → pb_Iu (pb_brg tw mass stuck n u v u i)) ∧ (∀ i, i < n → pb_Iu (pb_brg tw mass stuck n u v v i)) := by
  by_cases hc : pb_cold mass u v stuck n
  · unfold pb_brg
    rw [pb_if_t hc, pb_if_t hc]
    exact ⟨hu, hv⟩
  · have hI := pb_heat_I (stuck := stuck) hn hm hu hv
    have c6 := fp_const (a := 4517329193108106637) (T := fp_Z 4517329193108106637) (by decide +kernel)
    have h6 : fp_Z 4517329193108106637 ≤ fp_Z (pb_heat mass u v stuck n) := by
      rcases Int.lt_or_le (fp_Z (pb_heat mass u v stuck n)) (fp_Z 4517329193108106637) with h | h
      · exact absurd (show pb_cold mass u v stuck n by unfold pb_cold; rw [fp_cmp hI.1 c6.1]; congr 1; exact Int.compare_eq_lt.mpr h) hc
      · exact h
    have e6 : fp_d 1 1054 ≤ fp_Z 4517329193108106637 := by decide +kernel
    have hI2 : fp_I (pb_heat mass u v stuck n) (fp_d 1 1054) (fp_d 10 1161) := ⟨hI.1, Int.le_trans e6 h6, hI.2.2⟩
    have hpos : 0 < fp_Z (pb_heat mass u v stuck n) := Int.lt_of_lt_of_le (by decide +kernel) hI2.2.1
    have hl : pb_loose stuck n ≠ 0 := fun h => by
      have : pb_heat mass u v stuck n = FP.dconst0 := by unfold pb_heat; rw [if_pos h]
      rw [this] at hpos
      exact absurd hpos (by decide +kernel)
    have hzI := fp_I_div 0 (fp_d 1 1105) ht hI2 (by decide +kernel)
    have fin : ∀ w : pb_A, (∀ i, i < n → pb_Iu (w i)) → (fp_Z (pb_heat mass u v stuck n) ≤ fp_d 1000 1074 → ∀ i, i < n → -(fp_d 1 1083) ≤ fp_Z (w i) ∧ fp_Z (w i) ≤ fp_d 1 1083) → ∀ i, i < n → pb_Iu (pb_brg tw mass stuck n u v w i) := fun w hw hb i hi => by
      unfold pb_brg
      rw [pb_if_f hc, pb_fill_at _ _ hi]
      unfold pb_scl
      split
      · rcases Int.lt_or_le fp_o (fp_Z (FP.ddiv tw (pb_heat mass u v stuck n))) with h | h
        · have hr := pb_root_hi hzI h
          have hlt : fp_Z (pb_heat mass u v stuck n) ≤ fp_d 1000 1074 := by
            rcases Int.lt_or_le (fp_Z (pb_heat mass u v stuck n)) (fp_Z tw) with g | g
            · have := ht.2.2; omega
            · have := fp_div_le ht.1 hI.1 hpos pb_oR (by rw [Int.mul_comm fp_o]; exact Int.mul_le_mul_of_nonneg_right g (Int.le_of_lt fp_o_pos))
              omega
          have hb9 := hb hlt i hi
          have hw9 : fp_I (w i) (fp_d (-1) 1083) (fp_d 1 1083) := ⟨(hw i hi).1, Int.le_trans (by decide +kernel) hb9.1, hb9.2⟩
          exact fp_I_mul _ _ hw9 hr (by decide +kernel)
        · have hr := (pb_root_lo hzI h).w (L' := 0) (U' := fp_d 1 1074) (Int.le_refl _) (by rw [fp_o_eq]; exact Int.le_refl _)
          exact fp_I_mul _ _ (hw i hi) hr (by decide +kernel)
      · exact hw i hi
    exact ⟨fin u hu (fun h i hi => (pb_heat_uv hn hm hu hv hl h i hi).1), fin v hv (fun h i hi => (pb_heat_uv hn hm hu hv hl h i hi).2)⟩
