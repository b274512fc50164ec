/-! further bounds: whole numbers, the sums of TEMPERATURE and of motion, ROOT -/
theorem fp_of_DInt {i : Int} {a : UInt64} (h : FP.Core.DInt i a) : fp_F a ∧ fp_Z a = i * fp_o := by
  refine ⟨?_, FP.Core.DInt_zval h⟩
  unfold FP.Core.DInt at h
  show ∃ s c q, FP.Core.val64 a = .fin s c q
  cases hd : FP.Core.val64 a with
  | nan => rw [hd] at h; exact h.elim
  | inf s => rw [hd] at h; exact h.elim
  | fin s c q => exact ⟨s, c, q, rfl⟩
theorem pb_i2d_I {k : Nat} (h1 : 1 ≤ k) (h2 : k ≤ 10) : fp_I (FP.i2d (nI k)) (fp_d 1 1074) (fp_d 10 1074) := by
  have h := FP.Core.i2d_int (nI k)
  rw [nI_toInt (by omega)] at h
  obtain ⟨hf, hz⟩ := fp_of_DInt h
  obtain ⟨gg, g0, eo, -, -, e3, -⟩ := pb_gg
  have a1 : 1 * fp_o ≤ (k : Int) * fp_o := Int.mul_le_mul_of_nonneg_right (by omega) (Int.le_of_lt fp_o_pos)
  have a2 : (k : Int) * fp_o ≤ 10 * fp_o := Int.mul_le_mul_of_nonneg_right (by omega) (Int.le_of_lt fp_o_pos)
  refine ⟨hf, ?_, ?_⟩
  · show _ ≤ fp_Z (FP.Core.i2d (nI k)); rw [hz, e3, ← eo]; exact a1
  · show fp_Z (FP.Core.i2d (nI k)) ≤ _; rw [hz, e3, ← eo]; exact a2
theorem pb_d_mono {M N : Int} {j : Nat} (h : M ≤ N) : fp_d M j ≤ fp_d N j := Int.mul_le_mul_of_nonneg_right h (Int.natCast_nonneg _)
theorem pb_hs_I10 {mass u v : Nat → UInt64} {n : Nat} (hn : n ≤ 10) (hm : ∀ i, i < n → pb_Im (mass i)) (hu : ∀ i, i < n → pb_Iu (u i)) (hv : ∀ i, i < n → pb_Iu (v i)) (i : Nat) (hi : i ≤ n) : fp_I (pb_hs mass u v i) 0 (fp_d 10 1161) :=
  (pb_hs_I hn hm hu hv i hi).w (Int.le_refl _) (pb_d_mono (by omega))
/-- the ENERGY of motion -/
def pb_em (mass u v : Nat → UInt64) : Nat → UInt64
  | 0 => FP.dconst0
  | i + 1 => FP.dadd (pb_em mass u v i) (FP.dmul (FP.dmul 4602678819172646912 (mass i)) (FP.dadd (FP.dmul (u i) (u i)) (FP.dmul (v i) (v i))))
theorem pb_em_I {mass u v : Nat → UInt64} {n : Nat} (hn : n ≤ 10) (hm : ∀ i, i < n → pb_Im (mass i)) (hu : ∀ i, i < n → pb_Iu (u i)) (hv : ∀ i, i < n → pb_Iu (v i)) : ∀ i, i ≤ n → fp_I (pb_em mass u v i) 0 (fp_d (i : Int) 1161)
  | 0, _ => (fp_const (a := FP.dconst0) (T := 0) (by decide +kernel)).w (Int.le_refl _) (by decide +kernel)
  | i + 1, h => by
    have ih := pb_em_I hn hm hu hv i (by omega)
    have a := fp_I_sq (fp_d 1 1154) (hu i (by omega)) (by decide +kernel)
    have b := fp_I_sq (fp_d 1 1154) (hv i (by omega)) (by decide +kernel)
    have c := fp_I_add 0 (fp_d 1 1155) a b (by decide +kernel)
    have hh := fp_const (a := 4602678819172646912) (T := fp_d 1 1073) (by decide +kernel)
    have m2 := fp_I_mul (fp_d 1 1070) (fp_d 1 1079) hh (hm i (by omega)) (by decide +kernel)
    have t := fp_I_mul 0 (fp_d 1 1161) m2 c (by decide +kernel)
    have r0 : fp_R 0 := fp_R_dec (by decide)
    have r1 : fp_R (fp_d ((i + 1 : Nat) : Int) 1161) := fp_R_int (by omega) (by omega) (by decide)
    have e : fp_d ((i + 1 : Nat) : Int) 1161 = fp_d (i : Int) 1161 + fp_d 1 1161 := by rw [show ((i + 1 : Nat) : Int) = (i : Int) + 1 by omega]; exact pb_dadd_d _ _
    have a1 := ih.2.1; have a2 := ih.2.2; have b1 := t.2.1; have b2 := t.2.2
    exact fp_mk (fp_add_nn ih.1 t.1) r0 r1 (fp_add_ge ih.1 t.1 r0 (by omega)) (fp_add_le ih.1 t.1 r1 (by omega))
theorem pb_em_I10 {mass u v : Nat → UInt64} {n : Nat} (hn : n ≤ 10) (hm : ∀ i, i < n → pb_Im (mass i)) (hu : ∀ i, i < n → pb_Iu (u i)) (hv : ∀ i, i < n → pb_Iu (v i)) (i : Nat) (hi : i ≤ n) : fp_I (pb_em mass u v i) 0 (fp_d 10 1161) :=
  (pb_em_I hn hm hu hv i hi).w (Int.le_refl _) (pb_d_mono (by omega))
/-- ROOT -/
def pb_rt (z : UInt64) : Nat → UInt64
  | 0 => FP.dmul (FP.dadd z FP.dconst1) 4602678819172646912
  | k + 1 => FP.dmul (FP.dadd (pb_rt z k) (FP.ddiv z (pb_rt z k))) 4602678819172646912
def pb_root (z : UInt64) : UInt64 := if FP.dcmp z FP.dconst0 = some .eq then FP.dconst0 else pb_rt z 40
theorem pb_two (j : Nat) : fp_d 1 (j + 1) = 2 * fp_d 1 j := by
  unfold fp_d
  rw [Nat.pow_succ, Int.natCast_mul]
  generalize ((2 ^ j : Nat) : Int) = q
  omega
theorem pb_rt_low {z : UInt64} (hz : fp_I z 0 (fp_d 1 1105)) : ∀ k, k ≤ 40 → fp_I (pb_rt z k) (fp_d 1 (1073 - k)) (fp_d 1 1146)
  | 0, _ => by
    have h1 := fp_const (a := FP.dconst1) (T := fp_d 1 1074) (by decide +kernel)
    have hh := fp_const (a := 4602678819172646912) (T := fp_d 1 1073) (by decide +kernel)
    have a := fp_I_add (fp_d 1 1074) (fp_d 1 1106) hz h1 (by decide +kernel)
    exact fp_I_mul (fp_d 1 1073) (fp_d 1 1146) a hh (by decide +kernel)
  | k + 1, h => by
    have ih := pb_rt_low hz k (by omega)
    have hh := fp_const (a := 4602678819172646912) (T := fp_d 1 1073) (by decide +kernel)
    have lowk : fp_d 1 1033 ≤ fp_d 1 (1073 - k) := by
      unfold fp_d
      rw [Int.one_mul, Int.one_mul]
      exact Int.ofNat_le.mpr (Nat.pow_le_pow_right (by decide) (by omega))
    have ih2 := ih.w lowk (Int.le_refl _)
    have q := fp_I_div 0 (fp_d 1 1146) hz ih2 (by decide +kernel)
    have e1 : fp_d 1 (1073 - k) = 2 * fp_d 1 (1073 - (k + 1)) := by rw [show 1073 - k = (1073 - (k + 1)) + 1 by omega]; exact pb_two _
    have e2 : fp_d 1 1147 = 2 * fp_d 1 1146 := pb_two 1146
    have r1 : fp_R (fp_d 1 (1073 - k)) := fp_R_int (by decide) (by decide) (by omega)
    have r2 : fp_R (fp_d 1 1147) := fp_R_dec (by decide +kernel)
    have a1 := ih.2.1; have a2 := ih.2.2; have b1 := q.2.1; have b2 := q.2.2
    have s : fp_I (FP.dadd (pb_rt z k) (FP.ddiv z (pb_rt z k))) (fp_d 1 (1073 - k)) (fp_d 1 1147) := fp_mk (fp_add_nn ih.1 q.1) r1 r2 (fp_add_ge ih.1 q.1 r1 (by omega)) (fp_add_le ih.1 q.1 r2 (by omega))
    have r3 : fp_R (fp_d 1 (1073 - (k + 1))) := fp_R_int (by decide) (by decide) (by omega)
    have r4 : fp_R (fp_d 1 1146) := fp_R_dec (by decide +kernel)
    have hz2 : fp_Z 4602678819172646912 = fp_d 1 1073 := by decide +kernel
    have ho : fp_o = 2 * fp_d 1 1073 := by rw [← pb_two 1073]; exact fp_o_eq
    have hp : 0 ≤ fp_d 1 1073 := by decide +kernel
    refine fp_mk (fp_mul_nn s.1 hh.1) r3 r4 (fp_mul_ge s.1 hh.1 r3 ?_) (fp_mul_le s.1 hh.1 r4 ?_)
    · rw [hz2, ho]
      refine Int.le_trans (Int.le_of_eq ?_) (Int.mul_le_mul_of_nonneg_right s.2.1 hp)
      rw [e1]
      generalize fp_d 1 1073 = q1
      generalize fp_d 1 (1073 - (k + 1)) = q2
      ac_rfl
    · rw [hz2, ho]
      refine Int.le_trans (Int.mul_le_mul_of_nonneg_right s.2.2 hp) (Int.le_of_eq ?_)
      rw [e2]
      generalize fp_d 1 1073 = q1
      generalize fp_d 1 1146 = q2
      ac_rfl
theorem pb_rt_I {z : UInt64} (hz : fp_I z 0 (fp_d 1 1105)) (k : Nat) (hk : k ≤ 40) : fp_I (pb_rt z k) (fp_d 1 1033) (fp_d 1 1146) := by
  refine (pb_rt_low hz k hk).w ?_ (Int.le_refl _)
  unfold fp_d
  rw [Int.one_mul, Int.one_mul]
  exact Int.ofNat_le.mpr (Nat.pow_le_pow_right (by decide) (by omega))
theorem pb_root_I {z : UInt64} (hz : fp_I z 0 (fp_d 1 1105)) : fp_I (pb_root z) 0 (fp_d 1 1146) := by
  unfold pb_root
  split
  · exact (fp_const (a := FP.dconst0) (T := 0) (by decide +kernel)).w (Int.le_refl _) (by decide +kernel)
  · exact (pb_rt_I hz 40 (Nat.le_refl _)).w (by decide +kernel) (Int.le_refl _)
/-- where the speeds go -/
def pb_fast (z : UInt64) : Prop := FP.dcmp z 4696837146684686336 = some .gt ∨ FP.dcmp z 13920209183539462144 = some .lt
def pb_in (z lo hi : UInt64) : Prop := (FP.dcmp z lo = some .gt ∨ FP.dcmp z lo = some .eq) ∧ (FP.dcmp z hi = some .lt ∨ FP.dcmp z hi = some .eq)
def pb_has (n : Nat) (q : Int32) : Prop := ¬ q < 0 ∧ ¬ nI n ≤ q
def pb_ease (mass : Nat → UInt64) (stuck : Nat → Int32) (i : Nat) : UInt64 := if stuck i = 0 then FP.ddiv FP.dconst1 (mass i) else FP.dconst0
theorem pb_ease_I {mass : Nat → UInt64} {stuck : Nat → Int32} {i : Nat} (h : pb_Im (mass i)) : fp_I (pb_ease mass stuck i) 0 (fp_d 8 1074) := by
  unfold pb_ease
  split
  · have h1 := fp_const (a := FP.dconst1) (T := fp_d 1 1074) (by decide +kernel)
    exact (fp_I_div (fp_d 1 1068) (fp_d 8 1074) h1 h (by decide +kernel)).w (by decide +kernel) (Int.le_refl _)
  · exact (fp_const (a := FP.dconst0) (T := 0) (by decide +kernel)).w (Int.le_refl _) (by decide +kernel)
