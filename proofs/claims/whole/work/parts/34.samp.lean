/-! SAMPLES: the bin of a PAIR, the counts -/
/-- the quotient whose floor is the bin -/
def pb_q (cut r2 : UInt64) : UInt64 := FP.ddiv r2 (FP.ddiv (FP.dmul cut cut) 4625196817309499392)
/-- the bin, as the class has it -/
def pb_bni (z : UInt64) : Int32 := if FP.dcmp (pb_floor z) 4625196817309499392 = some .lt then FP.d2i (pb_floor z) else 15
def pb_bnk (z : UInt64) : Nat := (pb_bni z).toNatClampNeg
theorem pb_16 : fp_F 4625196817309499392 ∧ fp_Z 4625196817309499392 = 16 * fp_o := ⟨(fp_const (a := 4625196817309499392) (T := fp_d 16 1074) (by decide +kernel)).1, by decide +kernel⟩
theorem pb_15 : fp_F 4624633867356078080 ∧ fp_Z 4624633867356078080 = 15 * fp_o := ⟨(fp_const (a := 4624633867356078080) (T := fp_d 15 1074) (by decide +kernel)).1, by decide +kernel⟩
theorem pb_mul_lt {i B : Int} (h : i * fp_o < B * fp_o) : i < B := Int.lt_of_mul_lt_mul_right h (Int.le_of_lt fp_o_pos)
/-- a whole number, made an int -/
theorem pb_d2i_w {a : UInt64} {i : Int} (hf : fp_F a) (hz : fp_Z a = i * fp_o) (h0 : 0 ≤ i) (h1 : i < 2147483647) : FP.d2i a = nI i.toNat := by
  have hn := FP.Core.DFin.ne_nan hf
  have hv := FP.Core.d2i_val hn
  have hsz : fp_Z a = FP.Core.signed (FP.Core.sgn (FP.Core.val64 a)) (FP.Core.zmag FP.Core.b64 (FP.Core.val64 a)) := rfl
  have ho := FP.Core.one64_pos
  have hoi := fp_o_pos
  rw [hz] at hsz
  generalize FP.Core.zmag FP.Core.b64 (FP.Core.val64 a) = mm at *
  generalize FP.Core.sgn (FP.Core.val64 a) = sg at *
  obtain ⟨k, rfl⟩ : ∃ k : Nat, i = (k : Int) := ⟨i.toNat, by omega⟩
  have hpr : ((FP.Core.one64 * k : Nat) : Int) = (k : Int) * fp_o := by unfold fp_o; rw [Nat.mul_comm]; exact Int.natCast_mul _ _
  rw [← hpr] at hsz
  have hq : FP.Core.signed sg (mm / FP.Core.one64) = (k : Int) := by
    cases sg
    · simp only [FP.Core.signed, Bool.false_eq_true, if_false] at hsz ⊢
      have : mm = FP.Core.one64 * k := by omega
      rw [this, Nat.mul_div_cancel_left _ ho]
    · simp only [FP.Core.signed, if_true] at hsz ⊢
      have h2 : FP.Core.one64 * k = 0 := by omega
      have h3 : mm = 0 := by omega
      have h4 : k = 0 := by
        rcases Nat.mul_eq_zero.mp h2 with h | h
        · omega
        · exact h
      rw [h3, h4]; simp
  rw [hq] at hv
  have h5 : (FP.d2i a).toInt = (k : Int) := by
    refine Eq.trans hv ?_
    omega
  refine Int32.toInt_inj.mp ?_
  rw [h5, Int.toNat_natCast, nI_toInt (by omega)]
theorem pb_bni_w {z : UInt64} (hz : fp_I z 0 (fp_d 1 1121)) : ∃ i : Int, 0 ≤ i ∧ fp_F (pb_floor z) ∧ fp_Z (pb_floor z) = i * fp_o ∧ pb_bni z = nI (if i < 16 then i.toNat else 15) := by
  obtain ⟨i, f1, f2, f3, f4⟩ := pb_floor_spec hz.1 (Int.lt_of_lt_of_le (by decide +kernel) hz.2.1) (Int.lt_of_le_of_lt hz.2.2 (by decide +kernel))
  have h0 : 0 ≤ i := by
    have : 0 * fp_o < (i + 1) * fp_o := by rw [Int.zero_mul]; exact Int.lt_of_le_of_lt hz.2.1 f4
    have := pb_mul_lt this
    omega
  refine ⟨i, h0, f1, f2, ?_⟩
  unfold pb_bni
  by_cases hc : FP.dcmp (pb_floor z) 4625196817309499392 = some .lt
  · have h1 := fp_lt hc
    rw [f2, pb_16.2] at h1
    have h2 := pb_mul_lt h1
    rw [if_pos hc, if_pos h2]
    exact pb_d2i_w f1 f2 h0 (by omega)
  · have h2 : ¬ i < 16 := fun h => hc (by
      rw [fp_cmp f1 pb_16.1, f2, pb_16.2]
      congr 1
      exact Int.compare_eq_lt.mpr (Int.mul_lt_mul_of_pos_right h fp_o_pos))
    rw [if_neg hc, if_neg h2]
    decide +kernel
theorem pb_bni_k {z : UInt64} (hz : fp_I z 0 (fp_d 1 1121)) : pb_bni z = nI (pb_bnk z) ∧ pb_bnk z < 16 := by
  obtain ⟨i, h0, -, -, h⟩ := pb_bni_w hz
  have hb : (if i < 16 then i.toNat else 15) < 16 := by
    by_cases h : i < 16
    · rw [if_pos h]; omega
    · rw [if_neg h]; omega
  have hk : pb_bnk z = (if i < 16 then i.toNat else 15) := by
    unfold pb_bnk
    rw [h, nI_clamp (by omega)]
  rw [hk]
  exact ⟨h, hb⟩
/-- the other writing of it -/
theorem pb_bni_r {z : UInt64} (hz : fp_I z 0 (fp_d 1 1121)) : (if FP.dcmp (pb_floor z) 4624633867356078080 = some .gt then 15 else FP.d2i (pb_floor z)) = pb_bni z := by
  obtain ⟨i, h0, f1, f2, h⟩ := pb_bni_w hz
  rw [h]
  by_cases hc : FP.dcmp (pb_floor z) 4624633867356078080 = some .gt
  · have h1 := fp_gt hc
    rw [f2, pb_15.2] at h1
    have h2 := pb_mul_lt h1
    rw [if_pos hc, if_neg (by omega)]
    decide +kernel
  · have h2 : ¬ 15 < i := fun h => hc (by
      rw [fp_cmp f1 pb_15.1, f2, pb_15.2]
      congr 1
      exact Int.compare_eq_gt.mpr (Int.mul_lt_mul_of_pos_right h fp_o_pos))
    rw [if_neg hc, if_pos (by omega)]
    exact pb_d2i_w f1 f2 h0 (by omega)
def pb_slot (a b k : Nat) : Nat := (min a b * 3 + max a b) * 16 + k
theorem pb_slot_lt {a b k : Nat} (ha : a < 3) (hb : b < 3) (hk : k < 16) : pb_slot a b k < 144 := by unfold pb_slot; omega
theorem nI_mul (a b : Nat) : nI a * nI b = nI (a * b) := (Int32.ofNat_mul a b).symm
def pb_B : Type := Nat × (Nat → Int32)
/-- one PAIR more -/
def pb_s1 (side cut : UInt64) (x y : Nat → UInt64) (so : Nat → Nat) (i j : Nat) (t : Nat × (Nat → Int32)) : Nat × (Nat → Int32) :=
  (t.1 + 1, upd t.2 (pb_slot (so i) (so j) (pb_bnk (pb_q cut (pb_rij side x y i j)))) (t.2 (pb_slot (so i) (so j) (pb_bnk (pb_q cut (pb_rij side x y i j)))) + 1))
def pb_sin (side cut : UInt64) (x y : Nat → UInt64) (so : Nat → Nat) (i : Nat) (t : Nat × (Nat → Int32)) : Nat → Nat × (Nat → Int32)
  | 0 => t
  | j + 1 => if i < j ∧ pb_prp side cut x y i j then pb_s1 side cut x y so i j (pb_sin side cut x y so i t j) else pb_sin side cut x y so i t j
def pb_sout (side cut : UInt64) (x y : Nat → UInt64) (so : Nat → Nat) (n : Nat) (t : Nat × (Nat → Int32)) : Nat → Nat × (Nat → Int32)
  | 0 => t
  | i + 1 => pb_sin side cut x y so i (pb_sout side cut x y so n t i) n
theorem pb_sin_start {side cut : UInt64} {x y : Nat → UInt64} {so : Nat → Nat} {i : Nat} {t : Nat × (Nat → Int32)} : ∀ j, j ≤ i + 1 → pb_sin side cut x y so i t j = t
  | 0, _ => rfl
  | j + 1, h => by
    show (if i < j ∧ pb_prp side cut x y i j then _ else _) = _
    rw [if_neg (fun q => by have := q.1; omega)]
    exact pb_sin_start j (by omega)
theorem pb_sin_le {side cut : UInt64} {x y : Nat → UInt64} {so : Nat → Nat} {i : Nat} {t : Nat × (Nat → Int32)} : ∀ j, (pb_sin side cut x y so i t j).1 ≤ t.1 + j
  | 0 => Nat.le_refl _
  | j + 1 => by
    show (if i < j ∧ pb_prp side cut x y i j then _ else _ : Nat × (Nat → Int32)).1 ≤ _
    have := pb_sin_le (side := side) (cut := cut) (x := x) (y := y) (so := so) (i := i) (t := t) j
    by_cases h : i < j ∧ pb_prp side cut x y i j
    · rw [if_pos h]
      show (pb_sin side cut x y so i t j).1 + 1 ≤ _
      omega
    · rw [if_neg h]
      omega
theorem pb_sout_le {side cut : UInt64} {x y : Nat → UInt64} {so : Nat → Nat} {n : Nat} {t : Nat × (Nat → Int32)} : ∀ i, (pb_sout side cut x y so n t i).1 ≤ t.1 + i * n
  | 0 => by simp [pb_sout]
  | i + 1 => by
    have h1 := pb_sout_le (side := side) (cut := cut) (x := x) (y := y) (so := so) (n := n) (t := t) i
    have h2 := pb_sin_le (side := side) (cut := cut) (x := x) (y := y) (so := so) (i := i) (t := pb_sout side cut x y so n t i) n
    have h3 : (i + 1) * n = i * n + n := by rw [Nat.add_mul, Nat.one_mul]
    show (pb_sin side cut x y so i (pb_sout side cut x y so n t i) n).1 ≤ _
    omega
theorem pb_q_I {cut r2 : UInt64} (hc : pb_Icut cut) (hr : fp_I r2 0 (fp_d 578 1074)) : fp_I (pb_q cut r2) 0 (fp_d 1 1121) := by
  have g1 := fp_I_mul (fp_d 1 1072) (fp_d 1 1082) hc hc (by decide +kernel)
  have g2 := fp_I_div (fp_d 1 1068) (fp_d 1 1078) g1 (fp_const (a := 4625196817309499392) (T := fp_d 16 1074) (by decide +kernel)) (by decide +kernel)
  exact (fp_I_div 0 (fp_d 1 1090) hr g2 (by decide +kernel)).w (by decide +kernel) (by decide +kernel)
