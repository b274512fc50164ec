/-! TEMPERATURE, ROOT, scale -/
/-- speeds, masses -/
abbrev pb_Iu (a : UInt64) : Prop := fp_I a (fp_d (-1) 1114) (fp_d 1 1114)
abbrev pb_Im (a : UInt64) : Prop := fp_I a (fp_d 1 1071) (fp_d 64 1074)
def pb_ht (mass u v : Nat → UInt64) (i : Nat) : UInt64 := FP.dmul (mass i) (FP.dadd (FP.dmul (u i) (u i)) (FP.dmul (v i) (v i)))
def pb_hs (mass u v : Nat → UInt64) : Nat → UInt64
  | 0 => FP.dconst0
  | i + 1 => FP.dadd (pb_hs mass u v i) (FP.dmul (mass i) (FP.dadd (FP.dmul (u i) (u i)) (FP.dmul (v i) (v i))))
def pb_loose (stuck : Nat → Int32) : Nat → Nat
  | 0 => 0
  | i + 1 => if stuck i = 0 then pb_loose stuck i + 1 else pb_loose stuck i
theorem pb_loose_le (stuck : Nat → Int32) : ∀ i, pb_loose stuck i ≤ i
  | 0 => Nat.le_refl _
  | i + 1 => by
    have := pb_loose_le stuck i
    unfold pb_loose
    split <;> omega
def pb_heat (mass u v : Nat → UInt64) (stuck : Nat → Int32) (n : Nat) : UInt64 := if pb_loose stuck n = 0 then FP.dconst0 else FP.ddiv (pb_hs mass u v n) (FP.dmul 4611686018427387904 (FP.i2d (nI (pb_loose stuck n))))
theorem pb_ht_I {mass u v : Nat → UInt64} {i : Nat} (hm : pb_Im (mass i)) (hu : pb_Iu (u i)) (hv : pb_Iu (v i)) : fp_I (pb_ht mass u v i) 0 (fp_d 1 1161) := by
  have a := fp_I_sq (fp_d 1 1154) hu (by decide +kernel)
  have b := fp_I_sq (fp_d 1 1154) hv (by decide +kernel)
  have c := fp_I_add 0 (fp_d 1 1155) a b (by decide +kernel)
  exact fp_I_mul 0 (fp_d 1 1161) hm c (by decide +kernel)
theorem pb_dadd_d (N : Int) (j : Nat) : fp_d (N + 1) j = fp_d N j + fp_d 1 j := by
  unfold fp_d
  rw [Int.add_mul]
theorem pb_hs_I {mass u v : Nat → UInt64} {n : Nat} (hn : n ≤ 10) (hm : ∀ i, i < n → pb_Im (mass i)) (hu : ∀ i, i < n → pb_Iu (u i)) (hv : ∀ i, i < n → pb_Iu (v i)) : ∀ i, i ≤ n → fp_I (pb_hs mass u v i) 0 (fp_d (i : Int) 1161)
  | 0, _ => (fp_const (a := FP.dconst0) (T := 0) (by decide +kernel)).w (Int.le_refl _) (by decide +kernel)
  | i + 1, h => by
    have ih := pb_hs_I hn hm hu hv i (by omega)
    have t := pb_ht_I (hm i (by omega)) (hu i (by omega)) (hv i (by omega))
    have r0 : fp_R 0 := fp_R_dec (by decide)
    have r1 : fp_R (fp_d ((i + 1 : Nat) : Int) 1161) := fp_R_int (by omega) (by omega) (by decide)
    have e : fp_d ((i + 1 : Nat) : Int) 1161 = fp_d (i : Int) 1161 + fp_d 1 1161 := by rw [show ((i + 1 : Nat) : Int) = (i : Int) + 1 by omega]; exact pb_dadd_d _ _
    have a1 := ih.2.1; have a2 := ih.2.2; have b1 := t.2.1; have b2 := t.2.2
    exact fp_mk (fp_add_nn ih.1 t.1) r0 r1 (fp_add_ge ih.1 t.1 r0 (by omega)) (fp_add_le ih.1 t.1 r1 (by omega))
/-- the sum only grows -/
theorem pb_hs_mono {mass u v : Nat → UInt64} {n : Nat} (hn : n ≤ 10) (hm : ∀ i, i < n → pb_Im (mass i)) (hu : ∀ i, i < n → pb_Iu (u i)) (hv : ∀ i, i < n → pb_Iu (v i)) : ∀ i j, i ≤ j → j ≤ n → fp_Z (pb_hs mass u v i) ≤ fp_Z (pb_hs mass u v j) := by
  intro i j hij
  induction hij with
  | refl => intro _; exact Int.le_refl _
  | step h ih =>
    rename_i j
    intro hj
    have hj' : j + 1 ≤ n := hj
    have A := pb_hs_I hn hm hu hv j (by omega)
    have t := pb_ht_I (hm j (by omega)) (hu j (by omega)) (hv j (by omega))
    have b1 := t.2.1
    exact Int.le_trans (ih (by omega)) (fp_add_ge A.1 t.1 (fp_R_of A.1) (by omega))
