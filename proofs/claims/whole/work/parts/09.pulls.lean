/-! PAIRS, pulls, BONDS -/
abbrev pb_Iw (a : UInt64) : Prop := fp_I a (fp_d 1 1071) (fp_d 4 1074)
abbrev pb_Id (a : UInt64) : Prop := fp_I a 0 (fp_d 64 1074)
abbrev pb_Ic (a : UInt64) : Prop := fp_I a (fp_d (-8) 1074) (fp_d 8 1074)
abbrev pb_Icut (a : UInt64) : Prop := fp_I a (fp_d 1 1073) (fp_d 16 1074)
abbrev pb_Il (a : UInt64) : Prop := fp_I a (fp_d 1 1071) (fp_d 16 1074)
abbrev pb_Ir (a : UInt64) : Prop := fp_I a (fp_d 1 1062) (fp_d 578 1074)
abbrev pb_Ia (a : UInt64) : Prop := fp_I a (fp_d (-17) 1074) (fp_d 17 1074)
def pb_mid (f : Nat → UInt64) (so : Nat → Nat) (i j : Nat) : UInt64 := FP.dmul (FP.dadd (f (so i)) (f (so j))) 4602678819172646912
def pb_six (w r2 : UInt64) : UInt64 := FP.dmul (FP.dmul (FP.ddiv (FP.dmul w w) r2) (FP.ddiv (FP.dmul w w) r2)) (FP.ddiv (FP.dmul w w) r2)
def pb_chg (f : Nat → UInt64) (so : Nat → Nat) (i j : Nat) : UInt64 := FP.dmul (f (so i)) (f (so j))
def pb_pull (e p c r2 : UInt64) : UInt64 := FP.dsub (FP.ddiv (FP.dmul (FP.dmul 4627448617123184640 e) (FP.dsub p (FP.dmul (FP.dmul 4611686018427387904 p) p))) r2) (FP.ddiv (FP.dmul 4611686018427387904 c) (FP.dmul r2 r2))
def pb_ep (e p c r2 cut : UInt64) : UInt64 := FP.dadd (FP.dmul (FP.dmul 4616189618054758400 e) (FP.dsub (FP.dmul p p) p)) (FP.dmul c (FP.dsub (FP.ddiv FP.dconst1 r2) (FP.ddiv FP.dconst1 (FP.dmul cut cut))))
def pb_pbd (k l r2 : UInt64) : UInt64 := FP.dmul k (FP.dsub r2 (FP.dmul l l))
theorem pb_midd_I {f : Nat → UInt64} {so : Nat → Nat} {i j : Nat} (h1 : pb_Id (f (so i))) (h2 : pb_Id (f (so j))) : pb_Id (pb_mid f so i j) := by
  have hh := fp_const (a := 4602678819172646912) (T := fp_d 1 1073) (by decide +kernel)
  exact fp_I_mul 0 (fp_d 64 1074) (fp_I_add 0 (fp_d 128 1074) h1 h2 (by decide +kernel)) hh (by decide +kernel)
theorem pb_midw_I {f : Nat → UInt64} {so : Nat → Nat} {i j : Nat} (h1 : pb_Iw (f (so i))) (h2 : pb_Iw (f (so j))) : pb_Iw (pb_mid f so i j) := by
  have hh := fp_const (a := 4602678819172646912) (T := fp_d 1 1073) (by decide +kernel)
  exact fp_I_mul (fp_d 1 1071) (fp_d 4 1074) (fp_I_add (fp_d 1 1072) (fp_d 8 1074) h1 h2 (by decide +kernel)) hh (by decide +kernel)
theorem pb_chg_I {f : Nat → UInt64} {so : Nat → Nat} {i j : Nat} (h1 : pb_Ic (f (so i))) (h2 : pb_Ic (f (so j))) : fp_I (pb_chg f so i j) (fp_d (-64) 1074) (fp_d 64 1074) := fp_I_mul (fp_d (-64) 1074) (fp_d 64 1074) h1 h2 (by decide +kernel)
theorem pb_six_I {w r2 : UInt64} (hw : pb_Iw w) (hr : pb_Ir r2) : fp_I (pb_six w r2) 0 (fp_d 1 1122) := by
  have a := fp_I_sq (fp_d 16 1074) hw (by decide +kernel)
  have q := fp_I_div 0 (fp_d 1 1090) a hr (by decide +kernel)
  have b := fp_I_sq (fp_d 1 1106) q (by decide +kernel)
  exact fp_I_mul 0 (fp_d 1 1122) b q (by decide +kernel)
theorem pb_pull_I {e p c r2 : UInt64} (he : pb_Id e) (hp : fp_I p 0 (fp_d 1 1122)) (hc : fp_I c (fp_d (-64) 1074) (fp_d 64 1074)) (hr : pb_Ir r2) : fp_I (pb_pull e p c r2) (fp_d (-1) 1200) (fp_d 1 1200) := by
  have k24 := fp_const (a := 4627448617123184640) (T := fp_d 24 1074) (by decide +kernel)
  have k2 := fp_const (a := 4611686018427387904) (T := fp_d 2 1074) (by decide +kernel)
  have a := fp_I_mul 0 (fp_d 1536 1074) k24 he (by decide +kernel)
  have b := fp_I_mul 0 (fp_d 1 1123) k2 hp (by decide +kernel)
  have b2 := fp_I_mul 0 (fp_d 1 1171) b hp (by decide +kernel)
  have s := fp_I_sub (fp_d (-1) 1171) (fp_d 1 1122) hp b2 (by decide +kernel)
  have m := fp_I_mul (fp_d (-1) 1182) (fp_d 1 1182) a s (by decide +kernel)
  have dd := fp_I_div (fp_d (-1) 1194) (fp_d 1 1194) m hr (by decide +kernel)
  have c2 := fp_I_mul (fp_d (-128) 1074) (fp_d 128 1074) k2 hc (by decide +kernel)
  have rr := fp_I_mul (fp_d 1 1050) (fp_d 1 1094) hr hr (by decide +kernel)
  have dd2 := fp_I_div (fp_d (-1) 1106) (fp_d 1 1106) c2 rr (by decide +kernel)
  exact fp_I_sub (fp_d (-1) 1200) (fp_d 1 1200) dd dd2 (by decide +kernel)
theorem pb_ep_I {e p c r2 cut : UInt64} (he : pb_Id e) (hp : fp_I p 0 (fp_d 1 1122)) (hc : fp_I c (fp_d (-64) 1074) (fp_d 64 1074)) (hr : pb_Ir r2) (hk : pb_Icut cut) : fp_I (pb_ep e p c r2 cut) (fp_d (-1) 1190) (fp_d 1 1190) := by
  have k4 := fp_const (a := 4616189618054758400) (T := fp_d 4 1074) (by decide +kernel)
  have k1 := fp_const (a := FP.dconst1) (T := fp_d 1 1074) (by decide +kernel)
  have a := fp_I_mul 0 (fp_d 256 1074) k4 he (by decide +kernel)
  have b := fp_I_sq (fp_d 1 1170) hp (by decide +kernel)
  have s := fp_I_sub (fp_d (-1) 1171) (fp_d 1 1171) b hp (by decide +kernel)
  have m := fp_I_mul (fp_d (-1) 1180) (fp_d 1 1180) a s (by decide +kernel)
  have i1 := fp_I_div 0 (fp_d 1 1086) k1 hr (by decide +kernel)
  have cc := fp_I_mul (fp_d 1 1072) (fp_d 256 1074) hk hk (by decide +kernel)
  have i2 := fp_I_div 0 (fp_d 1 1076) k1 cc (by decide +kernel)
  have ds := fp_I_sub (fp_d (-1) 1087) (fp_d 1 1087) i1 i2 (by decide +kernel)
  have m2 := fp_I_mul (fp_d (-1) 1100) (fp_d 1 1100) hc ds (by decide +kernel)
  exact fp_I_add (fp_d (-1) 1190) (fp_d 1 1190) m m2 (by decide +kernel)
theorem pb_pbd_I {k l r2 : UInt64} (hk : pb_Id k) (hl : pb_Il l) (hr : fp_I r2 0 (fp_d 578 1074)) : fp_I (pb_pbd k l r2) (fp_d (-1) 1090) (fp_d 1 1090) := by
  have ll := fp_I_sq (fp_d 256 1074) hl (by decide +kernel)
  have s := fp_I_sub (fp_d (-256) 1074) (fp_d 578 1074) hr ll (by decide +kernel)
  exact fp_I_mul (fp_d (-1) 1090) (fp_d 1 1090) hk s (by decide +kernel)
/-- r2 FROM i TO j; a PAIR -/
def pb_rij (side : UInt64) (x y : Nat → UInt64) (i j : Nat) : UInt64 := pb_r2 side (x i) (y i) (x j) (y j)
def pb_small (side : UInt64) (x y : Nat → UInt64) (i j : Nat) : Prop := FP.dcmp (pb_rij side x y i j) 4562146422526312448 = some .lt
def pb_ovl (side : UInt64) (x y : Nat → UInt64) (n : Nat) : Prop := ∃ i j, i < j ∧ j < n ∧ pb_small side x y i j
theorem pb_noov {side : UInt64} {x y : Nat → UInt64} {n : Nat} {k : Int} (hs : pb_S side k) (hX : ∀ i, i < n → pb_Ip (x i)) (hY : ∀ i, i < n → pb_Ip (y i)) (h : ¬ pb_ovl side x y n) (i j : Nat) (hi : i < n) (hj : j < n) (hij : i ≠ j) : pb_Ir (pb_rij side x y i j) := by
  have hI := pb_r2_I hs (pb_sub_p (hX j hj) (hX i hi)) (pb_sub_p (hY j hj) (hY i hi))
  refine ⟨hI.1, ?_, hI.2.2⟩
  rcases Nat.lt_or_gt_of_ne hij with q | q
  · have h1 : ¬ FP.dcmp (pb_r2 side (x i) (y i) (x j) (y j)) 4562146422526312448 = some .lt := fun e => h ⟨i, j, q, hj, e⟩
    have hc := fp_const (a := 4562146422526312448) (T := fp_d 1 1064) (by decide +kernel)
    refine Int.not_lt.mp (fun hlt => h1 (FP.Core.dcmp_lt.mpr ⟨FP.Core.DFin.ne_nan hI.1, FP.Core.DFin.ne_nan hc.1, ?_⟩))
    have h2 : fp_d 1 1062 ≤ fp_d 1 1064 := by decide +kernel
    have h3 := hc.2.1
    have h4 : fp_Z (pb_r2 side (x i) (y i) (x j) (y j)) < fp_d 1 1062 := hlt
    exact Int.lt_of_lt_of_le h4 (Int.le_trans h2 h3)
  · exact pb_r2_flip hs (hX j hj) (hY j hj) (hX i hi) (hY i hi) (fun e => h ⟨j, i, q, hi, e⟩)
theorem pb_rij_I {side : UInt64} {x y : Nat → UInt64} {n : Nat} {k : Int} (hs : pb_S side k) (hX : ∀ i, i < n → pb_Ip (x i)) (hY : ∀ i, i < n → pb_Ip (y i)) (i j : Nat) (hi : i < n) (hj : j < n) : fp_I (pb_rij side x y i j) 0 (fp_d 578 1074) := pb_r2_I hs (pb_sub_p (hX j hj) (hX i hi)) (pb_sub_p (hY j hj) (hY i hi))
