/-! System.arraycopy from the start; choices by any Prop; quotients by numbers of either sign -/
theorem pb_cpy (f g : Nat → UInt64) (k : Nat) : va_cpy f g 0 0 k = pb_fill f g k := by
  funext j
  unfold va_cpy pb_fill
  by_cases h : j < k
  · rw [if_pos ⟨Nat.zero_le _, by omega⟩, if_pos h]; congr 1; omega
  · rw [if_neg (fun q => h (by omega)), if_neg h]
section GXP
variable {p : Program} {l : Launch} {e : Env} {R : Room} {s : State} {m : MethodId} {args : Array Value} {below : List Frame} {meth : Method} {c : Code} {H H0 : Heap} {locs : List Loc} {cells slots : Nat} {Q : State → Prop}
variable {cc : ByteArray} {pc : Nat} {ls : Array Slot} {rest : List Value} {A : Nat → Prop} {a : Nat} {D : va_G} {cl : List vw_C} {tys : List (ClassId × FieldType)} {ws : va_W}
theorem gx_copy (hexec : p.tables.exec = Jvm.exec) (hb : c.code = cc) (hml : c.maxLocals = ls.size) {own : String} {index : Nat} (hown : s.vm.findClass own = some m.cls) (hlink : (Cond.methodLink own index arraycopyName).before args s = true) (hnat : (Cond.native arraycopyName).before args s = true) (hstat : (Cond.static arraycopyName).before args s = true) (hini : (Cond.initialized "java/lang/System").before args s = true)
    (hK : va_K D cl tys s) (hP : va_P D cl ws H) (hD : va_D A ws) (hS : va_S A H0 H locs) (q0 q1 t0 : Nat) {a0 : Nat} {cA : ClassId} {n0 n1 k : Nat} {f g : Nat → UInt64} (ha0 : ws[q0]? = some (a0, .inl (cA, n0, .inr (.inr (.inr (.inl f)))))) (ha1 : ws[q1]? = some (a, .inl (cA, n1, .inr (.inr (.inr (.inl g)))))) (ht0 : tys[t0]? = some (cA, .double))
    (hk0 : k ≤ n0) (hk1 : k ≤ n1) (hk : k < 2 ^ 31) (hframes : 1 ≤ R.frames) (hlocals : (rest.map fun v => v.category).sum + (nativeFrameWords "java/lang/System" "arraycopy" 5 + 11) ≤ R.locals) (hdg : decode cc pc = .ok (.invokestatic index, 3))
    (kk : ∀ (H1 : Heap) (locs1 : List Loc), va_P D cl (ws.set q1 (a, .inl (cA, n1, .inr (.inr (.inr (.inl (pb_fill f g k))))))) H1 → va_D A (ws.set q1 (a, .inl (cA, n1, .inr (.inr (.inr (.inl (pb_fill f g k))))))) → va_S A H0 H1 locs1 → W p l e R s m args below meth c H1 locs1 cells slots Q (F0 m (pc + 3) ls rest)) : W p l e R s m args below meth c H locs cells slots Q (F0 m pc ls (.int (nI k) :: .int 0 :: .ref a :: .int 0 :: .ref a0 :: rest)) := by
  have z0 : (0 : Int32).toNatClampNeg = 0 := by decide
  refine va_copyd hexec hb hml hown hlink hnat hstat hini hK hP hD hS q0 q1 t0 t0 ha0 ha1 ht0 ht0 rfl (by decide) (by decide) (nI_pos hk) (by rw [z0, nI_clamp hk]; omega) (by rw [z0, nI_clamp hk]; omega) (fun _ _ => rfl) hframes hlocals hdg ?_
  rw [z0, nI_clamp hk, pb_cpy]
  exact kk
end GXP
noncomputable def pb_if {α : Type} (q : Prop) (a b : α) : α := @ite _ q (Classical.propDecidable q) a b
theorem pb_if_t {α : Type} {q : Prop} {a b : α} (h : q) : pb_if q a b = a := by unfold pb_if; rw [if_pos h]
theorem pb_if_f {α : Type} {q : Prop} {a b : α} (h : ¬ q) : pb_if q a b = b := by unfold pb_if; rw [if_neg h]
/-- a quotient by a number of either sign, not small -/
theorem fp_I_divn {a b : UInt64} {M2 L : Int} (M : Int) (ha : fp_I a (-M2) M2) (hb : fp_F b) (hb2 : L ≤ fp_Z b ∨ fp_Z b ≤ -L) (h : (fp_isR M && decide (0 < L) && decide (0 ≤ M) && decide (M2 * fp_o ≤ M * L)) = true) : fp_I (FP.ddiv a b) (-M) M := by
  simp only [Bool.and_eq_true, decide_eq_true_eq] at h
  obtain ⟨⟨⟨r, hL⟩, hM⟩, hh⟩ := h
  have hz : fp_Z b ≠ 0 := by omega
  obtain ⟨sg, A, B, e, e0, h1, h2, h3, h4, h5, h6, h7⟩ := fp_div_rr ha.1 hb hz
  obtain ⟨V, hV, hVn, hVz, -⟩ := fp_R_dec r
  have za : FP.Core.zmag FP.Core.b64 (FP.Core.val64 a) = (fp_Z a).natAbs := (fp_zabs _).symm
  have zb : FP.Core.zmag FP.Core.b64 (FP.Core.val64 b) = (fp_Z b).natAbs := (fp_zabs _).symm
  have zv : FP.Core.zmag FP.Core.b64 V = M.natAbs := by rw [← fp_zabs, hVz]
  have a1 := ha.2.1
  have a2 := ha.2.2
  have ho := fp_o_pos
  have m1 : ((fp_Z a).natAbs : Int) * fp_o ≤ M2 * fp_o := Int.mul_le_mul_of_nonneg_right (by omega) (Int.le_of_lt ho)
  have m2 : M * L ≤ M * ((fp_Z b).natAbs : Int) := Int.mul_le_mul_of_nonneg_left (by omega) hM
  have hle : FP.Core.inUnits A e e0 ≤ FP.Core.zmag FP.Core.b64 V * 2 ^ (FP.Core.b64.qmin - e0).toNat * B := by
    rw [h5, Nat.mul_assoc, h6, za, zb, zv]
    have : (((fp_Z a).natAbs * FP.Core.one64 : Nat) : Int) ≤ ((M.natAbs * (fp_Z b).natAbs : Nat) : Int) := by
      rw [Int.natCast_mul, Int.natCast_mul, show ((M.natAbs : Nat) : Int) = M by omega]
      exact Int.le_trans m1 (Int.le_trans hh m2)
    exact Int.ofNat_le.mp this
  have res := FP.Core.zmag_roundRatio_le FP.Core.good_b64 (s := sg) h2 hV hVn h3 h4 hle
  have hq : (fp_Z (FP.ddiv a b)).natAbs ≤ M.natAbs := by
    have : (fp_Z (FP.ddiv a b)).natAbs = FP.Core.zmag FP.Core.b64 (FP.Core.val64 (FP.ddiv a b)) := fp_zabs _
    rw [this, h1, ← zv]
    exact res
  exact fp_mk (fp_div_nn ha.1 hb hz) (fp_R_neg (fp_R_dec r)) (fp_R_dec r) (by omega) (by omega)
/-- not too fast -/
theorem pb_slow {z : UInt64} (hz : fp_F z) (h : ¬ pb_fast z) : fp_I z (fp_d (-1000000) 1074) (fp_d 1000000 1074) := by
  have c1 := fp_const (a := 4696837146684686336) (T := fp_d 1000000 1074) (by decide +kernel)
  have c2 := fp_const (a := 13920209183539462144) (T := fp_d (-1000000) 1074) (by decide +kernel)
  have nz := FP.Core.DFin.ne_nan hz
  refine ⟨hz, Int.not_lt.mp (fun q => h (Or.inr (FP.Core.dcmp_lt.mpr ⟨nz, FP.Core.DFin.ne_nan c2.1, Int.lt_of_lt_of_le q c2.2.1⟩))), Int.not_lt.mp (fun q => h (Or.inl (FP.Core.dcmp_gt.mpr ⟨nz, FP.Core.DFin.ne_nan c1.1, Int.lt_of_le_of_lt c1.2.2 q⟩)))⟩
/-- what push, drift, the ways and WRAPPED leave, by atoms -/
def pb_pushf (dt : UInt64) (u f mass : Nat → UInt64) (stuck : Nat → Int32) (j : Nat) : UInt64 := if stuck j = 0 then FP.dadd (u j) (FP.dmul (FP.dmul 4602678819172646912 dt) (FP.ddiv (f j) (mass j))) else u j
def pb_drif (dt : UInt64) (x u : Nat → UInt64) (stuck : Nat → Int32) (j : Nat) : UInt64 := if stuck j = 0 then FP.dadd (x j) (FP.dmul dt (u j)) else x j
def pb_ways (dt : UInt64) (x ox u : Nat → UInt64) (stuck : Nat → Int32) (j : Nat) : UInt64 := if stuck j = 0 then FP.ddiv (FP.dsub (x j) (ox j)) dt else u j
abbrev pb_Idt (a : UInt64) : Prop := fp_I a (fp_d 1 1064) (fp_d 1 1071)
abbrev pb_Is (a : UInt64) : Prop := fp_I a (fp_d (-1000000) 1074) (fp_d 1000000 1074)
abbrev pb_Ix (a : UInt64) : Prop := fp_I a (fp_d (-1) 1121) (fp_d 1 1121)
abbrev pb_Isk (a : UInt64) : Prop := fp_I a 0 (fp_d 4 1074)
def pb_far1 (side skin : UInt64) (mx my x y : Nat → UInt64) (i : Nat) : Prop := FP.dcmp (pb_r2 side (mx i) (my i) (x i) (y i)) (FP.dmul (FP.dmul skin 4602678819172646912) (FP.dmul skin 4602678819172646912)) = some .gt
def pb_far (side skin : UInt64) (mx my x y : Nat → UInt64) (n : Nat) : Prop := ∃ i, i < n ∧ pb_far1 side skin mx my x y i
