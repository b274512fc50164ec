/-! what the law's invariant needs -/
theorem pb_updI {q : UInt64 → Prop} {f : pb_A} {n : Nat} {z : UInt64} (h : ∀ i, i < n → q (f i)) (hz : q z) : ∀ i, i < n + 1 → q (vf_upd f n z i) := fun i hi => by
  by_cases e : i = n
  · rw [e, pb_us]; exact hz
  · rw [pb_un e]; exact h i (by omega)
theorem pb_updJ {q : UInt64 → Prop} {f : pb_A} {n k : Nat} {z : UInt64} (h : ∀ i, i < n → q (f i)) (hz : q z) : ∀ i, i < n → q (vf_upd f k z i) := fun i hi => by
  by_cases e : i = k
  · rw [e, pb_us]; exact hz
  · rw [pb_un e]; exact h i hi
theorem pb_addI {q : UInt64 → Prop} {f : pb_A} {n : Nat} (h : ∀ i, i < n → q (f i)) (hz : q (f n)) : ∀ i, i < n + 1 → q (f i) := fun i hi => by
  by_cases e : i = n
  · rw [e]; exact hz
  · exact h i (by omega)
theorem pb_setI {f : Nat → Nat} {n k v B : Nat} (h : ∀ i, i < n → f i < B) (hv : v < B) : ∀ i, i < n + 1 → (if i = n then v else f i) < B := fun i hi => by
  by_cases e : i = n
  · rw [if_pos e]; exact hv
  · rw [if_neg e]; exact h i (by omega)
theorem pb_0p : pb_Ip FP.dconst0 := (fp_const (a := FP.dconst0) (T := 0) (by decide +kernel)).w (by decide +kernel) (by decide +kernel)
theorem pb_0u : pb_Iu FP.dconst0 := (fp_const (a := FP.dconst0) (T := 0) (by decide +kernel)).w (by decide +kernel) (by decide +kernel)
theorem pb_in_IU {z lo hi : UInt64} {L L2 U : Int} (hl : fp_I lo L L) (hh : fp_I hi L2 U) (rU : fp_R U) (h : pb_in z lo hi) : fp_I z L U := by
  have h1 := FP.Core.dcmp_ge.mp h.1
  have h2 := FP.Core.dcmp_le.mp h.2
  have e1 : fp_Z lo = L := Int.le_antisymm hl.2.2 hl.2.1
  have h5 : fp_Z lo ≤ fp_Z z := h1.2.2
  have h6 : fp_Z z ≤ fp_Z hi := h2.2.2
  have h7 := hh.2.2
  exact fp_mk h1.1 (e1 ▸ fp_R_of hl.1) rU (by omega) (by omega)
theorem pb_half_I {side : UInt64} {k : Int} (hs : pb_S side k) : fp_I (FP.dmul side 4602678819172646912) (fp_d 2 1074) (fp_d 16 1074) := fp_I_mul _ _ hs.I (fp_const (a := 4602678819172646912) (T := fp_d 1 1073) (by decide +kernel)) (by decide +kernel)
theorem pb_b_01 (q : Prop) : pb_b q = 0 ∨ pb_b q = 1 := by
  by_cases h : q
  · exact Or.inr (pb_b_t h)
  · exact Or.inl (pb_b_f h)
theorem pb_012 {q : Int32} (h : ¬ q < 0 ∧ ¬ 2 < q) : q = 2 ∨ q = 0 ∨ q = 1 := by
  have e0 : (0 : Int32).toInt = 0 := by decide +kernel
  have e1 : (1 : Int32).toInt = 1 := by decide +kernel
  have e2 : (2 : Int32).toInt = 2 := by decide +kernel
  obtain ⟨h0, h2⟩ := h
  rw [Int32.lt_iff_toInt_lt] at h0 h2
  by_cases a : q.toInt = 2
  · exact Or.inl (Int32.toInt_inj.mp (a.trans e2.symm))
  · by_cases b : q.toInt = 0
    · exact Or.inr (Or.inl (Int32.toInt_inj.mp (b.trans e0.symm)))
    · exact Or.inr (Or.inr (Int32.toInt_inj.mp ((show q.toInt = 1 by omega).trans e1.symm)))
theorem pb_heat_le {t : UInt64} (g : fp_I t (fp_d (-1) 1102) (fp_d 1 1102)) (h : FP.dcmp t 4652007308841189376 = some .lt ∨ FP.dcmp t 4652007308841189376 = some .eq) : fp_I t (fp_d (-1) 1110) (fp_d 1000 1074) := by
  have c := fp_const (a := 4652007308841189376) (T := fp_d 1000 1074) (by decide +kernel)
  have h2 := FP.Core.dcmp_le.mp h
  have h6 : fp_Z t ≤ fp_Z 4652007308841189376 := h2.2.2
  have h7 := c.2.2
  exact ⟨g.1, Int.le_trans (by decide +kernel) g.2.1, Int.le_trans h6 h7⟩
theorem pb_off_I : fp_I 13830554455654793216 (fp_d (-1) 1110) (fp_d 1000 1074) := (fp_const (a := 13830554455654793216) (T := fp_d (-1) 1074) (by decide +kernel)).w (by decide +kernel) (by decide +kernel)
theorem pb_heat_M {t : UInt64} (h : fp_I t (fp_d (-1) 1110) (fp_d 1000 1074)) : fp_I (pb_if (FP.dcmp t FP.dconst0 = some .lt) 13830554455654793216 t) (fp_d (-1) 1110) (fp_d 1000 1074) := by
  by_cases c : FP.dcmp t FP.dconst0 = some .lt
  · rw [pb_if_t c]; exact pb_off_I
  · rw [pb_if_f c]; exact h
theorem pb_heat_R (t : UInt64) : pb_if (FP.dcmp t FP.dconst0 = some .lt) 13830554455654793216 t = t ∨ (¬ pb_on (pb_if (FP.dcmp t FP.dconst0 = some .lt) 13830554455654793216 t) ∧ ¬ pb_on t) := by
  by_cases c : FP.dcmp t FP.dconst0 = some .lt
  · rw [pb_if_t c]
    refine Or.inr ⟨pb_off, fun h => ?_⟩
    rcases h with h | h <;> (rw [c] at h; cases h)
  · rw [pb_if_f c]; exact Or.inl rfl
theorem pb_brg_B {tw : UInt64} {mass u v w : pb_A} {stuck : Nat → Int32} {n j : Nat} (hj : n ≤ j) : pb_brg tw mass stuck n u v w j = w j := by
  unfold pb_brg
  by_cases h : pb_cold mass u v stuck n
  · rw [pb_if_t h]
  · rw [pb_if_f h]; exact pb_fill_ge _ _ hj
theorem pb_lst_B {side skin : UInt64} {n : Nat} {x y : pb_A} {L : pb_L} {j : Nat} (hj : n ≤ j) : (pb_lst side skin n x y L).2.1 j = L.2.1 j ∧ (pb_lst side skin n x y L).2.2 j = L.2.2 j := by
  unfold pb_lst
  by_cases h : L.1.1 = 0 ∨ pb_far side skin L.2.1 L.2.2 x y n
  · simp only [pb_if_t h]
    exact ⟨pb_fill_ge _ _ hj, pb_fill_ge _ _ hj⟩
  · simp only [pb_if_f h]
    exact ⟨trivial, trivial⟩
section RB
variable {side cut skin dt heat : UInt64} {width depth charge bk bl mass rl : pb_A} {so bi bj ri rj : Nat → Nat} {stuck : Nat → Int32} {n nb nr : Nat}
theorem pb_car_B {ox oy x y u v : pb_A} {L : pb_L} {j : Nat} (hj : n ≤ j) : (pb_car side cut skin dt heat width depth charge bk bl mass rl so bi bj ri rj stuck n nb nr ox oy x y u v L).2.2.2.2.2.1 j = L.2.1 j ∧ (pb_car side cut skin dt heat width depth charge bk bl mass rl so bi bj ri rj stuck n nb nr ox oy x y u v L).2.2.2.2.2.2 j = L.2.2 j := by
  have B := pb_lst_B (side := side) (skin := skin) (x := x) (y := y) (L := L) hj
  unfold pb_car
  by_cases h1 : pb_ovl side x y n
  · rw [pb_if_t h1]; exact B
  · rw [pb_if_f h1]
    by_cases h2 : pb_bl n (pb_kx side cut dt width depth charge bk bl mass so bi bj stuck n nb x y u) (pb_ky side cut dt width depth charge bk bl mass so bi bj stuck n nb x y v)
    · rw [pb_if_t h2]; exact B
    · rw [pb_if_f h2]
      unfold pb_car2
      split
      · exact B
      · rename_i t x2 y2 _
        by_cases h3 : pb_bl n (pb_w2 dt stuck n nr x2 ox (pb_kx side cut dt width depth charge bk bl mass so bi bj stuck n nb x y u)) (pb_w2 dt stuck n nr y2 oy (pb_ky side cut dt width depth charge bk bl mass so bi bj stuck n nb x y v))
        · rw [pb_if_t h3]; exact B
        · rw [pb_if_f h3]
          generalize pb_fill (fun j => pb_wrap side (x2 j)) x2 n = x3
          generalize pb_fill (fun j => pb_wrap side (y2 j)) y2 n = y3
          generalize pb_w2 dt stuck n nr x2 ox (pb_kx side cut dt width depth charge bk bl mass so bi bj stuck n nb x y u) = u2
          generalize pb_w2 dt stuck n nr y2 oy (pb_ky side cut dt width depth charge bk bl mass so bi bj stuck n nb x y v) = v2
          have B2 := pb_lst_B (side := side) (skin := skin) (x := x3) (y := y3) (L := pb_lst side skin n x y L) hj
          have B3 : (pb_lst side skin n x3 y3 (pb_lst side skin n x y L)).2.1 j = L.2.1 j ∧ (pb_lst side skin n x3 y3 (pb_lst side skin n x y L)).2.2 j = L.2.2 j := ⟨B2.1.trans B.1, B2.2.trans B.2⟩
          unfold pb_car3
          by_cases h4 : pb_ovl side x3 y3 n
          · rw [pb_if_t h4]; exact B3
          · rw [pb_if_f h4]
            by_cases h5 : pb_bl n (pb_kx side cut dt width depth charge bk bl mass so bi bj stuck n nb x3 y3 u2) (pb_ky side cut dt width depth charge bk bl mass so bi bj stuck n nb x3 y3 v2)
            · rw [pb_if_t h5]; exact B3
            · rw [pb_if_f h5]; exact B3
theorem pb_run_B {j : Nat} (hj : n ≤ j) : ∀ (f : Nat) (M : pb_M), (pb_run side cut skin dt heat width depth charge bk bl mass rl so bi bj ri rj stuck n nb nr f M).2.2.2.1.2.1 j = M.2.2.1.2.1 j ∧ (pb_run side cut skin dt heat width depth charge bk bl mass rl so bi bj ri rj stuck n nb nr f M).2.2.2.1.2.2 j = M.2.2.1.2.2 j
  | 0, _ => ⟨rfl, rfl⟩
  | f + 1, M => by
    have C := pb_car_B (side := side) (cut := cut) (skin := skin) (dt := dt) (heat := heat) (width := width) (depth := depth) (charge := charge) (bk := bk) (bl := bl) (mass := mass) (rl := rl) (so := so) (bi := bi) (bj := bj) (ri := ri) (rj := rj) (stuck := stuck) (n := n) (nb := nb) (nr := nr) (ox := pb_fill M.1.1 M.2.2.2.2.2.1.1 n) (oy := pb_fill M.1.2 M.2.2.2.2.2.1.2 n) (x := M.1.1) (y := M.1.2) (u := M.2.1.1) (v := M.2.1.2) (L := M.2.2.1) hj
    unfold pb_run
    by_cases h : (pb_carM side cut skin dt heat width depth charge bk bl mass rl so bi bj ri rj stuck n nb nr M).1 = 0
    · rw [pb_if_t h]
      have ih := pb_run_B hj f (pb_good n (pb_carM side cut skin dt heat width depth charge bk bl mass rl so bi bj ri rj stuck n nb nr M) M)
      exact ⟨ih.1.trans C.1, ih.2.trans C.2⟩
    · rw [pb_if_f h]
      exact C
theorem pb_warm_off {h1 h2 : UInt64} {T : pb_T} (a : ¬ pb_on h1) (b : ¬ pb_on h2) : pb_warm h1 mass stuck n T = pb_warm h2 mass stuck n T := by
  unfold pb_warm
  rw [pb_if_f a, pb_if_f b]
theorem pb_run_heat {h1 h2 : UInt64} (h : h1 = h2 ∨ (¬ pb_on h1 ∧ ¬ pb_on h2)) : ∀ (f : Nat) (M : pb_M), pb_run side cut skin dt h1 width depth charge bk bl mass rl so bi bj ri rj stuck n nb nr f M = pb_run side cut skin dt h2 width depth charge bk bl mass rl so bi bj ri rj stuck n nb nr f M
  | 0, _ => rfl
  | f + 1, M => by
    rcases h with rfl | ⟨a, b⟩
    · rfl
    · have e : pb_carM side cut skin dt h1 width depth charge bk bl mass rl so bi bj ri rj stuck n nb nr M = pb_carM side cut skin dt h2 width depth charge bk bl mass rl so bi bj ri rj stuck n nb nr M := by
        unfold pb_carM
        rw [pb_car_warm, pb_car_warm side cut skin dt h2, pb_warm_off a b]
      unfold pb_run
      rw [e, pb_run_heat (Or.inr ⟨a, b⟩) f]
end RB
