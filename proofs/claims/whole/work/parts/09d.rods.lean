/-! RODS -/
abbrev pb_A : Type := Nat → UInt64
def pb_abs (z : UInt64) : UInt64 := if FP.dcmp z FP.dconst0 = some .lt then FP.dneg z else z
section RD
variable (side : UInt64) (ox oy mass : Nat → UInt64) (stuck : Nat → Int32) (ri rj : Nat → Nat) (rl x y : Nat → UInt64) (r : Nat)
def pb_over : UInt64 := FP.dsub (pb_r2 side (x (ri r)) (y (ri r)) (x (rj r)) (y (rj r))) (FP.dmul (rl r) (rl r))
def pb_fit : Prop := FP.dcmp (pb_abs (pb_over side ri rj rl x y r)) (FP.dmul (FP.dmul 4517329193108106637 (rl r)) (rl r)) = some .lt ∨ FP.dcmp (pb_abs (pb_over side ri rj rl x y r)) (FP.dmul (FP.dmul 4517329193108106637 (rl r)) (rl r)) = some .eq
def pb_way (f : Nat → UInt64) : UInt64 := pb_near side (FP.dsub (f (rj r)) (f (ri r)))
def pb_h : UInt64 := FP.dmul (FP.dmul 4611686018427387904 (FP.dadd (FP.dmul (pb_way side ri rj r x) (pb_way side ri rj r ox)) (FP.dmul (pb_way side ri rj r y) (pb_way side ri rj r oy)))) (FP.dadd (pb_ease mass stuck (ri r)) (pb_ease mass stuck (rj r)))
def pb_tight : Prop := FP.dcmp (pb_h side ox oy mass stuck ri rj x y r) 13740701229962882445 = some .gt ∧ FP.dcmp (pb_h side ox oy mass stuck ri rj x y r) 4517329193108106637 = some .lt
def pb_g : UInt64 := FP.ddiv (pb_over side ri rj rl x y r) (pb_h side ox oy mass stuck ri rj x y r)
/-- f is x or y, o the same of the places before -/
def pb_mv (f o : Nat → UInt64) : Nat → UInt64 := vf_upd (vf_upd f (ri r) (FP.dadd (f (ri r)) (FP.dmul (FP.dmul (pb_g side ox oy mass stuck ri rj rl x y r) (pb_ease mass stuck (ri r))) (pb_way side ri rj r o)))) (rj r) (FP.dsub (f (rj r)) (FP.dmul (FP.dmul (pb_g side ox oy mass stuck ri rj rl x y r) (pb_ease mass stuck (rj r))) (pb_way side ri rj r o)))
/-- 0: left alone; 2: STIFF; 1: changed -/
noncomputable def pb_code : Nat := pb_if (pb_fit side ri rj rl x y r) 0 (pb_if (pb_tight side ox oy mass stuck ri rj x y r) 2 1)
noncomputable def pb_rdx : Nat → UInt64 := pb_if (pb_code side ox oy mass stuck ri rj rl x y r = 1) (pb_mv side ox oy mass stuck ri rj rl x y r x ox) x
noncomputable def pb_rdy : Nat → UInt64 := pb_if (pb_code side ox oy mass stuck ri rj rl x y r = 1) (pb_mv side ox oy mass stuck ri rj rl x y r y oy) y
end RD
theorem pb_abs_I {z : UInt64} {L U M : Int} (h : fp_I z L U) (h1 : -M ≤ L) (h2 : U ≤ M) : fp_I (pb_abs z) (-M) M := by
  unfold pb_abs
  split
  · exact (fp_I_neg h).w (by omega) (by omega)
  · exact h.w h1 h2
section RI
variable {side : UInt64} {ox oy mass : Nat → UInt64} {stuck : Nat → Int32} {ri rj : Nat → Nat} {rl x y : Nat → UInt64} {n nr r : Nat} {k : Int}
theorem pb_sub_x {a b : UInt64} (ha : pb_Ix a) (hb : pb_Ix b) : fp_I (FP.dsub a b) (fp_d (-1) 1122) (fp_d 1 1122) := fp_I_sub (fp_d (-1) 1122) (fp_d 1 1122) ha hb (by decide +kernel)
theorem pb_ip_x {a : UInt64} (h : pb_Ip a) : pb_Ix a := h.w (by decide +kernel) (by decide +kernel)
theorem pb_over_I (hs : pb_S side k) (hx : ∀ i, i < n → pb_Ix (x i)) (hy : ∀ i, i < n → pb_Ix (y i)) (hri : ri r < n) (hrj : rj r < n) (hl : pb_Il (rl r)) : fp_I (pb_over side ri rj rl x y r) (fp_d (-256) 1074) (fp_d 578 1074) := by
  have r2 := pb_r2_I hs (pb_sub_x (hx _ hrj) (hx _ hri)) (pb_sub_x (hy _ hrj) (hy _ hri))
  have ll := fp_I_sq (fp_d 256 1074) hl (by decide +kernel)
  exact fp_I_sub (fp_d (-256) 1074) (fp_d 578 1074) r2 ll (by decide +kernel)
theorem pb_way_I (hs : pb_S side k) {f : Nat → UInt64} (hf : ∀ i, i < n → pb_Ix (f i)) (hri : ri r < n) (hrj : rj r < n) : pb_Ia (pb_way side ri rj r f) := pb_near_I hs (pb_sub_x (hf _ hrj) (hf _ hri))
theorem pb_h_I (hs : pb_S side k) (hx : ∀ i, i < n → pb_Ix (x i)) (hy : ∀ i, i < n → pb_Ix (y i)) (hox : ∀ i, i < n → pb_Ip (ox i)) (hoy : ∀ i, i < n → pb_Ip (oy i)) (hm : ∀ i, i < n → pb_Im (mass i)) (hri : ri r < n) (hrj : rj r < n) : fp_I (pb_h side ox oy mass stuck ri rj x y r) (fp_d (-1) 1090) (fp_d 1 1090) := by
  have a := pb_way_I hs hx hri hrj
  have b := pb_way_I hs hy hri hrj
  have oa := pb_way_I hs (fun i h => pb_ip_x (hox i h)) hri hrj
  have ob := pb_way_I hs (fun i h => pb_ip_x (hoy i h)) hri hrj
  have p1 := fp_I_mul (fp_d (-289) 1074) (fp_d 289 1074) a oa (by decide +kernel)
  have p2 := fp_I_mul (fp_d (-289) 1074) (fp_d 289 1074) b ob (by decide +kernel)
  have w := fp_I_add (fp_d (-578) 1074) (fp_d 578 1074) p1 p2 (by decide +kernel)
  have k2 := fp_const (a := 4611686018427387904) (T := fp_d 2 1074) (by decide +kernel)
  have w2 := fp_I_mul (fp_d (-1156) 1074) (fp_d 1156 1074) k2 w (by decide +kernel)
  have e := fp_I_add 0 (fp_d 16 1074) (pb_ease_I (stuck := stuck) (hm _ hri)) (pb_ease_I (stuck := stuck) (hm _ hrj)) (by decide +kernel)
  exact fp_I_mul (fp_d (-1) 1090) (fp_d 1 1090) w2 e (by decide +kernel)
def pb_1e6 : Int := fp_Z 4517329193108106637
theorem pb_1e6n : fp_Z 13740701229962882445 = -pb_1e6 := by decide +kernel
theorem pb_nt {z : UInt64} (hz : fp_F z) (h : ¬ (FP.dcmp z 13740701229962882445 = some .gt ∧ FP.dcmp z 4517329193108106637 = some .lt)) : pb_1e6 ≤ fp_Z z ∨ fp_Z z ≤ -pb_1e6 := by
  have nz := FP.Core.DFin.ne_nan hz
  have c1 := fp_const (a := 4517329193108106637) (T := pb_1e6) (by decide +kernel)
  have c2 := fp_const (a := 13740701229962882445) (T := -pb_1e6) (by decide +kernel)
  refine Classical.byContradiction (fun q => h ⟨FP.Core.dcmp_gt.mpr ⟨nz, FP.Core.DFin.ne_nan c2.1, ?_⟩, FP.Core.dcmp_lt.mpr ⟨nz, FP.Core.DFin.ne_nan c1.1, ?_⟩⟩)
  · exact Int.lt_of_le_of_lt c2.2.2 (Int.not_le.mp (fun h9 => q (Or.inr h9)))
  · exact Int.lt_of_lt_of_le (Int.not_le.mp (fun h9 => q (Or.inl h9))) c1.2.1
theorem pb_g_I (hs : pb_S side k) (hx : ∀ i, i < n → pb_Ix (x i)) (hy : ∀ i, i < n → pb_Ix (y i)) (hox : ∀ i, i < n → pb_Ip (ox i)) (hoy : ∀ i, i < n → pb_Ip (oy i)) (hm : ∀ i, i < n → pb_Im (mass i)) (hri : ri r < n) (hrj : rj r < n) (hl : pb_Il (rl r)) (ht : ¬ pb_tight side ox oy mass stuck ri rj x y r) : fp_I (pb_g side ox oy mass stuck ri rj rl x y r) (fp_d (-1) 1104) (fp_d 1 1104) := by
  have o := pb_over_I hs hx hy hri hrj hl
  have h := pb_h_I (stuck := stuck) hs hx hy hox hoy hm hri hrj
  have e : fp_d (-1) 1104 = -(fp_d 1 1104) := by decide +kernel
  rw [e]
  exact fp_I_divn (M2 := fp_d 578 1074) (L := pb_1e6) (fp_d 1 1104) (o.w (by decide +kernel) (Int.le_refl _)) h.1 (pb_nt h.1 ht) (by decide +kernel)
theorem pb_move_I (hs : pb_S side k) (hx : ∀ i, i < n → pb_Ix (x i)) (hy : ∀ i, i < n → pb_Ix (y i)) (hox : ∀ i, i < n → pb_Ip (ox i)) (hoy : ∀ i, i < n → pb_Ip (oy i)) (hm : ∀ i, i < n → pb_Im (mass i)) (hri : ri r < n) (hrj : rj r < n) (hl : pb_Il (rl r)) (ht : ¬ pb_tight side ox oy mass stuck ri rj x y r) {o : Nat → UInt64} (ho : ∀ i, i < n → pb_Ip (o i)) {q : Nat} (hq : q < n) : fp_I (FP.dmul (FP.dmul (pb_g side ox oy mass stuck ri rj rl x y r) (pb_ease mass stuck q)) (pb_way side ri rj r o)) (fp_d (-1) 1113) (fp_d 1 1113) := by
  have g := pb_g_I (stuck := stuck) hs hx hy hox hoy hm hri hrj hl ht
  have m1 := fp_I_mul (fp_d (-1) 1107) (fp_d 1 1107) g (pb_ease_I (stuck := stuck) (hm _ hq)) (by decide +kernel)
  exact fp_I_mul (fp_d (-1) 1113) (fp_d 1 1113) m1 (pb_way_I hs (fun i h => pb_ip_x (ho i h)) hri hrj) (by decide +kernel)
theorem pb_shrink {a b : UInt64} {N : Int} {J : Nat} (hJ : J ≤ 2000) (h0 : 0 ≤ N) (hN : N < 1000000) (ha : fp_I a (fp_d (-N) J) (fp_d N J)) (hb : fp_I b (fp_d (-1) J) (fp_d 1 J)) : fp_I (FP.dsub a b) (fp_d (-(N + 1)) J) (fp_d (N + 1) J) := by
  have r1 : fp_R (fp_d (-(N + 1)) J) := fp_R_int (by omega) (by omega) (by omega)
  have r2 : fp_R (fp_d (N + 1) J) := fp_R_int (by omega) (by omega) (by omega)
  have e1 : fp_d (-(N + 1)) J = fp_d (-N) J + fp_d (-1) J := by unfold fp_d; rw [← Int.add_mul]; congr 1; omega
  have e2 : fp_d (N + 1) J = fp_d N J + fp_d 1 J := by unfold fp_d; rw [← Int.add_mul]
  have e3 : fp_d (-1) J = -(fp_d 1 J) := by unfold fp_d; rw [Int.neg_mul]
  have a1 := ha.2.1; have a2 := ha.2.2; have b1 := hb.2.1; have b2 := hb.2.2
  exact fp_mk (fp_sub_nn ha.1 hb.1) r1 r2 (fp_sub_ge ha.1 hb.1 r1 (by omega)) (fp_sub_le ha.1 hb.1 r2 (by omega))
/-- places in a bound of N units; after a ROD of N + 1 -/
def pb_bd (n : Nat) (N : Int) (f : Nat → UInt64) : Prop := ∀ i, i < n → fp_I (f i) (fp_d (-N) 1113) (fp_d N 1113)
theorem pb_bd_x {N : Int} {f : Nat → UInt64} (hN : N ≤ 256) (h : pb_bd n N f) : ∀ i, i < n → pb_Ix (f i) := fun i hi => (h i hi).w (by rw [show fp_d (-1) 1121 = fp_d (-256) 1113 by decide +kernel]; exact pb_d_mono (by omega)) (by rw [show fp_d 1 1121 = fp_d 256 1113 by decide +kernel]; exact pb_d_mono (by omega))
theorem pb_mv_I (hs : pb_S side k) (hx : ∀ i, i < n → pb_Ix (x i)) (hy : ∀ i, i < n → pb_Ix (y i)) (hox : ∀ i, i < n → pb_Ip (ox i)) (hoy : ∀ i, i < n → pb_Ip (oy i)) (hm : ∀ i, i < n → pb_Im (mass i)) (hri : ri r < n) (hrj : rj r < n) (hl : pb_Il (rl r)) (ht : ¬ pb_tight side ox oy mass stuck ri rj x y r) {f o : Nat → UInt64} (ho : ∀ i, i < n → pb_Ip (o i)) {N : Int} (h0 : 0 ≤ N) (hN : N < 1000) (hf : pb_bd n N f) : pb_bd n (N + 1) (pb_mv side ox oy mass stuck ri rj rl x y r f o) := by
  intro i hi
  unfold pb_mv
  by_cases e : i = rj r
  · rw [e, pb_us]
    exact pb_shrink (by decide) h0 (by omega) (hf _ hrj) (pb_move_I hs hx hy hox hoy hm hri hrj hl ht ho hrj)
  · rw [pb_un e]
    by_cases e2 : i = ri r
    · rw [e2, pb_us]
      exact pb_grow (by decide) h0 (by omega) (hf _ hri) (pb_move_I hs hx hy hox hoy hm hri hrj hl ht ho hri)
    · rw [pb_un e2]
      exact pb_keep (hf i hi)
theorem pb_code_1 (h : pb_code side ox oy mass stuck ri rj rl x y r = 1) : ¬ pb_tight side ox oy mass stuck ri rj x y r := by
  intro ht
  unfold pb_code at h
  by_cases hf : pb_fit side ri rj rl x y r
  · rw [pb_if_t hf] at h; exact absurd h (by decide)
  · rw [pb_if_f hf, pb_if_t ht] at h; exact absurd h (by decide)
theorem pb_rd_I (hs : pb_S side k) (hox : ∀ i, i < n → pb_Ip (ox i)) (hoy : ∀ i, i < n → pb_Ip (oy i)) (hm : ∀ i, i < n → pb_Im (mass i)) (hri : ri r < n) (hrj : rj r < n) (hl : pb_Il (rl r)) {N : Int} (h0 : 0 ≤ N) (hN : N ≤ 256) (hx : pb_bd n N x) (hy : pb_bd n N y) : pb_bd n (N + 1) (pb_rdx side ox oy mass stuck ri rj rl x y r) ∧ pb_bd n (N + 1) (pb_rdy side ox oy mass stuck ri rj rl x y r) := by
  unfold pb_rdx pb_rdy
  by_cases h : pb_code side ox oy mass stuck ri rj rl x y r = 1
  · rw [pb_if_t h, pb_if_t h]
    have ht := pb_code_1 h
    exact ⟨pb_mv_I hs (pb_bd_x hN hx) (pb_bd_x hN hy) hox hoy hm hri hrj hl ht hox h0 (by omega) hx, pb_mv_I hs (pb_bd_x hN hx) (pb_bd_x hN hy) hox hoy hm hri hrj hl ht hoy h0 (by omega) hy⟩
  · rw [pb_if_f h, pb_if_f h]
    exact ⟨fun i hi => pb_keep (hx i hi), fun i hi => pb_keep (hy i hi)⟩
end RI
