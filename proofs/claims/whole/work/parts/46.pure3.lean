/-! a STEP keeps the bounds; a run of STEPS as a function; what the reference writes otherwise -/
theorem gx_join {p : Program} {l : Launch} {e : Env} {R : Room} {s : State} {m : MethodId} {args : Array Value} {below : List Frame} {meth : Method} {c : Code} {H : Heap} {locs : List Loc} {cells slots : Nat} {Q : State → Prop} {pc : Nat} {ls : Array Slot} {rest : List Value}
    (pc2 : Nat) (st2 : List Value) (I : Heap → List Loc → Prop) (hk : ∀ (H : Heap) (locs : List Loc), I H locs → W p l e R s m args below meth c H locs cells slots Q (F0 m pc2 ls st2))
    (hm : (∀ (H : Heap) (locs : List Loc), I H locs → W p l e R s m args below meth c H locs cells slots Q (F0 m pc2 ls st2)) → W p l e R s m args below meth c H locs cells slots Q (F0 m pc ls rest)) : W p l e R s m args below meth c H locs cells slots Q (F0 m pc ls rest) := hm hk
theorem pb_ngeq {a b : UInt64} (ha : fp_F a) (hb : fp_F b) (h : ¬ (FP.dcmp a b = some .gt ∨ FP.dcmp a b = some .eq)) : FP.dcmp a b = some .lt := by
  have hc := fp_cmp ha hb
  rw [hc] at h ⊢
  rcases Int.lt_trichotomy (fp_Z a) (fp_Z b) with q | q | q
  · rw [Int.compare_eq_lt.mpr q]
  · exact absurd (Or.inr (congrArg some (Int.compare_eq_eq.mpr q))) h
  · exact absurd (Or.inl (congrArg some (Int.compare_eq_gt.mpr q))) h
theorem pb_geqn {a b : UInt64} (h : FP.dcmp a b = some .gt ∨ FP.dcmp a b = some .eq) : ¬ FP.dcmp a b = some .lt := by
  intro q
  rcases h with h | h <;> (rw [q] at h; cases h)
theorem pb_leqn {a b : UInt64} (ha : fp_F a) (hb : fp_F b) (h : ¬ (FP.dcmp a b = some .lt ∨ FP.dcmp a b = some .eq)) : FP.dcmp a b = some .gt := by
  have hc := fp_cmp ha hb
  rw [hc] at h ⊢
  rcases Int.lt_trichotomy (fp_Z a) (fp_Z b) with q | q | q
  · exact absurd (Or.inl (congrArg some (Int.compare_eq_lt.mpr q))) h
  · exact absurd (Or.inr (congrArg some (Int.compare_eq_eq.mpr q))) h
  · rw [Int.compare_eq_gt.mpr q]
/-- too fast, written otherwise -/
theorem pb_fast_in {z : UInt64} (hz : fp_F z) : ¬ pb_in z 13920209183539462144 4696837146684686336 ↔ pb_fast z := by
  have c1 := (fp_const (a := 4696837146684686336) (T := fp_Z 4696837146684686336) (by decide +kernel)).1
  have c2 := (fp_const (a := 13920209183539462144) (T := fp_Z 13920209183539462144) (by decide +kernel)).1
  constructor
  · intro h
    by_cases h1 : FP.dcmp z 13920209183539462144 = some .gt ∨ FP.dcmp z 13920209183539462144 = some .eq
    · exact Or.inl (pb_leqn hz c1 (fun q => h ⟨h1, q⟩))
    · exact Or.inr (pb_ngeq hz c2 h1)
  · rintro (h | h) ⟨h1, h2⟩
    · rcases h2 with q | q <;> (rw [q] at h; cases h)
    · exact pb_geqn h1 h
/-- FLOOR, written with a long -/
theorem pb_floor_l {z : UInt64} (hz : fp_I z (fp_d (-1) 1121) (fp_d 1 1121)) (hg : FP.dcmp (FP.l2d (FP.d2l z)) z = some .gt) : FP.l2d (FP.d2l z - 1) = pb_floor z := by
  have hn := FP.Core.DFin.ne_nan hz.1
  have hv := FP.Core.d2l_val hn
  have hsz : fp_Z z = FP.Core.signed (FP.Core.sgn (FP.Core.val64 z)) (FP.Core.zmag FP.Core.b64 (FP.Core.val64 z)) := rfl
  have h1 : -(4503599627370496 * fp_o) < fp_Z z := Int.lt_of_lt_of_le (by decide +kernel) hz.2.1
  have h2 : fp_Z z < 4503599627370496 * fp_o := Int.lt_of_le_of_lt hz.2.2 (by decide +kernel)
  have ho := FP.Core.one64_pos
  generalize FP.Core.zmag FP.Core.b64 (FP.Core.val64 z) = mm at *
  generalize FP.Core.sgn (FP.Core.val64 z) = sg at *
  have hq : mm / FP.Core.one64 < 4503599627370496 := by
    refine (Nat.div_lt_iff_lt_mul ho).mpr ?_
    unfold fp_o at h1 h2
    cases sg <;> simp only [FP.Core.signed, if_true, Bool.false_eq_true, if_false] at hsz <;> omega
  generalize mm / FP.Core.one64 = qq at *
  have ht : (FP.Core.d2l z).toInt = FP.Core.signed sg qq := by
    rw [hv]
    cases sg <;> simp only [FP.Core.signed, if_true, Bool.false_eq_true, if_false] <;> omega
  have hsm : FP.Core.Small53 (FP.d2l z) := by
    have h3 : (FP.d2l z).toInt = FP.Core.signed sg qq := ht
    have h4 := FP.Core.natAbs_signed sg qq
    unfold FP.Core.Small53
    rw [h3]
    omega
  have h1s : FP.Core.Small53 (1 : Int64) := by unfold FP.Core.Small53; decide +kernel
  have e1 : FP.l2d 1 = FP.dconst1 := by decide +kernel
  unfold pb_floor
  rw [if_pos hg, ← e1]
  exact (FP.Core.dsub_l2d hsm h1s).symm
theorem pb_floor_k {z : UInt64} (hg : ¬ FP.dcmp (FP.l2d (FP.d2l z)) z = some .gt) : FP.l2d (FP.d2l z) = pb_floor z := by
  unfold pb_floor
  rw [if_neg hg]
theorem pb_i2d_N {k : Nat} (h1 : 1 ≤ k) (h2 : k ≤ 128) : fp_I (FP.i2d (nI k)) (fp_d 1 1074) (fp_d 128 1074) := by
  have h := FP.Core.i2d_int (nI k)
  rw [nI_toInt (by omega)] at h
  obtain ⟨hf, hz⟩ := fp_of_DInt h
  obtain ⟨gg, g0, eo, -, -, e3, -⟩ := pb_gg
  have a1 : 1 * fp_o ≤ (k : Int) * fp_o := Int.mul_le_mul_of_nonneg_right (by omega) (Int.le_of_lt fp_o_pos)
  have a2 : (k : Int) * fp_o ≤ 128 * fp_o := Int.mul_le_mul_of_nonneg_right (by omega) (Int.le_of_lt fp_o_pos)
  refine ⟨hf, ?_, ?_⟩
  · show _ ≤ fp_Z (FP.Core.i2d (nI k)); rw [hz, e3, ← eo]; exact a1
  · show fp_Z (FP.Core.i2d (nI k)) ≤ _; rw [hz, e3, ← eo]; exact a2
theorem pb_dt {k : Nat} (h1 : 1 ≤ k) (h2 : k ≤ 128) : pb_Idt (FP.ddiv (FP.i2d (nI k)) 4652218415073722368) := fp_I_div (fp_d 1 1064) (fp_d 1 1071) (pb_i2d_N h1 h2) (fp_const (a := 4652218415073722368) (T := fp_d 1 1084) (by decide +kernel)) (by decide +kernel)
def pb_ok (n : Nat) (T : pb_T) : Prop := T.1 < 4 ∧ (T.1 = 0 → (∀ i, i < n → pb_Ip (T.2.2.1.1 i)) ∧ (∀ i, i < n → pb_Ip (T.2.2.1.2 i)) ∧ (∀ i, i < n → pb_Iu (T.2.2.2.1.1 i)) ∧ (∀ i, i < n → pb_Iu (T.2.2.2.1.2 i))) ∧ (∀ i, i < n → pb_Ip (T.2.2.2.2.2.1 i)) ∧ (∀ i, i < n → pb_Ip (T.2.2.2.2.2.2 i))
theorem pb_ok_n {n c t : Nat} {a b : pb_A × pb_A} {L : pb_L} (h0 : c ≠ 0) (h4 : c < 4) (h1 : ∀ i, i < n → pb_Ip (L.2.1 i)) (h2 : ∀ i, i < n → pb_Ip (L.2.2 i)) : pb_ok n (c, t, a, b, L) := ⟨h4, fun h => absurd h h0, h1, h2⟩
section OK
variable {side cut skin dt heat : UInt64} {width depth charge bk bl mass rl : pb_A} {so bi bj ri rj : Nat → Nat} {stuck : Nat → Int32} {n nb nr : Nat} {k : Int}
theorem pb_kick_F (hs : pb_S side k) (hn : n ≤ 10) (hso : ∀ i, i < n → so i < 3) (hwI : ∀ i, i < 3 → pb_Iw (width i)) (hdI : ∀ i, i < 3 → pb_Id (depth i)) (hcI : ∀ i, i < 3 → pb_Ic (charge i)) (hnb : nb ≤ 8) (hbk : ∀ i, i < nb → pb_Id (bk i)) (hbl : ∀ i, i < nb → pb_Il (bl i)) (hbi : ∀ i, i < nb → bi i < n) (hbj : ∀ i, i < nb → bj i < n) (hmI : ∀ i, i < n → pb_Im (mass i)) (hdt : pb_Idt dt)
    {x y u v : pb_A} (hX : ∀ i, i < n → pb_Ip (x i)) (hY : ∀ i, i < n → pb_Ip (y i)) (huI : ∀ i, i < n → pb_Iu (u i)) (hvI : ∀ i, i < n → pb_Iu (v i)) (h1 : ¬ pb_ovl side x y n) :
    (∀ i, i < n → fp_F (pb_kx side cut dt width depth charge bk bl mass so bi bj stuck n nb x y u i)) ∧ (∀ i, i < n → fp_F (pb_ky side cut dt width depth charge bk bl mass so bi bj stuck n nb x y v i)) := by
  have hno := pb_noov hs hX hY h1
  have hF := fun i (hi : i < n) => pb_frc_I (cut := cut) hs hn hX hY hso hwI hdI hcI hno hnb hbk hbl hbi hbj (i := i) hi
  refine ⟨fun i hi => ?_, fun i hi => ?_⟩
  · unfold pb_kx
    rw [pb_fill_at _ _ hi]
    exact pb_push_F hdt (huI i hi) (hF i hi).1 (hmI i hi)
  · unfold pb_ky
    rw [pb_fill_at _ _ hi]
    exact pb_push_F hdt (hvI i hi) (hF i hi).2 (hmI i hi)
theorem pb_car3_ok (hs : pb_S side k) (hn : n ≤ 10) (hso : ∀ i, i < n → so i < 3) (hwI : ∀ i, i < 3 → pb_Iw (width i)) (hdI : ∀ i, i < 3 → pb_Id (depth i)) (hcI : ∀ i, i < 3 → pb_Ic (charge i)) (hnb : nb ≤ 8) (hbk : ∀ i, i < nb → pb_Id (bk i)) (hbl : ∀ i, i < nb → pb_Il (bl i)) (hbi : ∀ i, i < nb → bi i < n) (hbj : ∀ i, i < nb → bj i < n) (hmI : ∀ i, i < n → pb_Im (mass i)) (hdt : pb_Idt dt) (hheat : fp_I heat (fp_d (-1) 1110) (fp_d 1000 1074))
    {x y u v : pb_A} {t : Nat} {L : pb_L} (hX : ∀ i, i < n → pb_Ip (x i)) (hY : ∀ i, i < n → pb_Ip (y i)) (huI : ∀ i, i < n → pb_Iu (u i)) (hvI : ∀ i, i < n → pb_Iu (v i)) (hmX : ∀ i, i < n → pb_Ip (L.2.1 i)) (hmY : ∀ i, i < n → pb_Ip (L.2.2 i)) :
    pb_ok n (pb_car3 side cut skin dt heat width depth charge bk bl mass so bi bj stuck n nb x y u v t L) := by
  have gL := pb_lst_I (side := side) (skin := skin) (L := L) hX hY hmX hmY
  unfold pb_car3
  by_cases h1 : pb_ovl side x y n
  · rw [pb_if_t h1]
    exact pb_ok_n (by decide) (by decide) gL.1 gL.2
  · rw [pb_if_f h1]
    have K := pb_kick_F (cut := cut) (stuck := stuck) hs hn hso hwI hdI hcI hnb hbk hbl hbi hbj hmI hdt hX hY huI hvI h1
    by_cases h2 : pb_bl n (pb_kx side cut dt width depth charge bk bl mass so bi bj stuck n nb x y u) (pb_ky side cut dt width depth charge bk bl mass so bi bj stuck n nb x y v)
    · rw [pb_if_t h2]
      exact pb_ok_n (by decide) (by decide) gL.1 gL.2
    · rw [pb_if_f h2]
      have sl := pb_notbl h2 K.1 K.2
      by_cases h3 : pb_on heat
      · rw [pb_if_t h3]
        have hh0 : 0 ≤ fp_Z heat := by
          have h4 := FP.Core.dcmp_ge.mp h3
          have h0 : fp_Z FP.dconst0 = 0 := by decide +kernel
          have h5 : fp_Z FP.dconst0 ≤ fp_Z heat := h4.2.2
          omega
        have B := pb_brg_I (stuck := stuck) hn hmI (fun i hi => pb_is_u (sl.1 i hi)) (fun i hi => pb_is_u (sl.2 i hi)) (tw := heat) ⟨hheat.1, hh0, hheat.2.2⟩
        exact ⟨by show 0 < 4; decide, fun _ => ⟨hX, hY, B.1, B.2⟩, gL.1, gL.2⟩
      · rw [pb_if_f h3]
        exact ⟨by show 0 < 4; decide, fun _ => ⟨hX, hY, fun i hi => pb_is_u (sl.1 i hi), fun i hi => pb_is_u (sl.2 i hi)⟩, gL.1, gL.2⟩
theorem pb_car_ok (hs : pb_S side k) (hn : n ≤ 10) (hso : ∀ i, i < n → so i < 3) (hwI : ∀ i, i < 3 → pb_Iw (width i)) (hdI : ∀ i, i < 3 → pb_Id (depth i)) (hcI : ∀ i, i < 3 → pb_Ic (charge i)) (hnb : nb ≤ 8) (hbk : ∀ i, i < nb → pb_Id (bk i)) (hbl : ∀ i, i < nb → pb_Il (bl i)) (hbi : ∀ i, i < nb → bi i < n) (hbj : ∀ i, i < nb → bj i < n) (hmI : ∀ i, i < n → pb_Im (mass i)) (hdt : pb_Idt dt) (hheat : fp_I heat (fp_d (-1) 1110) (fp_d 1000 1074))
    (hnr : nr ≤ 4) (hri : ∀ i, i < nr → ri i < n) (hrj : ∀ i, i < nr → rj i < n) (hrl : ∀ i, i < nr → pb_Il (rl i))
    {ox oy x y u v : pb_A} {L : pb_L} (hOx : ∀ i, i < n → pb_Ip (ox i)) (hOy : ∀ i, i < n → pb_Ip (oy i)) (hX : ∀ i, i < n → pb_Ip (x i)) (hY : ∀ i, i < n → pb_Ip (y i)) (huI : ∀ i, i < n → pb_Iu (u i)) (hvI : ∀ i, i < n → pb_Iu (v i)) (hmX : ∀ i, i < n → pb_Ip (L.2.1 i)) (hmY : ∀ i, i < n → pb_Ip (L.2.2 i)) :
    pb_ok n (pb_car side cut skin dt heat width depth charge bk bl mass rl so bi bj ri rj stuck n nb nr ox oy x y u v L) := by
  have gL := pb_lst_I (side := side) (skin := skin) (L := L) hX hY hmX hmY
  unfold pb_car
  by_cases h1 : pb_ovl side x y n
  · rw [pb_if_t h1]
    exact pb_ok_n (by decide) (by decide) gL.1 gL.2
  · rw [pb_if_f h1]
    have K := pb_kick_F (cut := cut) (stuck := stuck) hs hn hso hwI hdI hcI hnb hbk hbl hbi hbj hmI hdt hX hY huI hvI h1
    by_cases h2 : pb_bl n (pb_kx side cut dt width depth charge bk bl mass so bi bj stuck n nb x y u) (pb_ky side cut dt width depth charge bk bl mass so bi bj stuck n nb x y v)
    · rw [pb_if_t h2]
      exact pb_ok_n (by decide) (by decide) gL.1 gL.2
    · rw [pb_if_f h2]
      have sl := pb_notbl h2 K.1 K.2
      generalize pb_kx side cut dt width depth charge bk bl mass so bi bj stuck n nb x y u = u1 at *
      generalize pb_ky side cut dt width depth charge bk bl mass so bi bj stuck n nb x y v = v1 at *
      have bx : pb_bd n 1 (pb_fill (pb_drif dt x u1 stuck) x n) := pb_fillI (q := fun z => fp_I z (fp_d (-1) 1113) (fp_d 1 1113)) (fun i hi => pb_drif_I hdt (hX i hi) (sl.1 i hi))
      have by_ : pb_bd n 1 (pb_fill (pb_drif dt y v1 stuck) y n) := pb_fillI (q := fun z => fp_I z (fp_d (-1) 1113) (fp_d 1 1113)) (fun i hi => pb_drif_I hdt (hY i hi) (sl.2 i hi))
      generalize pb_fill (pb_drif dt x u1 stuck) x n = x1 at *
      generalize pb_fill (pb_drif dt y v1 stuck) y n = y1 at *
      generalize pb_lst side skin n x y L = L1 at *
      unfold pb_car2
      rcases hg : pb_go side ox oy mass stuck ri rj rl nr 40 0 (x1, y1) with _ | ⟨t, x2, y2⟩
      · exact pb_ok_n (by decide) (by decide) gL.1 gL.2
      · dsimp only
        have gb := pb_go_I (stuck := stuck) hs hOx hOy hmI hri hrj hrl hnr 40 0 (x1, y1) t (x2, y2) (by omega) bx by_ hg
        have hx2 : ∀ i, i < n → pb_Ix (x2 i) := pb_bd_x (Int.le_refl _) gb.1
        have hy2 : ∀ i, i < n → pb_Ix (y2 i) := pb_bd_x (Int.le_refl _) gb.2
        have FU : ∀ i, i < n → fp_F (pb_w2 dt stuck n nr x2 ox u1 i) := by
          unfold pb_w2
          by_cases hz : nr = 0
          · rw [pb_if_t hz]; exact K.1
          · rw [pb_if_f hz]; exact pb_fillI (q := fp_F) (fun i hi => pb_ways_F hdt (hx2 i hi) (hOx i hi) (K.1 i hi))
        have FV : ∀ i, i < n → fp_F (pb_w2 dt stuck n nr y2 oy v1 i) := by
          unfold pb_w2
          by_cases hz : nr = 0
          · rw [pb_if_t hz]; exact K.2
          · rw [pb_if_f hz]; exact pb_fillI (q := fp_F) (fun i hi => pb_ways_F hdt (hy2 i hi) (hOy i hi) (K.2 i hi))
        by_cases h4 : pb_bl n (pb_w2 dt stuck n nr x2 ox u1) (pb_w2 dt stuck n nr y2 oy v1)
        · rw [pb_if_t h4]
          exact pb_ok_n (by decide) (by decide) gL.1 gL.2
        · rw [pb_if_f h4]
          have s2 := pb_notbl h4 FU FV
          exact pb_car3_ok hs hn hso hwI hdI hcI hnb hbk hbl hbi hbj hmI hdt hheat (pb_fillI (q := pb_Ip) (fun i hi => pb_wrap_I hs (hx2 i hi))) (pb_fillI (q := pb_Ip) (fun i hi => pb_wrap_I hs (hy2 i hi))) (fun i hi => pb_is_u (s2.1 i hi)) (fun i hi => pb_is_u (s2.2 i hi)) gL.1 gL.2
end OK
theorem pb_back {x z o : pb_A} {n : Nat} (h : ∀ j, n ≤ j → z j = x j) : pb_fill (pb_fill x o n) z n = x := by
  funext j
  by_cases hj : j < n
  · rw [pb_fill_at _ _ hj, pb_fill_at _ _ hj]
  · rw [pb_fill_ge _ _ (by omega), h j (by omega)]
/-! a run of STEPS -/
abbrev pb_M : Type := (pb_A × pb_A) × (pb_A × pb_A) × pb_L × Int32 × (Nat → Int32) × ((pb_A × pb_A) × (pb_A × pb_A))
section RUN
variable (side cut skin dt heat : UInt64) (width depth charge bk bl mass rl : pb_A) (so bi bj ri rj : Nat → Nat) (stuck : Nat → Int32) (n nb nr : Nat)
noncomputable def pb_carM (M : pb_M) : pb_T := pb_car side cut skin dt heat width depth charge bk bl mass rl so bi bj ri rj stuck n nb nr (pb_fill M.1.1 M.2.2.2.2.2.1.1 n) (pb_fill M.1.2 M.2.2.2.2.2.1.2 n) M.1.1 M.1.2 M.2.1.1 M.2.1.2 M.2.2.1
def pb_olds (M : pb_M) : (pb_A × pb_A) × (pb_A × pb_A) := ((pb_fill M.1.1 M.2.2.2.2.2.1.1 n, pb_fill M.1.2 M.2.2.2.2.2.1.2 n), (pb_fill M.2.1.1 M.2.2.2.2.2.2.1 n, pb_fill M.2.1.2 M.2.2.2.2.2.2.2 n))
def pb_good (T : pb_T) (M : pb_M) : pb_M := (T.2.2.1, T.2.2.2.1, T.2.2.2.2, M.2.2.2.1 + nI T.2.1, upd M.2.2.2.2.1 0 (M.2.2.2.2.1 0 + 1), pb_olds n M)
def pb_fail (T : pb_T) (M : pb_M) : pb_M := (M.1, M.2.1, ((0, T.2.2.2.2.1.2), T.2.2.2.2.2), M.2.2.2.1, upd M.2.2.2.2.1 T.1 (M.2.2.2.2.1 T.1 + 1), pb_olds n M)
noncomputable def pb_run : Nat → pb_M → Nat × pb_M
  | 0, M => (0, M)
  | f + 1, M => pb_if ((pb_carM side cut skin dt heat width depth charge bk bl mass rl so bi bj ri rj stuck n nb nr M).1 = 0) (pb_run f (pb_good n (pb_carM side cut skin dt heat width depth charge bk bl mass rl so bi bj ri rj stuck n nb nr M) M)) ((pb_carM side cut skin dt heat width depth charge bk bl mass rl so bi bj ri rj stuck n nb nr M).1, pb_fail n (pb_carM side cut skin dt heat width depth charge bk bl mass rl so bi bj ri rj stuck n nb nr M) M)
end RUN
