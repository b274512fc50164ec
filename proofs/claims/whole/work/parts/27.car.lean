/-! a STEP as a function -/
abbrev pb_L : Type := (Int32 × Int32) × (pb_A × pb_A)
abbrev pb_T : Type := Nat × Nat × (pb_A × pb_A) × (pb_A × pb_A) × pb_L
def pb_kx (side cut dt : UInt64) (width depth charge bk bl mass : pb_A) (so bi bj : Nat → Nat) (stuck : Nat → Int32) (n nb : Nat) (x y u : pb_A) : pb_A := pb_fill (pb_pushf dt u (fun j => (pb_frc side cut x y width depth charge so bi bj bk bl n nb j).1) mass stuck) u n
def pb_ky (side cut dt : UInt64) (width depth charge bk bl mass : pb_A) (so bi bj : Nat → Nat) (stuck : Nat → Int32) (n nb : Nat) (x y v : pb_A) : pb_A := pb_fill (pb_pushf dt v (fun j => (pb_frc side cut x y width depth charge so bi bj bk bl n nb j).2) mass stuck) v n
def pb_bl (n : Nat) (u v : pb_A) : Prop := ∃ i, i < n ∧ (pb_fast (u i) ∨ pb_fast (v i))
noncomputable def pb_lst (side skin : UInt64) (n : Nat) (x y : pb_A) (L : pb_L) : pb_L := ((pb_if (L.1.1 = 0 ∨ pb_far side skin L.2.1 L.2.2 x y n) 1 L.1.1, pb_if (L.1.1 = 0 ∨ pb_far side skin L.2.1 L.2.2 x y n) (L.1.2 + 1) L.1.2), (pb_if (L.1.1 = 0 ∨ pb_far side skin L.2.1 L.2.2 x y n) (pb_fill x L.2.1 n) L.2.1, pb_if (L.1.1 = 0 ∨ pb_far side skin L.2.1 L.2.2 x y n) (pb_fill y L.2.2 n) L.2.2))
noncomputable def pb_brg (tw : UInt64) (mass : pb_A) (stuck : Nat → Int32) (n : Nat) (u v w : pb_A) : pb_A := pb_if (pb_cold mass u v stuck n) w (pb_fill (pb_scl (pb_root (FP.ddiv tw (pb_heat mass u v stuck n))) w stuck) w n)
def pb_on (heat : UInt64) : Prop := FP.dcmp heat FP.dconst0 = some .gt ∨ FP.dcmp heat FP.dconst0 = some .eq
section CAR
variable (side cut skin dt heat : UInt64) (width depth charge bk bl mass rl : pb_A) (so bi bj ri rj : Nat → Nat) (stuck : Nat → Int32) (n nb nr : Nat)
noncomputable def pb_car3 (x y u v : pb_A) (t : Nat) (L : pb_L) : pb_T :=
  pb_if (pb_ovl side x y n) (1, t, (x, y), (u, v), pb_lst side skin n x y L)
    (pb_if (pb_bl n (pb_kx side cut dt width depth charge bk bl mass so bi bj stuck n nb x y u) (pb_ky side cut dt width depth charge bk bl mass so bi bj stuck n nb x y v)) (3, t, (x, y), (u, v), pb_lst side skin n x y L)
      (0, t, (x, y), pb_if (pb_on heat) (pb_brg heat mass stuck n (pb_kx side cut dt width depth charge bk bl mass so bi bj stuck n nb x y u) (pb_ky side cut dt width depth charge bk bl mass so bi bj stuck n nb x y v) (pb_kx side cut dt width depth charge bk bl mass so bi bj stuck n nb x y u), pb_brg heat mass stuck n (pb_kx side cut dt width depth charge bk bl mass so bi bj stuck n nb x y u) (pb_ky side cut dt width depth charge bk bl mass so bi bj stuck n nb x y v) (pb_ky side cut dt width depth charge bk bl mass so bi bj stuck n nb x y v)) (pb_kx side cut dt width depth charge bk bl mass so bi bj stuck n nb x y u, pb_ky side cut dt width depth charge bk bl mass so bi bj stuck n nb x y v), pb_lst side skin n x y L))
noncomputable def pb_w2 (x2 ox u : pb_A) : pb_A := pb_if (nr = 0) u (pb_fill (pb_ways dt x2 ox u stuck) u n)
noncomputable def pb_car2 (ox oy x1 y1 u v : pb_A) (L : pb_L) : pb_T :=
  match pb_go side ox oy mass stuck ri rj rl nr 40 0 (x1, y1) with
  | none => (2, 40, (x1, y1), (u, v), L)
  | some (t, (x2, y2)) => pb_if (pb_bl n (pb_w2 dt stuck n nr x2 ox u) (pb_w2 dt stuck n nr y2 oy v)) (3, t, (x1, y1), (u, v), L)
      (pb_car3 side cut skin dt heat width depth charge bk bl mass so bi bj stuck n nb (pb_fill (fun j => pb_wrap side (x2 j)) x2 n) (pb_fill (fun j => pb_wrap side (y2 j)) y2 n) (pb_w2 dt stuck n nr x2 ox u) (pb_w2 dt stuck n nr y2 oy v) t L)
noncomputable def pb_car (ox oy x y u v : pb_A) (L : pb_L) : pb_T :=
  pb_if (pb_ovl side x y n) (1, 40, (x, y), (u, v), pb_lst side skin n x y L)
    (pb_if (pb_bl n (pb_kx side cut dt width depth charge bk bl mass so bi bj stuck n nb x y u) (pb_ky side cut dt width depth charge bk bl mass so bi bj stuck n nb x y v)) (3, 40, (x, y), (u, v), pb_lst side skin n x y L)
      (pb_car2 side cut skin dt heat width depth charge bk bl mass rl so bi bj ri rj stuck n nb nr ox oy (pb_fill (pb_drif dt x (pb_kx side cut dt width depth charge bk bl mass so bi bj stuck n nb x y u) stuck) x n) (pb_fill (pb_drif dt y (pb_ky side cut dt width depth charge bk bl mass so bi bj stuck n nb x y v) stuck) y n) (pb_kx side cut dt width depth charge bk bl mass so bi bj stuck n nb x y u) (pb_ky side cut dt width depth charge bk bl mass so bi bj stuck n nb x y v) (pb_lst side skin n x y L)))
end CAR
theorem pb_push_eq (dt : UInt64) (u G fx mass : pb_A) (stuck : Nat → Int32) (n : Nat) : pb_fill (pb_pushf dt u (pb_fill G fx n) mass stuck) u n = pb_fill (pb_pushf dt u G mass stuck) u n := by
  funext j
  unfold pb_fill
  by_cases h : j < n
  · rw [if_pos h, if_pos h]
    unfold pb_pushf
    dsimp only
    rw [if_pos h]
  · rw [if_neg h, if_neg h]
theorem pb_fillI {q : UInt64 → Prop} {g f : pb_A} {n : Nat} (h : ∀ i, i < n → q (g i)) : ∀ i, i < n → q (pb_fill g f n i) := fun i hi => by
  rw [pb_fill_at g f hi]
  exact h i hi
/-- a pushed speed is finite -/
theorem pb_push_F {dt : UInt64} {u f mass : pb_A} {stuck : Nat → Int32} {i : Nat} (hdt : pb_Idt dt) (hu : pb_Iu (u i)) (hf : pb_If (f i)) (hm : pb_Im (mass i)) : fp_F (pb_pushf dt u f mass stuck i) := by
  unfold pb_pushf
  split
  · have hh := fp_const (a := 4602678819172646912) (T := fp_d 1 1073) (by decide +kernel)
    have a := fp_I_mul (fp_d 1 1063) (fp_d 1 1070) hh hdt (by decide +kernel)
    have b := fp_I_div (fp_d (-144) 1206) (fp_d 144 1206) hf hm (by decide +kernel)
    have c := fp_I_mul (fp_d (-1) 1212) (fp_d 1 1212) a b (by decide +kernel)
    exact (fp_I_add (fp_d (-1) 1213) (fp_d 1 1213) hu c (by decide +kernel)).1
  · exact hu.1
theorem pb_drif_I {dt : UInt64} {x u : pb_A} {stuck : Nat → Int32} {i : Nat} (hdt : pb_Idt dt) (hx : pb_Ip (x i)) (hu : pb_Is (u i)) : fp_I (pb_drif dt x u stuck i) (fp_d (-1) 1113) (fp_d 1 1113) := by
  unfold pb_drif
  split
  · have a := fp_I_mul (fp_d (-125000) 1074) (fp_d 125000 1074) hdt hu (by decide +kernel)
    exact (fp_I_add (fp_d (-1) 1092) (fp_d 1 1092) hx a (by decide +kernel)).w (by decide +kernel) (by decide +kernel)
  · exact hx.w (by decide +kernel) (by decide +kernel)
theorem pb_ways_F {dt : UInt64} {x ox u : pb_A} {stuck : Nat → Int32} {i : Nat} (hdt : pb_Idt dt) (hx : pb_Ix (x i)) (ho : pb_Ip (ox i)) (hu : fp_F (u i)) : fp_F (pb_ways dt x ox u stuck i) := by
  unfold pb_ways
  split
  · have a := fp_I_sub (fp_d (-1) 1122) (fp_d 1 1122) hx ho (by decide +kernel)
    exact (fp_I_div (fp_d (-1) 1140) (fp_d 1 1140) a hdt (by decide +kernel)).1
  · exact hu
theorem pb_notbl {n : Nat} {u v : pb_A} (h : ¬ pb_bl n u v) (hu : ∀ i, i < n → fp_F (u i)) (hv : ∀ i, i < n → fp_F (v i)) : (∀ i, i < n → pb_Is (u i)) ∧ (∀ i, i < n → pb_Is (v i)) := ⟨fun i hi => pb_slow (hu i hi) (fun q => h ⟨i, hi, Or.inl q⟩), fun i hi => pb_slow (hv i hi) (fun q => h ⟨i, hi, Or.inr q⟩)⟩
theorem pb_is_u {a : UInt64} (h : pb_Is a) : pb_Iu a := h.w (by decide +kernel) (by decide +kernel)
/-- the results of pb_go are in bounds -/
theorem pb_go_I {side : UInt64} {ox oy mass : pb_A} {stuck : Nat → Int32} {ri rj : Nat → Nat} {rl : pb_A} {n nr : Nat} {k : Int} (hs : pb_S side k) (hox : ∀ i, i < n → pb_Ip (ox i)) (hoy : ∀ i, i < n → pb_Ip (oy i)) (hm : ∀ i, i < n → pb_Im (mass i)) (hri : ∀ i, i < nr → ri i < n) (hrj : ∀ i, i < nr → rj i < n) (hl : ∀ i, i < nr → pb_Il (rl i)) (hnr : nr ≤ 4) : ∀ (f t : Nat) (s : pb_A × pb_A) (t2 : Nat) (s2 : pb_A × pb_A), f + t ≤ 40 → pb_bd n (1 + 4 * (t : Int)) s.1 → pb_bd n (1 + 4 * (t : Int)) s.2 → pb_go side ox oy mass stuck ri rj rl nr f t s = some (t2, s2) → pb_bd n 256 s2.1 ∧ pb_bd n 256 s2.2
  | 0, _, _, _, _, _, _, _, h => by cases h
  | f + 1, t, s, t2, s2, hft, hx, hy, h => by
    have R := pb_rs_I (stuck := stuck) hs hox hoy hm hri hrj hl hnr (N := 1 + 4 * (t : Int)) (by omega) (by omega) hx hy nr (Nat.le_refl _)
    unfold pb_go at h
    by_cases h1 : pb_stf side ox oy mass stuck ri rj rl s nr
    · rw [pb_if_t h1] at h; cases h
    · rw [pb_if_f h1] at h
      by_cases h2 : pb_chd side ox oy mass stuck ri rj rl s nr
      · rw [pb_if_t h2] at h
        exact pb_go_I hs hox hoy hm hri hrj hl hnr f (t + 1) _ t2 s2 (by omega) (pb_bd_w (by omega) R.1) (pb_bd_w (by omega) R.2) h
      · rw [pb_if_f h2] at h
        cases h
        exact ⟨pb_bd_w (by omega) R.1, pb_bd_w (by omega) R.2⟩
theorem pb_lst_I {side skin : UInt64} {n : Nat} {x y : pb_A} {L : pb_L} (hX : ∀ i, i < n → pb_Ip (x i)) (hY : ∀ i, i < n → pb_Ip (y i)) (hmX : ∀ i, i < n → pb_Ip (L.2.1 i)) (hmY : ∀ i, i < n → pb_Ip (L.2.2 i)) : (∀ i, i < n → pb_Ip ((pb_lst side skin n x y L).2.1 i)) ∧ (∀ i, i < n → pb_Ip ((pb_lst side skin n x y L).2.2 i)) := by
  unfold pb_lst
  by_cases h : L.1.1 = 0 ∨ pb_far side skin L.2.1 L.2.2 x y n
  · simp only [pb_if_t h]
    exact ⟨pb_fillI hX, pb_fillI hY⟩
  · simp only [pb_if_f h]
    exact ⟨hmX, hmY⟩
