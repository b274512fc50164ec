/-! what the reference keeps beside the places: two rows of its own; RODS there; a STEP with and without the THERMOSTAT -/
theorem pb_fill_fill (g f a : pb_A) (n : Nat) : pb_fill (pb_fill g f n) a n = pb_fill g a n := by
  funext j
  by_cases hj : j < n
  · rw [pb_fill_at _ _ hj, pb_fill_at _ _ hj, pb_fill_at _ _ hj]
  · rw [pb_fill_ge _ _ (by omega), pb_fill_ge _ _ (by omega)]
theorem pb_fill_upd {x a : pb_A} {n i : Nat} {z : UInt64} (h : i < n) : vf_upd (pb_fill x a n) i z = pb_fill (vf_upd x i z) a n := by
  funext j
  by_cases hj : j = i
  · subst hj
    rw [pb_us, pb_fill_at _ _ h, pb_us]
  · rw [pb_un hj]
    by_cases h2 : j < n
    · rw [pb_fill_at _ _ h2, pb_fill_at _ _ h2, pb_un hj]
    · rw [pb_fill_ge _ _ (by omega), pb_fill_ge _ _ (by omega)]
section GF
variable {side : UInt64} {ox oy mass : pb_A} {stuck : Nat → Int32} {ri rj : Nat → Nat} {rl : pb_A} {n nr : Nat} {a b : pb_A}
theorem pb_code_fill {x y : pb_A} {r : Nat} (h1 : ri r < n) (h2 : rj r < n) : pb_code side ox oy mass stuck ri rj rl (pb_fill x a n) (pb_fill y b n) r = pb_code side ox oy mass stuck ri rj rl x y r := by
  unfold pb_code pb_fit pb_tight pb_h pb_over pb_way
  rw [pb_fill_at x a h1, pb_fill_at x a h2, pb_fill_at y b h1, pb_fill_at y b h2]
theorem pb_g_fill {x y : pb_A} {r : Nat} (h1 : ri r < n) (h2 : rj r < n) : pb_g side ox oy mass stuck ri rj rl (pb_fill x a n) (pb_fill y b n) r = pb_g side ox oy mass stuck ri rj rl x y r := by
  unfold pb_g pb_h pb_over pb_way
  rw [pb_fill_at x a h1, pb_fill_at x a h2, pb_fill_at y b h1, pb_fill_at y b h2]
theorem pb_mv_fill {x y f c o : pb_A} {r : Nat} (h1 : ri r < n) (h2 : rj r < n) : pb_mv side ox oy mass stuck ri rj rl (pb_fill x a n) (pb_fill y b n) r (pb_fill f c n) o = pb_fill (pb_mv side ox oy mass stuck ri rj rl x y r f o) c n := by
  unfold pb_mv
  rw [pb_g_fill h1 h2, pb_fill_at f c h1, pb_fill_at f c h2, pb_fill_upd h1, pb_fill_upd h2]
theorem pb_rdx_fill {x y : pb_A} {r : Nat} (h1 : ri r < n) (h2 : rj r < n) : pb_rdx side ox oy mass stuck ri rj rl (pb_fill x a n) (pb_fill y b n) r = pb_fill (pb_rdx side ox oy mass stuck ri rj rl x y r) a n := by
  unfold pb_rdx
  rw [pb_code_fill h1 h2]
  by_cases hc : pb_code side ox oy mass stuck ri rj rl x y r = 1
  · rw [pb_if_t hc, pb_if_t hc, pb_mv_fill h1 h2]
  · rw [pb_if_f hc, pb_if_f hc]
theorem pb_rdy_fill {x y : pb_A} {r : Nat} (h1 : ri r < n) (h2 : rj r < n) : pb_rdy side ox oy mass stuck ri rj rl (pb_fill x a n) (pb_fill y b n) r = pb_fill (pb_rdy side ox oy mass stuck ri rj rl x y r) b n := by
  unfold pb_rdy
  rw [pb_code_fill h1 h2]
  by_cases hc : pb_code side ox oy mass stuck ri rj rl x y r = 1
  · rw [pb_if_t hc, pb_if_t hc, pb_mv_fill h1 h2]
  · rw [pb_if_f hc, pb_if_f hc]
theorem pb_rs_fill (hri : ∀ i, i < nr → ri i < n) (hrj : ∀ i, i < nr → rj i < n) (s : pb_A × pb_A) : ∀ r, r ≤ nr → pb_rs side ox oy mass stuck ri rj rl (pb_fill s.1 a n, pb_fill s.2 b n) r = (pb_fill (pb_rs side ox oy mass stuck ri rj rl s r).1 a n, pb_fill (pb_rs side ox oy mass stuck ri rj rl s r).2 b n)
  | 0, _ => rfl
  | r + 1, h => by
    have ih := pb_rs_fill hri hrj s r (by omega)
    show (pb_rdx side ox oy mass stuck ri rj rl (pb_rs side ox oy mass stuck ri rj rl (pb_fill s.1 a n, pb_fill s.2 b n) r).1 (pb_rs side ox oy mass stuck ri rj rl (pb_fill s.1 a n, pb_fill s.2 b n) r).2 r, pb_rdy side ox oy mass stuck ri rj rl (pb_rs side ox oy mass stuck ri rj rl (pb_fill s.1 a n, pb_fill s.2 b n) r).1 (pb_rs side ox oy mass stuck ri rj rl (pb_fill s.1 a n, pb_fill s.2 b n) r).2 r) = _
    rw [ih]
    show (pb_rdx side ox oy mass stuck ri rj rl (pb_fill (pb_rs side ox oy mass stuck ri rj rl s r).1 a n) (pb_fill (pb_rs side ox oy mass stuck ri rj rl s r).2 b n) r, pb_rdy side ox oy mass stuck ri rj rl (pb_fill (pb_rs side ox oy mass stuck ri rj rl s r).1 a n) (pb_fill (pb_rs side ox oy mass stuck ri rj rl s r).2 b n) r) = _
    rw [pb_rdx_fill (hri r (by omega)) (hrj r (by omega)), pb_rdy_fill (hri r (by omega)) (hrj r (by omega))]
    rfl
theorem pb_cd_fill (hri : ∀ i, i < nr → ri i < n) (hrj : ∀ i, i < nr → rj i < n) (s : pb_A × pb_A) (r : Nat) (h : r < nr) : pb_cd side ox oy mass stuck ri rj rl (pb_fill s.1 a n, pb_fill s.2 b n) r = pb_cd side ox oy mass stuck ri rj rl s r := by
  unfold pb_cd
  rw [pb_rs_fill hri hrj s r (by omega)]
  exact pb_code_fill (hri r h) (hrj r h)
theorem pb_stf_fill (hri : ∀ i, i < nr → ri i < n) (hrj : ∀ i, i < nr → rj i < n) (s : pb_A × pb_A) : pb_stf side ox oy mass stuck ri rj rl (pb_fill s.1 a n, pb_fill s.2 b n) nr = pb_stf side ox oy mass stuck ri rj rl s nr := by
  refine propext ⟨?_, ?_⟩
  · rintro ⟨q, h1, h2⟩
    rw [pb_cd_fill hri hrj s q h1] at h2
    exact ⟨q, h1, h2⟩
  · rintro ⟨q, h1, h2⟩
    rw [← pb_cd_fill (a := a) (b := b) hri hrj s q h1] at h2
    exact ⟨q, h1, h2⟩
theorem pb_chd_fill (hri : ∀ i, i < nr → ri i < n) (hrj : ∀ i, i < nr → rj i < n) (s : pb_A × pb_A) : pb_chd side ox oy mass stuck ri rj rl (pb_fill s.1 a n, pb_fill s.2 b n) nr = pb_chd side ox oy mass stuck ri rj rl s nr := by
  refine propext ⟨?_, ?_⟩
  · rintro ⟨q, h1, h2⟩
    rw [pb_cd_fill hri hrj s q h1] at h2
    exact ⟨q, h1, h2⟩
  · rintro ⟨q, h1, h2⟩
    rw [← pb_cd_fill (a := a) (b := b) hri hrj s q h1] at h2
    exact ⟨q, h1, h2⟩
theorem pb_go_fill (hri : ∀ i, i < nr → ri i < n) (hrj : ∀ i, i < nr → rj i < n) : ∀ (f t : Nat) (s : pb_A × pb_A), pb_go side ox oy mass stuck ri rj rl nr f t (pb_fill s.1 a n, pb_fill s.2 b n) = (pb_go side ox oy mass stuck ri rj rl nr f t s).map (fun r => (r.1, (pb_fill r.2.1 a n, pb_fill r.2.2 b n)))
  | 0, _, _ => rfl
  | f + 1, t, s => by
    have ih := pb_go_fill hri hrj f (t + 1) (pb_rs side ox oy mass stuck ri rj rl s nr)
    unfold pb_go
    rw [pb_stf_fill hri hrj s, pb_chd_fill hri hrj s, pb_rs_fill hri hrj s nr (Nat.le_refl _), ih]
    by_cases h1 : pb_stf side ox oy mass stuck ri rj rl s nr
    · rw [pb_if_t h1, pb_if_t h1]; rfl
    · rw [pb_if_f h1, pb_if_f h1]
      by_cases h2 : pb_chd side ox oy mass stuck ri rj rl s nr
      · rw [pb_if_t h2, pb_if_t h2]
      · rw [pb_if_f h2, pb_if_f h2]; rfl
theorem pb_go_B (hri : ∀ i, i < nr → ri i < n) (hrj : ∀ i, i < nr → rj i < n) : ∀ (f t : Nat) (s : pb_A × pb_A) (t2 : Nat) (s2 : pb_A × pb_A), pb_go side ox oy mass stuck ri rj rl nr f t s = some (t2, s2) → ∀ j, n ≤ j → s2.1 j = s.1 j ∧ s2.2 j = s.2 j
  | 0, _, _, _, _, h => by cases h
  | f + 1, t, s, t2, s2, h => by
    have B := pb_rs_B (side := side) (ox := ox) (oy := oy) (mass := mass) (stuck := stuck) (rl := rl) hri hrj s nr (Nat.le_refl _)
    unfold pb_go at h
    by_cases h1 : pb_stf side ox oy mass stuck ri rj rl s nr
    · rw [pb_if_t h1] at h; cases h
    · rw [pb_if_f h1] at h
      by_cases h2 : pb_chd side ox oy mass stuck ri rj rl s nr
      · rw [pb_if_t h2] at h
        intro j hj
        have g := pb_go_B hri hrj f (t + 1) _ t2 s2 h j hj
        exact ⟨g.1.trans (B j hj).1, g.2.trans (B j hj).2⟩
      · rw [pb_if_f h2] at h
        cases h
        exact B
theorem pb_go_S (hri : ∀ i, i < nr → ri i < n) (hrj : ∀ i, i < nr → rj i < n) {x1 y1 zx zy : pb_A} {t : Nat} (h : pb_go side ox oy mass stuck ri rj rl nr 40 0 (pb_fill x1 a n, pb_fill y1 b n) = some (t, (zx, zy))) :
    ∃ x2 y2 : pb_A, pb_go side ox oy mass stuck ri rj rl nr 40 0 (x1, y1) = some (t, (x2, y2)) ∧ zx = pb_fill x2 a n ∧ zy = pb_fill y2 b n ∧ (∀ j, n ≤ j → x2 j = x1 j ∧ y2 j = y1 j) := by
  have e := pb_go_fill (side := side) (ox := ox) (oy := oy) (mass := mass) (stuck := stuck) (rl := rl) (a := a) (b := b) hri hrj 40 0 (x1, y1)
  rw [show pb_go side ox oy mass stuck ri rj rl nr 40 0 (pb_fill (x1, y1).1 a n, pb_fill (x1, y1).2 b n) = _ from h] at e
  rcases hg : pb_go side ox oy mass stuck ri rj rl nr 40 0 (x1, y1) with _ | ⟨t2, x2, y2⟩
  · rw [hg] at e; cases e
  · rw [hg] at e
    have e2 := Option.some.inj e
    have e3 : t = t2 := congrArg (fun z => z.1) e2
    have e4 : zx = pb_fill x2 a n := congrArg (fun z => z.2.1) e2
    have e5 : zy = pb_fill y2 b n := congrArg (fun z => z.2.2) e2
    exact ⟨x2, y2, by rw [e3], e4, e5, pb_go_B hri hrj 40 0 (x1, y1) t2 (x2, y2) hg⟩
theorem pb_go_N (hri : ∀ i, i < nr → ri i < n) (hrj : ∀ i, i < nr → rj i < n) {x1 y1 : pb_A} (h : pb_go side ox oy mass stuck ri rj rl nr 40 0 (pb_fill x1 a n, pb_fill y1 b n) = none) : pb_go side ox oy mass stuck ri rj rl nr 40 0 (x1, y1) = none := by
  have e := pb_go_fill (side := side) (ox := ox) (oy := oy) (mass := mass) (stuck := stuck) (rl := rl) (a := a) (b := b) hri hrj 40 0 (x1, y1)
  rw [show pb_go side ox oy mass stuck ri rj rl nr 40 0 (pb_fill (x1, y1).1 a n, pb_fill (x1, y1).2 b n) = _ from h] at e
  rcases hg : pb_go side ox oy mass stuck ri rj rl nr 40 0 (x1, y1) with _ | ⟨t2, x2, y2⟩
  · rfl
  · rw [hg] at e; cases e
end GF
theorem pb_w2_m {dt : UInt64} {X2 x2 x ox u : pb_A} {stuck : Nat → Int32} {n nr i : Nat} (hi : i = n ∨ nr = 0) (hz : nr = 0 → i = 0) (ha : ∀ j, j < n → X2 j = x2 j) (ho : ∀ j, j < n → x j = ox j) : pb_fill (pb_ways dt X2 x u stuck) u i = pb_w2 dt stuck n nr x2 ox u := by
  unfold pb_w2
  by_cases h0 : nr = 0
  · rw [pb_if_t h0, hz h0, pb_fill_0]
  · rw [pb_if_f h0]
    have hin : i = n := hi.elim id (fun q => absurd q h0)
    subst hin
    funext j
    by_cases hj : j < i
    · rw [pb_fill_at _ _ hj, pb_fill_at _ _ hj]
      unfold pb_ways
      rw [ha j hj, ho j hj]
    · rw [pb_fill_ge _ _ (by omega), pb_fill_ge _ _ (by omega)]
theorem pb_wrap_m {side : UInt64} {X2 x2 x : pb_A} {n : Nat} (ha : ∀ j, j < n → X2 j = x2 j) (hb : ∀ j, n ≤ j → x2 j = x j) : pb_fill (fun j => pb_wrap side (X2 j)) x n = pb_fill (fun j => pb_wrap side (x2 j)) x2 n := by
  funext j
  by_cases hj : j < n
  · rw [pb_fill_at _ _ hj, pb_fill_at _ _ hj]
    show pb_wrap side (X2 j) = pb_wrap side (x2 j)
    rw [ha j hj]
  · rw [pb_fill_ge _ _ (by omega), pb_fill_ge _ _ (by omega), hb j (by omega)]
theorem pb_off : ¬ pb_on 13830554455654793216 := by
  unfold pb_on
  rintro (h | h)
  · exact absurd h (by decide +kernel)
  · exact absurd h (by decide +kernel)
theorem pb_le0 {k : Nat} (hk : k < 2 ^ 31) (h : nI k ≤ 0) : k = 0 := by
  have h2 : nI k ≤ nI 0 := by rw [nI_0]; exact h
  have h3 := (nI_leI hk (by decide)).mp h2
  omega
/-- the THERMOSTAT behind a STEP without it -/
noncomputable def pb_warm (heat : UInt64) (mass : pb_A) (stuck : Nat → Int32) (n : Nat) (T : pb_T) : pb_T := pb_if (T.1 = 0) (T.1, T.2.1, T.2.2.1, pb_if (pb_on heat) (pb_brg heat mass stuck n T.2.2.2.1.1 T.2.2.2.1.2 T.2.2.2.1.1, pb_brg heat mass stuck n T.2.2.2.1.1 T.2.2.2.1.2 T.2.2.2.1.2) T.2.2.2.1, T.2.2.2.2) T
theorem pb_warm_n {heat : UInt64} {mass : pb_A} {stuck : Nat → Int32} {n c t : Nat} {a b : pb_A × pb_A} {L : pb_L} (h : c ≠ 0) : pb_warm heat mass stuck n (c, t, a, b, L) = (c, t, a, b, L) := pb_if_f h
theorem pb_warm_0 {heat : UInt64} {mass : pb_A} {stuck : Nat → Int32} {n t : Nat} {a : pb_A × pb_A} {u v : pb_A} {L : pb_L} : pb_warm heat mass stuck n (0, t, a, (u, v), L) = (0, t, a, pb_if (pb_on heat) (pb_brg heat mass stuck n u v u, pb_brg heat mass stuck n u v v) (u, v), L) := pb_if_t rfl
theorem pb_car_warm (side cut skin dt heat : UInt64) (width depth charge bk bl mass rl : pb_A) (so bi bj ri rj : Nat → Nat) (stuck : Nat → Int32) (n nb nr : Nat) (ox oy x y u v : pb_A) (L : pb_L) :
    pb_car side cut skin dt heat width depth charge bk bl mass rl so bi bj ri rj stuck n nb nr ox oy x y u v L = pb_warm heat mass stuck n (pb_car side cut skin dt 13830554455654793216 width depth charge bk bl mass rl so bi bj ri rj stuck n nb nr ox oy x y u v L) := by
  unfold pb_car
  by_cases h1 : pb_ovl side x y n
  · rw [pb_if_t h1, pb_if_t h1, pb_warm_n (by decide)]
  · rw [pb_if_f h1, pb_if_f h1]
    by_cases h2 : pb_bl n (pb_kx side cut dt width depth charge bk bl mass so bi bj stuck n nb x y u) (pb_ky side cut dt width depth charge bk bl mass so bi bj stuck n nb x y v)
    · rw [pb_if_t h2, pb_if_t h2, pb_warm_n (by decide)]
    · rw [pb_if_f h2, pb_if_f h2]
      unfold pb_car2
      split
      · rw [pb_warm_n (by decide)]
      · rename_i t x2 y2 _
        by_cases h3 : pb_bl n (pb_w2 dt stuck n nr x2 ox (pb_kx side cut dt width depth charge bk bl mass so bi bj stuck n nb x y u)) (pb_w2 dt stuck n nr y2 oy (pb_ky side cut dt width depth charge bk bl mass so bi bj stuck n nb x y v))
        · rw [pb_if_t h3, pb_if_t h3, pb_warm_n (by decide)]
        · rw [pb_if_f h3, pb_if_f h3]
          generalize pb_fill (fun j => pb_wrap side (x2 j)) x2 n = x3
          generalize pb_fill (fun j => pb_wrap side (y2 j)) y2 n = y3
          generalize pb_w2 dt stuck n nr x2 ox (pb_kx side cut dt width depth charge bk bl mass so bi bj stuck n nb x y u) = u2
          generalize pb_w2 dt stuck n nr y2 oy (pb_ky side cut dt width depth charge bk bl mass so bi bj stuck n nb x y v) = v2
          unfold pb_car3
          by_cases h4 : pb_ovl side x3 y3 n
          · rw [pb_if_t h4, pb_if_t h4, pb_warm_n (by decide)]
          · rw [pb_if_f h4, pb_if_f h4]
            by_cases h5 : pb_bl n (pb_kx side cut dt width depth charge bk bl mass so bi bj stuck n nb x3 y3 u2) (pb_ky side cut dt width depth charge bk bl mass so bi bj stuck n nb x3 y3 v2)
            · rw [pb_if_t h5, pb_if_t h5, pb_warm_n (by decide)]
            · rw [pb_if_f h5, pb_if_f h5, pb_if_f pb_off, pb_warm_0]
