/-! rounds of RODS; scale -/
section GO
variable (side : UInt64) (ox oy mass : Nat → UInt64) (stuck : Nat → Int32) (ri rj : Nat → Nat) (rl : Nat → UInt64) (nr : Nat)
noncomputable def pb_rs (s : pb_A × pb_A) : Nat → pb_A × pb_A
  | 0 => s
  | r + 1 => (pb_rdx side ox oy mass stuck ri rj rl (pb_rs s r).1 (pb_rs s r).2 r, pb_rdy side ox oy mass stuck ri rj rl (pb_rs s r).1 (pb_rs s r).2 r)
noncomputable def pb_cd (s : pb_A × pb_A) (r : Nat) : Nat := pb_code side ox oy mass stuck ri rj rl (pb_rs side ox oy mass stuck ri rj rl s r).1 (pb_rs side ox oy mass stuck ri rj rl s r).2 r
def pb_stf (s : pb_A × pb_A) (r : Nat) : Prop := ∃ q, q < r ∧ pb_cd side ox oy mass stuck ri rj rl s q = 2
def pb_chd (s : pb_A × pb_A) (r : Nat) : Prop := ∃ q, q < r ∧ pb_cd side ox oy mass stuck ri rj rl s q = 1
noncomputable def pb_go : Nat → Nat → pb_A × pb_A → Option (Nat × (pb_A × pb_A))
  | 0, _, _ => none
  | f + 1, t, s => pb_if (pb_stf side ox oy mass stuck ri rj rl s nr) none (pb_if (pb_chd side ox oy mass stuck ri rj rl s nr) (pb_go f (t + 1) (pb_rs side ox oy mass stuck ri rj rl s nr)) (some (t, pb_rs side ox oy mass stuck ri rj rl s nr)))
end GO
section GI
variable {side : UInt64} {ox oy mass : Nat → UInt64} {stuck : Nat → Int32} {ri rj : Nat → Nat} {rl : Nat → UInt64} {n nr : Nat} {k : Int}
theorem pb_rs_I (hs : pb_S side k) (hox : ∀ i, i < n → pb_Ip (ox i)) (hoy : ∀ i, i < n → pb_Ip (oy i)) (hm : ∀ i, i < n → pb_Im (mass i)) (hri : ∀ i, i < nr → ri i < n) (hrj : ∀ i, i < nr → rj i < n) (hl : ∀ i, i < nr → pb_Il (rl i)) (hnr : nr ≤ 4) {N : Int} (h0 : 0 ≤ N) (hN : N ≤ 250) {s : pb_A × pb_A} (hx : pb_bd n N s.1) (hy : pb_bd n N s.2) : ∀ r : Nat, r ≤ nr → pb_bd n (N + r) (pb_rs side ox oy mass stuck ri rj rl s r).1 ∧ pb_bd n (N + r) (pb_rs side ox oy mass stuck ri rj rl s r).2
  | 0, _ => by rw [show N + ((0 : Nat) : Int) = N by omega]; exact ⟨hx, hy⟩
  | r + 1, h => by
    obtain ⟨a, b⟩ := pb_rs_I hs hox hoy hm hri hrj hl hnr h0 hN hx hy r (by omega)
    rw [show N + ((r + 1 : Nat) : Int) = (N + r) + 1 by omega]
    exact pb_rd_I hs hox hoy hm (hri r (by omega)) (hrj r (by omega)) (hl r (by omega)) (by omega) (by omega) a b
theorem pb_bd_w {N M : Int} {f : Nat → UInt64} (h : N ≤ M) (hf : pb_bd n N f) : pb_bd n M f := fun i hi => (hf i hi).w (pb_d_mono (by omega)) (pb_d_mono h)
theorem pb_chd_s {s : pb_A × pb_A} {r : Nat} : pb_chd side ox oy mass stuck ri rj rl s (r + 1) ↔ pb_chd side ox oy mass stuck ri rj rl s r ∨ pb_cd side ox oy mass stuck ri rj rl s r = 1 := by
  constructor
  · rintro ⟨q, h1, h2⟩
    rcases Nat.lt_or_eq_of_le (Nat.lt_succ_iff.mp h1) with h | h
    · exact Or.inl ⟨q, h, h2⟩
    · subst h; exact Or.inr h2
  · rintro (⟨q, h1, h2⟩ | h)
    · exact ⟨q, by omega, h2⟩
    · exact ⟨r, by omega, h⟩
theorem pb_stf_s {s : pb_A × pb_A} {r : Nat} (h1 : ¬ pb_stf side ox oy mass stuck ri rj rl s r) (h2 : ¬ pb_cd side ox oy mass stuck ri rj rl s r = 2) : ¬ pb_stf side ox oy mass stuck ri rj rl s (r + 1) := by
  rintro ⟨q, h3, h4⟩
  rcases Nat.lt_or_eq_of_le (Nat.lt_succ_iff.mp h3) with h | h
  · exact h1 ⟨q, h, h4⟩
  · subst h; exact h2 h4
theorem pb_code_lt (side : UInt64) (ox oy mass : Nat → UInt64) (stuck : Nat → Int32) (ri rj : Nat → Nat) (rl x y : Nat → UInt64) (r : Nat) : pb_code side ox oy mass stuck ri rj rl x y r < 3 := by
  unfold pb_code
  by_cases h : pb_fit side ri rj rl x y r
  · rw [pb_if_t h]; decide
  · rw [pb_if_f h]
    by_cases h2 : pb_tight side ox oy mass stuck ri rj x y r
    · rw [pb_if_t h2]; decide
    · rw [pb_if_f h2]; decide
end GI
def pb_scl (f : UInt64) (u : Nat → UInt64) (stuck : Nat → Int32) (j : Nat) : UInt64 := if stuck j = 0 then FP.dmul (u j) f else u j
theorem pb_heat_I {mass u v : Nat → UInt64} {stuck : Nat → Int32} {n : Nat} (hn : n ≤ 10) (hm : ∀ i, i < n → pb_Im (mass i)) (hu : ∀ i, i < n → pb_Iu (u i)) (hv : ∀ i, i < n → pb_Iu (v i)) : fp_I (pb_heat mass u v stuck n) 0 (fp_d 10 1161) := by
  unfold pb_heat
  split
  · exact (fp_const (a := FP.dconst0) (T := 0) (by decide +kernel)).w (Int.le_refl _) (by decide +kernel)
  · rename_i h
    have l1 := pb_loose_le stuck n
    have k2 := fp_const (a := 4611686018427387904) (T := fp_d 2 1074) (by decide +kernel)
    have g := fp_I_mul (fp_d 2 1074) (fp_d 20 1074) k2 (pb_i2d_I (k := pb_loose stuck n) (by omega) (by omega)) (by decide +kernel)
    exact fp_I_div 0 (fp_d 10 1161) (pb_hs_I10 hn hm hu hv n (Nat.le_refl _)) g (by decide +kernel)
def pb_cold (mass u v : Nat → UInt64) (stuck : Nat → Int32) (n : Nat) : Prop := FP.dcmp (pb_heat mass u v stuck n) 4517329193108106637 = some .lt
abbrev pb_It (a : UInt64) : Prop := fp_I a 0 (fp_d 1000 1074)
