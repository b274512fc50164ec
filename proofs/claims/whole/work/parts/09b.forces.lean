/-! sums over PAIRS and BONDS -/
abbrev pb_prp (side cut : UInt64) (x y : Nat → UInt64) (i j : Nat) : Prop := FP.dcmp (pb_rij side x y i j) (FP.dmul cut cut) = some .lt
def pb_eij (side cut : UInt64) (x y width depth charge : Nat → UInt64) (so : Nat → Nat) (i j : Nat) : UInt64 := pb_ep (pb_mid depth so i j) (pb_six (pb_mid width so i j) (pb_rij side x y i j)) (pb_chg charge so i j) (pb_rij side x y i j) cut
def pb_ein (side cut : UInt64) (x y width depth charge : Nat → UInt64) (so : Nat → Nat) (i : Nat) (s0 : UInt64) : Nat → UInt64
  | 0 => s0
  | j + 1 => if i < j ∧ pb_prp side cut x y i j then FP.dadd (pb_ein side cut x y width depth charge so i s0 j) (pb_eij side cut x y width depth charge so i j) else pb_ein side cut x y width depth charge so i s0 j
def pb_eout (side cut : UInt64) (x y width depth charge : Nat → UInt64) (so : Nat → Nat) (n : Nat) : Nat → UInt64
  | 0 => FP.dconst0
  | i + 1 => pb_ein side cut x y width depth charge so i (pb_eout side cut x y width depth charge so n i) n
theorem pb_ein_start {side cut : UInt64} {x y width depth charge : Nat → UInt64} {so : Nat → Nat} {i : Nat} {s0 : UInt64} : ∀ j, j ≤ i + 1 → pb_ein side cut x y width depth charge so i s0 j = s0
  | 0, _ => rfl
  | j + 1, h => by
    show (if i < j ∧ pb_prp side cut x y i j then _ else _) = _
    rw [if_neg (fun q => by omega)]
    exact pb_ein_start j (by omega)
/-- a sum that grows by at most one unit 2^J a step -/
theorem pb_grow {a b : UInt64} {N : Int} {J : Nat} (hJ : J ≤ 2000) (h0 : 0 ≤ N) (hN : N < 1000000) (ha : fp_I a (fp_d (-N) J) (fp_d N J)) (hb : fp_I b (fp_d (-1) J) (fp_d 1 J)) : fp_I (FP.dadd a b) (fp_d (-(N + 1)) J) (fp_d (N + 1) J) := by
  have r1 : fp_R (fp_d (-(N + 1)) J) := fp_R_int (by omega) (by omega) (by omega)
  have r2 : fp_R (fp_d (N + 1) J) := fp_R_int (by omega) (by omega) (by omega)
  have e1 : fp_d (-(N + 1)) J = fp_d (-N) J + fp_d (-1) J := by unfold fp_d; rw [← Int.add_mul]; congr 1; omega
  have e2 : fp_d (N + 1) J = fp_d N J + fp_d 1 J := by unfold fp_d; rw [← Int.add_mul]
  have a1 := ha.2.1; have a2 := ha.2.2; have b1 := hb.2.1; have b2 := hb.2.2
  exact fp_mk (fp_add_nn ha.1 hb.1) r1 r2 (fp_add_ge ha.1 hb.1 r1 (by omega)) (fp_add_le ha.1 hb.1 r2 (by omega))
theorem pb_keep {a : UInt64} {N : Int} {J : Nat} (ha : fp_I a (fp_d (-N) J) (fp_d N J)) : fp_I a (fp_d (-(N + 1)) J) (fp_d (N + 1) J) := ha.w (pb_d_mono (by omega)) (pb_d_mono (by omega))
theorem pb_zero (J : Nat) : fp_I FP.dconst0 (fp_d (-0) J) (fp_d 0 J) := by
  have h := fp_const (a := FP.dconst0) (T := 0) (by decide +kernel)
  have e : fp_d 0 J = 0 := Int.zero_mul _
  exact ⟨h.1, by show fp_d (-0) J ≤ _; rw [Int.neg_zero, e]; exact h.2.1, by rw [e]; exact h.2.2⟩
section PP
variable {side cut : UInt64} {x y width depth charge bk bl : Nat → UInt64} {so bi bj : Nat → Nat} {n nb : Nat} {k : Int}
theorem pb_eij_I (hso : ∀ i, i < n → so i < 3) (hw : ∀ i, i < 3 → pb_Iw (width i)) (hd : ∀ i, i < 3 → pb_Id (depth i)) (hc : ∀ i, i < 3 → pb_Ic (charge i)) (hcut : pb_Icut cut) {i j : Nat} (hi : i < n) (hj : j < n) (hr : pb_Ir (pb_rij side x y i j)) : fp_I (pb_eij side cut x y width depth charge so i j) (fp_d (-1) 1190) (fp_d 1 1190) :=
  pb_ep_I (pb_midd_I (hd _ (hso i hi)) (hd _ (hso j hj))) (pb_six_I (pb_midw_I (hw _ (hso i hi)) (hw _ (hso j hj))) hr) (pb_chg_I (hc _ (hso i hi)) (hc _ (hso j hj))) hr hcut
theorem pb_ein_I (hn : n ≤ 10) (hso : ∀ i, i < n → so i < 3) (hw : ∀ i, i < 3 → pb_Iw (width i)) (hd : ∀ i, i < 3 → pb_Id (depth i)) (hc : ∀ i, i < 3 → pb_Ic (charge i)) (hcut : pb_Icut cut) (hno : ∀ i j, i < n → j < n → i ≠ j → pb_Ir (pb_rij side x y i j)) {i : Nat} (hi : i < n) {s0 : UInt64} {N : Int} (h0 : 0 ≤ N) (hN : N < 1000) (hs : fp_I s0 (fp_d (-N) 1190) (fp_d N 1190)) : ∀ j : Nat, j ≤ n → fp_I (pb_ein side cut x y width depth charge so i s0 j) (fp_d (-(N + j)) 1190) (fp_d (N + j) 1190)
  | 0, _ => by rw [show (N + ((0 : Nat) : Int)) = N by omega]; exact hs
  | j + 1, h => by
    have ih := pb_ein_I hn hso hw hd hc hcut hno hi h0 hN hs j (by omega)
    rw [show (N + ((j + 1 : Nat) : Int)) = (N + j) + 1 by omega]
    show fp_I (if i < j ∧ pb_prp side cut x y i j then _ else _) _ _
    split
    · rename_i hc2
      exact pb_grow (by decide) (by omega) (by omega) ih (pb_eij_I hso hw hd hc hcut hi (by omega) (hno i j hi (by omega) (by omega)))
    · exact pb_keep ih
theorem pb_eout_I (hn : n ≤ 10) (hso : ∀ i, i < n → so i < 3) (hw : ∀ i, i < 3 → pb_Iw (width i)) (hd : ∀ i, i < 3 → pb_Id (depth i)) (hc : ∀ i, i < 3 → pb_Ic (charge i)) (hcut : pb_Icut cut) (hno : ∀ i j, i < n → j < n → i ≠ j → pb_Ir (pb_rij side x y i j)) : ∀ i : Nat, i ≤ n → fp_I (pb_eout side cut x y width depth charge so n i) (fp_d (-(10 * i)) 1190) (fp_d (10 * i) 1190)
  | 0, _ => pb_zero 1190
  | i + 1, h => by
    have ih := pb_eout_I hn hso hw hd hc hcut hno i (by omega)
    exact (pb_ein_I hn hso hw hd hc hcut hno (i := i) (by omega) (by omega) (by omega) ih n (Nat.le_refl _)).w (pb_d_mono (by omega)) (pb_d_mono (by omega))
/-- the ENERGY of BONDS -/
def pb_eb (side : UInt64) (x y : Nat → UInt64) (bi bj : Nat → Nat) (bk bl : Nat → UInt64) : Nat → UInt64
  | 0 => FP.dconst0
  | b + 1 => FP.dadd (pb_eb side x y bi bj bk bl b) (FP.dmul (FP.dmul (FP.dmul 4598175219545276416 (bk b)) (FP.dsub (pb_rij side x y (bi b) (bj b)) (FP.dmul (bl b) (bl b)))) (FP.dsub (pb_rij side x y (bi b) (bj b)) (FP.dmul (bl b) (bl b))))
theorem pb_eb_I (hs : pb_S side k) (hX : ∀ i, i < n → pb_Ip (x i)) (hY : ∀ i, i < n → pb_Ip (y i)) (hnb : nb ≤ 8) (hbk : ∀ i, i < nb → pb_Id (bk i)) (hbl : ∀ i, i < nb → pb_Il (bl i)) (hbi : ∀ i, i < nb → bi i < n) (hbj : ∀ i, i < nb → bj i < n) : ∀ b : Nat, b ≤ nb → fp_I (pb_eb side x y bi bj bk bl b) (fp_d (-b) 1100) (fp_d b 1100)
  | 0, _ => pb_zero 1100
  | b + 1, h => by
    have ih := pb_eb_I hs hX hY hnb hbk hbl hbi hbj b (by omega)
    have r := pb_rij_I hs hX hY (bi b) (bj b) (hbi b (by omega)) (hbj b (by omega))
    have ll := fp_I_sq (fp_d 256 1074) (hbl b (by omega)) (by decide +kernel)
    have s := fp_I_sub (fp_d (-256) 1074) (fp_d 578 1074) r ll (by decide +kernel)
    have kq := fp_const (a := 4598175219545276416) (T := fp_d 1 1072) (by decide +kernel)
    have m1 := fp_I_mul 0 (fp_d 16 1074) kq (hbk b (by omega)) (by decide +kernel)
    have m2 := fp_I_mul (fp_d (-1) 1090) (fp_d 1 1090) m1 s (by decide +kernel)
    have m3 := fp_I_mul (fp_d (-1) 1100) (fp_d 1 1100) m2 s (by decide +kernel)
    rw [show ((b + 1 : Nat) : Int) = (b : Int) + 1 by omega]
    exact pb_grow (by decide) (by omega) (by omega) ih m3
/-- THE FORCE: the PAIRS, then the BONDS -/
def pb_pij (side : UInt64) (x y width depth charge : Nat → UInt64) (so : Nat → Nat) (i j : Nat) : UInt64 := pb_pull (pb_mid depth so i j) (pb_six (pb_mid width so i j) (pb_rij side x y i j)) (pb_chg charge so i j) (pb_rij side x y i j)
def pb_fp (side cut : UInt64) (x y width depth charge : Nat → UInt64) (so : Nat → Nat) (i : Nat) : Nat → UInt64 × UInt64
  | 0 => (FP.dconst0, FP.dconst0)
  | j + 1 => if j ≠ i ∧ pb_prp side cut x y i j then (FP.dadd (pb_fp side cut x y width depth charge so i j).1 (FP.dmul (pb_pij side x y width depth charge so i j) (pb_near side (FP.dsub (x j) (x i)))), FP.dadd (pb_fp side cut x y width depth charge so i j).2 (FP.dmul (pb_pij side x y width depth charge so i j) (pb_near side (FP.dsub (y j) (y i))))) else pb_fp side cut x y width depth charge so i j
def pb_oth (bi bj : Nat → Nat) (i b : Nat) : Nat := if bi b = i then bj b else bi b
def pb_fb (side : UInt64) (x y : Nat → UInt64) (bi bj : Nat → Nat) (bk bl : Nat → UInt64) (i : Nat) (f0 : UInt64 × UInt64) : Nat → UInt64 × UInt64
  | 0 => f0
  | b + 1 => if bi b = i ∨ bj b = i then (FP.dadd (pb_fb side x y bi bj bk bl i f0 b).1 (FP.dmul (pb_pbd (bk b) (bl b) (pb_rij side x y i (pb_oth bi bj i b))) (pb_near side (FP.dsub (x (pb_oth bi bj i b)) (x i)))), FP.dadd (pb_fb side x y bi bj bk bl i f0 b).2 (FP.dmul (pb_pbd (bk b) (bl b) (pb_rij side x y i (pb_oth bi bj i b))) (pb_near side (FP.dsub (y (pb_oth bi bj i b)) (y i))))) else pb_fb side x y bi bj bk bl i f0 b
def pb_frc (side cut : UInt64) (x y width depth charge : Nat → UInt64) (so bi bj : Nat → Nat) (bk bl : Nat → UInt64) (n nb i : Nat) : UInt64 × UInt64 := pb_fb side x y bi bj bk bl i (pb_fp side cut x y width depth charge so i n) nb
theorem pb_fp_I (hs : pb_S side k) (hn : n ≤ 10) (hX : ∀ i, i < n → pb_Ip (x i)) (hY : ∀ i, i < n → pb_Ip (y i)) (hso : ∀ i, i < n → so i < 3) (hw : ∀ i, i < 3 → pb_Iw (width i)) (hd : ∀ i, i < 3 → pb_Id (depth i)) (hc : ∀ i, i < 3 → pb_Ic (charge i)) (hno : ∀ i j, i < n → j < n → i ≠ j → pb_Ir (pb_rij side x y i j)) {i : Nat} (hi : i < n) : ∀ j : Nat, j ≤ n → fp_I (pb_fp side cut x y width depth charge so i j).1 (fp_d (-j) 1206) (fp_d j 1206) ∧ fp_I (pb_fp side cut x y width depth charge so i j).2 (fp_d (-j) 1206) (fp_d j 1206)
  | 0, _ => ⟨pb_zero 1206, pb_zero 1206⟩
  | j + 1, h => by
    obtain ⟨ih1, ih2⟩ := pb_fp_I hs hn hX hY hso hw hd hc hno hi j (by omega)
    rw [show ((j + 1 : Nat) : Int) = (j : Int) + 1 by omega]
    show fp_I (if j ≠ i ∧ pb_prp side cut x y i j then _ else _ : UInt64 × UInt64).1 _ _ ∧ fp_I (if j ≠ i ∧ pb_prp side cut x y i j then _ else _ : UInt64 × UInt64).2 _ _
    split
    · rename_i hc2
      have hr := hno i j hi (by omega) (fun e => hc2.1 e.symm)
      have pl : fp_I (pb_pij side x y width depth charge so i j) (fp_d (-1) 1200) (fp_d 1 1200) := pb_pull_I (pb_midd_I (hd _ (hso i hi)) (hd _ (hso j (by omega)))) (pb_six_I (pb_midw_I (hw _ (hso i hi)) (hw _ (hso j (by omega)))) hr) (pb_chg_I (hc _ (hso i hi)) (hc _ (hso j (by omega)))) hr
      have na := pb_near_I hs (pb_sub_p (hX j (by omega)) (hX i hi))
      have nb2 := pb_near_I hs (pb_sub_p (hY j (by omega)) (hY i hi))
      exact ⟨pb_grow (by decide) (by omega) (by omega) ih1 (fp_I_mul (fp_d (-1) 1206) (fp_d 1 1206) pl na (by decide +kernel)), pb_grow (by decide) (by omega) (by omega) ih2 (fp_I_mul (fp_d (-1) 1206) (fp_d 1 1206) pl nb2 (by decide +kernel))⟩
    · exact ⟨pb_keep ih1, pb_keep ih2⟩
theorem pb_oth_lt (hbi : ∀ i, i < nb → bi i < n) (hbj : ∀ i, i < nb → bj i < n) {i b : Nat} (hb : b < nb) : pb_oth bi bj i b < n := by
  unfold pb_oth
  split
  · exact hbj b hb
  · exact hbi b hb
theorem pb_fb_I (hs : pb_S side k) (hX : ∀ i, i < n → pb_Ip (x i)) (hY : ∀ i, i < n → pb_Ip (y i)) (hnb : nb ≤ 8) (hbk : ∀ i, i < nb → pb_Id (bk i)) (hbl : ∀ i, i < nb → pb_Il (bl i)) (hbi : ∀ i, i < nb → bi i < n) (hbj : ∀ i, i < nb → bj i < n) {i : Nat} (hi : i < n) {f0 : UInt64 × UInt64} (h1 : fp_I f0.1 (fp_d (-10) 1206) (fp_d 10 1206)) (h2 : fp_I f0.2 (fp_d (-10) 1206) (fp_d 10 1206)) : ∀ b : Nat, b ≤ nb → fp_I (pb_fb side x y bi bj bk bl i f0 b).1 (fp_d (-(10 + b)) 1206) (fp_d (10 + b) 1206) ∧ fp_I (pb_fb side x y bi bj bk bl i f0 b).2 (fp_d (-(10 + b)) 1206) (fp_d (10 + b) 1206)
  | 0, _ => ⟨h1, h2⟩
  | b + 1, h => by
    obtain ⟨ih1, ih2⟩ := pb_fb_I hs hX hY hnb hbk hbl hbi hbj hi h1 h2 b (by omega)
    rw [show (10 + ((b + 1 : Nat) : Int)) = (10 + (b : Int)) + 1 by omega]
    show fp_I (if bi b = i ∨ bj b = i then _ else _ : UInt64 × UInt64).1 _ _ ∧ fp_I (if bi b = i ∨ bj b = i then _ else _ : UInt64 × UInt64).2 _ _
    split
    · have ho : pb_oth bi bj i b < n := pb_oth_lt hbi hbj (by omega)
      have pl := pb_pbd_I (hbk b (by omega)) (hbl b (by omega)) (pb_rij_I hs hX hY i (pb_oth bi bj i b) hi ho)
      have na := pb_near_I hs (pb_sub_p (hX _ ho) (hX i hi))
      have nb2 := pb_near_I hs (pb_sub_p (hY _ ho) (hY i hi))
      exact ⟨pb_grow (by decide) (by omega) (by omega) ih1 ((fp_I_mul (fp_d (-1) 1100) (fp_d 1 1100) pl na (by decide +kernel)).w (by decide +kernel) (by decide +kernel)), pb_grow (by decide) (by omega) (by omega) ih2 ((fp_I_mul (fp_d (-1) 1100) (fp_d 1 1100) pl nb2 (by decide +kernel)).w (by decide +kernel) (by decide +kernel))⟩
    · exact ⟨pb_keep ih1, pb_keep ih2⟩
end PP
/-- an array that is filled up to i -/
def pb_fill (g f : Nat → UInt64) (i : Nat) : Nat → UInt64 := fun j => if j < i then g j else f j
theorem pb_fill_0 (g f : Nat → UInt64) : pb_fill g f 0 = f := by
  funext j
  unfold pb_fill
  rw [if_neg (Nat.not_lt_zero j)]
theorem pb_fill_s (g f : Nat → UInt64) (i : Nat) : vf_upd (pb_fill g f i) i (g i) = pb_fill g f (i + 1) := by
  funext j
  unfold vf_upd pb_fill
  by_cases h : j = i
  · rw [if_pos h, if_pos (by omega), h]
  · rw [if_neg h]
    by_cases h2 : j < i
    · rw [if_pos h2, if_pos (by omega)]
    · rw [if_neg h2, if_neg (by omega)]
theorem pb_fill_k (g f : Nat → UInt64) (i : Nat) (h : g i = f i) : pb_fill g f i = pb_fill g f (i + 1) := by
  funext j
  unfold pb_fill
  by_cases h2 : j < i
  · rw [if_pos h2, if_pos (by omega)]
  · rw [if_neg h2]
    by_cases h3 : j = i
    · rw [if_pos (by omega), h3, h]
    · rw [if_neg (by omega)]
theorem pb_fill_at (g f : Nat → UInt64) {i j : Nat} (h : j < i) : pb_fill g f i j = g j := if_pos h
theorem pb_fill_ge (g f : Nat → UInt64) {i j : Nat} (h : i ≤ j) : pb_fill g f i j = f j := if_neg (by omega)
abbrev pb_If (a : UInt64) : Prop := fp_I a (fp_d (-18) 1206) (fp_d 18 1206)
theorem pb_frc_I {side cut : UInt64} {x y width depth charge bk bl : Nat → UInt64} {so bi bj : Nat → Nat} {n nb : Nat} {k : Int} (hs : pb_S side k) (hn : n ≤ 10) (hX : ∀ i, i < n → pb_Ip (x i)) (hY : ∀ i, i < n → pb_Ip (y i)) (hso : ∀ i, i < n → so i < 3) (hw : ∀ i, i < 3 → pb_Iw (width i)) (hd : ∀ i, i < 3 → pb_Id (depth i)) (hc : ∀ i, i < 3 → pb_Ic (charge i)) (hno : ∀ i j, i < n → j < n → i ≠ j → pb_Ir (pb_rij side x y i j)) (hnb : nb ≤ 8) (hbk : ∀ i, i < nb → pb_Id (bk i)) (hbl : ∀ i, i < nb → pb_Il (bl i)) (hbi : ∀ i, i < nb → bi i < n) (hbj : ∀ i, i < nb → bj i < n) {i : Nat} (hi : i < n) : pb_If (pb_frc side cut x y width depth charge so bi bj bk bl n nb i).1 ∧ pb_If (pb_frc side cut x y width depth charge so bi bj bk bl n nb i).2 := by
  have f := pb_fp_I (cut := cut) hs hn hX hY hso hw hd hc hno hi n (Nat.le_refl _)
  have g := pb_fb_I hs hX hY hnb hbk hbl hbi hbj hi (f.1.w (pb_d_mono (by omega)) (pb_d_mono (by omega))) (f.2.w (pb_d_mono (by omega)) (pb_d_mono (by omega))) nb (Nat.le_refl _)
  exact ⟨g.1.w (pb_d_mono (by omega)) (pb_d_mono (by omega)), g.2.w (pb_d_mono (by omega)) (pb_d_mono (by omega))⟩
