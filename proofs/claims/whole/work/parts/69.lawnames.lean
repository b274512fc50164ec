abbrev h_Law_atom : List (Nat × Nat × Nat × Nat) := [(0, 15, 18, 13), (0, 15, 22, 15)]
abbrev w_Law_atom : List Cond := Cond.codeWith y_Law_atom b_Law_atom 10 (some .int) h_Law_atom :: gx_G
theorem kh_Law_atom : Cond.codeWith y_Law_atom b_Law_atom 10 (some .int) h_Law_atom ∈ gx_G := gx_in 420 (by decide +kernel) (by decide +kernel)
abbrev h_Law_place : List (Nat × Nat × Nat × Nat) := [(0, 8, 11, 13)]
abbrev w_Law_place : List Cond := Cond.codeWith y_Law_place b_Law_place 7 (some .int) h_Law_place :: gx_G
theorem kh_Law_place : Cond.codeWith y_Law_place b_Law_place 7 (some .int) h_Law_place ∈ gx_G := gx_in 541 (by decide +kernel) (by decide +kernel)
abbrev h_Law_speed : List (Nat × Nat × Nat × Nat) := [(0, 8, 11, 13)]
abbrev w_Law_speed : List Cond := Cond.codeWith y_Law_speed b_Law_speed 7 (some .int) h_Law_speed :: gx_G
theorem kh_Law_speed : Cond.codeWith y_Law_speed b_Law_speed 7 (some .int) h_Law_speed ∈ gx_G := gx_in 552 (by decide +kernel) (by decide +kernel)
abbrev h_Law_sort : List (Nat × Nat × Nat × Nat) := [(0, 10, 13, 13)]
abbrev w_Law_sort : List Cond := Cond.codeWith y_Law_sort b_Law_sort 9 (some .int) h_Law_sort :: gx_G
theorem kh_Law_sort : Cond.codeWith y_Law_sort b_Law_sort 9 (some .int) h_Law_sort ∈ gx_G := gx_in 559 (by decide +kernel) (by decide +kernel)
abbrev h_Law_cut : List (Nat × Nat × Nat × Nat) := [(0, 6, 9, 13)]
abbrev w_Law_cut : List Cond := Cond.codeWith y_Law_cut b_Law_cut 6 (some .int) h_Law_cut :: gx_G
theorem kh_Law_cut : Cond.codeWith y_Law_cut b_Law_cut 6 (some .int) h_Law_cut ∈ gx_G := gx_in 569 (by decide +kernel) (by decide +kernel)
abbrev h_Law_bond : List (Nat × Nat × Nat × Nat) := [(0, 14, 17, 13), (0, 14, 21, 15)]
abbrev w_Law_bond : List Cond := Cond.codeWith y_Law_bond b_Law_bond 9 (some .int) h_Law_bond :: gx_G
theorem kh_Law_bond : Cond.codeWith y_Law_bond b_Law_bond 9 (some .int) h_Law_bond ∈ gx_G := gx_in 576 (by decide +kernel) (by decide +kernel)
abbrev h_Law_rod : List (Nat × Nat × Nat × Nat) := [(0, 12, 15, 13), (0, 12, 19, 15)]
abbrev w_Law_rod : List Cond := Cond.codeWith y_Law_rod b_Law_rod 7 (some .int) h_Law_rod :: gx_G
theorem kh_Law_rod : Cond.codeWith y_Law_rod b_Law_rod 7 (some .int) h_Law_rod ∈ gx_G := gx_in 600 (by decide +kernel) (by decide +kernel)
abbrev h_Law_stuck : List (Nat × Nat × Nat × Nat) := [(0, 6, 9, 13)]
abbrev w_Law_stuck : List Cond := Cond.codeWith y_Law_stuck b_Law_stuck 4 (some .int) h_Law_stuck :: gx_G
theorem kh_Law_stuck : Cond.codeWith y_Law_stuck b_Law_stuck 4 (some .int) h_Law_stuck ∈ gx_G := gx_in 608 (by decide +kernel) (by decide +kernel)
abbrev h_Law_thermostat : List (Nat × Nat × Nat × Nat) := [(0, 5, 8, 13)]
abbrev w_Law_thermostat : List Cond := Cond.codeWith y_Law_thermostat b_Law_thermostat 4 (some .int) h_Law_thermostat :: gx_G
theorem kh_Law_thermostat : Cond.codeWith y_Law_thermostat b_Law_thermostat 4 (some .int) h_Law_thermostat ∈ gx_G := gx_in 615 (by decide +kernel) (by decide +kernel)
abbrev h_Law_step : List (Nat × Nat × Nat × Nat) := [(0, 6, 9, 13), (0, 6, 12, 15), (0, 6, 15, 52)]
abbrev w_Law_step : List Cond := Cond.codeWith y_Law_step b_Law_step 4 (some .int) h_Law_step :: gx_G
theorem kh_Law_step : Cond.codeWith y_Law_step b_Law_step 4 (some .int) h_Law_step ∈ gx_G := gx_in 622 (by decide +kernel) (by decide +kernel)
abbrev h_Law_scale : List (Nat × Nat × Nat × Nat) := [(0, 8, 11, 13)]
abbrev w_Law_scale : List Cond := Cond.codeWith y_Law_scale b_Law_scale 5 (some .int) h_Law_scale :: gx_G
theorem kh_Law_scale : Cond.codeWith y_Law_scale b_Law_scale 5 (some .int) h_Law_scale ∈ gx_G := gx_in 772 (by decide +kernel) (by decide +kernel)
abbrev h_Law_energy : List (Nat × Nat × Nat × Nat) := [(0, 8, 11, 13), (0, 8, 14, 52)]
abbrev w_Law_energy : List Cond := Cond.codeWith y_Law_energy b_Law_energy 4 (some .int) h_Law_energy :: gx_G
theorem kh_Law_energy : Cond.codeWith y_Law_energy b_Law_energy 4 (some .int) h_Law_energy ∈ gx_G := gx_in 780 (by decide +kernel) (by decide +kernel)
abbrev h_Law_force : List (Nat × Nat × Nat × Nat) := [(0, 9, 12, 13), (0, 9, 16, 52)]
abbrev w_Law_force : List Cond := Cond.codeWith y_Law_force b_Law_force 5 (some .int) h_Law_force :: gx_G
theorem kh_Law_force : Cond.codeWith y_Law_force b_Law_force 5 (some .int) h_Law_force ∈ gx_G := gx_in 811 (by decide +kernel) (by decide +kernel)
abbrev h_Law_told : List (Nat × Nat × Nat × Nat) := [(0, 9, 12, 13)]
abbrev w_Law_told : List Cond := Cond.codeWith y_Law_told b_Law_told 5 (some .int) h_Law_told :: gx_G
theorem kh_Law_told : Cond.codeWith y_Law_told b_Law_told 5 (some .int) h_Law_told ∈ gx_G := gx_in 819 (by decide +kernel) (by decide +kernel)
abbrev h_Law_bin : List (Nat × Nat × Nat × Nat) := [(0, 12, 15, 13)]
abbrev w_Law_bin : List Cond := Cond.codeWith y_Law_bin b_Law_bin 6 (some .int) h_Law_bin :: gx_G
theorem kh_Law_bin : Cond.codeWith y_Law_bin b_Law_bin 6 (some .int) h_Law_bin ∈ gx_G := gx_in 826 (by decide +kernel) (by decide +kernel)
theorem gx_hws {args : Array Value} {s : State} {c2 : Cond} (hgx : ∀ w ∈ gx_G, w.before args s = true) (h : c2 ∈ gx_G) : ∀ z ∈ (c2 :: gx_G), ∀ (a' : Array Value) (U : State), s.WarmedH U.vm → z.before a' U = true := fun z hz a' U hW => by
  have h2 : z ∈ gx_G := (List.mem_cons.mp hz).elim (fun e => by rw [e]; exact h) id
  exact word_at hW (good_of_word (List.mem_filter.mp h2).2) (hgx z h2)
theorem d_Law_cell_0 : decode b_Law_cell 0 = .ok (.iload_n 1, 1) := by decide +kernel
theorem d_Law_cell_1 : decode b_Law_cell 1 = .ok (.aload_n 0, 1) := by decide +kernel
theorem d_Law_cell_2 : decode b_Law_cell 2 = .ok (.arraylength, 1) := by decide +kernel
theorem d_Law_cell_3 : decode b_Law_cell 3 = .ok (.if_icmp .ge 9, 3) := by decide +kernel
theorem d_Law_cell_6 : decode b_Law_cell 6 = .ok (.aload_n 0, 1) := by decide +kernel
theorem d_Law_cell_7 : decode b_Law_cell 7 = .ok (.iload_n 1, 1) := by decide +kernel
theorem d_Law_cell_8 : decode b_Law_cell 8 = .ok (.iaload, 1) := by decide +kernel
theorem d_Law_cell_9 : decode b_Law_cell 9 = .ok (.goto 4, 3) := by decide +kernel
theorem d_Law_cell_12 : decode b_Law_cell 12 = .ok (.iconst 0, 1) := by decide +kernel
theorem d_Law_cell_13 : decode b_Law_cell 13 = .ok (.ireturn, 1) := by decide +kernel
def pb_c0 (L : Nat) (xs : Nat → Int32) : Int32 := if 0 < L then xs 0 else 0
set_option maxRecDepth 100000 in
theorem c_Law_cell (l : Launch) (dC : Nat → ClassId) (dI : Nat → Nat → Nat) (cI cD cZ : ClassId) (b L sz : Nat) (xs : Nat → Int32) (hL : L < 2 ^ 31) : Met l y_Law_cell w_Law_cell ({ frames := 0, cells := 0, slots := 0, locals := 0 }) (va_Pc [.ref b, .int (nI 0)] (lw_Bc (dC, dI) classes (gx_T cI cD cZ) b L xs sz)) (va_Qi (fun (rr : Int32) (_ : Unit) => rr = pb_c0 L xs) (fun _ t => gx_E (dC, dI) classes (gx_T cI cD cZ) (va_A [] sz) [] t) (va_A [] sz)) 0 0 (va_A [] sz) := by
  refine Met.ofW (cc := b_Law_cell) (maxL := 2) (ret := (some .int)) (by decide) rfl ?_
  intro p e s m args below meth c s₁ B hml hv
  obtain ⟨rfl, ⟨hsz, hP, hK, hD0, hN⟩, hX, hbl⟩ := hv
  have hx := B.exec
  have hb := B.bytes
  have hr := B.returns
  subst hsz
  have hD := hD0.self (sz := s.heap.size)
  have hbA : ¬ va_A [] s.heap.size b := fun h => h.elim (fun h => by simp at h) (fun h => Nat.lt_irrefl _ (Nat.lt_of_lt_of_le hbl h))
  generalize hAe : va_A [] s.heap.size = A at hD hbA ⊢
  have hS : va_S A s.heap s.heap [] := va_S.rf
  have hl := lv_entry ([.ref b, .int (nI 0)]) (n := 2) (Nat.le_of_ble_eq_true rfl)
  rw [lg_entry_eq]
  generalize (lg_sl ([.ref b, .int (nI 0)]) ++ List.replicate (2 - (lg_sl ([.ref b, .int (nI 0)])).length) Slot.unset).toArray = ls at hl ⊢
  have hl : lv_has ls 2 [(0, .ref b), (1, .int (nI 0))] := hl
  refine lv_iload_n hx hb d_Law_cell_0 rfl (lv_at hl 1 rfl) ?_
  refine lv_aload_n hx hb d_Law_cell_1 rfl (lv_at hl 0 rfl) ?_
  refine va_slen hx hb hX hbl hbA hS d_Law_cell_2 ?_
  refine lv_icmp_ge (tgt := 12) hx hb d_Law_cell_3 (by decide) (fun c3 => ?_) (fun c3 => ?_)
  · have h0 : ¬ 0 < L := fun h => by
      have h2 := (nI_leI (a := L) (b := 0) hL (by decide)).mp c3
      omega
    refine lv_iconst (v := 0) hx hb d_Law_cell_12 (by decide) ?_
    exact W.iret (v := 0) hx hb hr (fun tt9 ht9 hW9 => ⟨⟨0, (), rfl, by unfold pb_c0; rw [if_neg h0], by rw [ht9]; exact hP, va_K.moved hW9.alike hK, hD⟩, hS.F ht9⟩) hS.2.2 d_Law_cell_13
  · have h0 : 0 < L := Nat.not_le.mp (fun h => c3 ((nI_leI (a := L) (b := 0) hL (by decide)).mpr h))
    refine lv_aload_n hx hb d_Law_cell_6 rfl (lv_at hl 0 rfl) ?_
    refine lv_iload_n hx hb d_Law_cell_7 rfl (lv_at hl 1 rfl) ?_
    refine va_sld hx hb hX hbl hbA hS (vp_in_nI h0 hL) d_Law_cell_8 ?_
    rw [nI_clamp (by decide)]
    refine lv_goto (tgt := 13) hx hb d_Law_cell_9 (by decide) ?_
    exact W.iret (v := xs 0) hx hb hr (fun tt9 ht9 hW9 => ⟨⟨xs 0, (), rfl, by unfold pb_c0; rw [if_pos h0], by rw [ht9]; exact hP, va_K.moved hW9.alike hK, hD⟩, hS.F ht9⟩) hS.2.2 d_Law_cell_13
theorem lw_arr {args : Array Value} {s : State} {ty : FieldType} (h : (Cond.arrayClass ty).before args s = true) : ∃ cA : ClassId, ArrOfT s cA ty ∧ s.vm.findClass ("[" ++ ty.toString) = some cA := by
  obtain ⟨cA, kA, comp, h1, h2, h3⟩ := Cond.arrayClass_spec h
  exact ⟨cA, fun n z => ⟨fun k h => (by cases h), kA, h2, comp, h3⟩, h1⟩
theorem lw_K {args : Array Value} {s : State} (hgx : ∀ w ∈ gx_G, w.before args s = true) : ∃ (dC : Nat → ClassId) (dI : Nat → Nat → Nat) (cI cD cZ : ClassId), va_K (dC, dI) classes (gx_T cI cD cZ) s := by
  obtain ⟨c0, i0, k0⟩ := u_known (ws := gx_G) hgx i_Atoms (hgx _ kw_107)
  obtain ⟨c1, i1, k1⟩ := u_known (ws := gx_G) hgx i_Links (hgx _ kw_186)
  obtain ⟨c2, i2, k2⟩ := u_known (ws := gx_G) hgx i_Mover (hgx _ kw_284)
  obtain ⟨c3, i3, k3⟩ := u_known (ws := gx_G) hgx i_Neighbours (hgx _ kw_253)
  obtain ⟨c4, i4, k4⟩ := u_known (ws := gx_G) hgx i_Pulls (hgx _ kw_218)
  obtain ⟨c5, i5, k5⟩ := u_known (ws := gx_G) hgx i_Samples (hgx _ kw_322)
  obtain ⟨c6, i6, k6⟩ := u_known (ws := gx_G) hgx i_Sorts (hgx _ kw_164)
  obtain ⟨c7, i7, k7⟩ := u_known (ws := gx_G) hgx i_Square (hgx _ kw_71)
  obtain ⟨c8, i8, k8⟩ := u_known (ws := gx_G) hgx i_Box (hgx _ kw_63)
  obtain ⟨c9, i9, k9⟩ := u_known (ws := gx_G) hgx i_Model (hgx _ kw_833)
  obtain ⟨cI, aI, fI⟩ := lw_arr (hgx _ kw_161)
  obtain ⟨cD, aD, fD⟩ := lw_arr (hgx _ kw_160)
  obtain ⟨cZ, aZ, fZ⟩ := lw_arr (hgx _ kw_162)
  refine ⟨fun i => match i with | 0 => c0 | 1 => c1 | 2 => c2 | 3 => c3 | 4 => c4 | 5 => c5 | 6 => c6 | 7 => c7 | 8 => c8 | _ => c9, fun i => match i with | 0 => i0 | 1 => i1 | 2 => i2 | 3 => i3 | 4 => i4 | 5 => i5 | 6 => i6 | 7 => i7 | 8 => i8 | _ => i9, cI, cD, cZ, ?_, ?_⟩
  · intro c q hq
    match c, hq with
    | 0, hq => cases hq; exact k0
    | 1, hq => cases hq; exact k1
    | 2, hq => cases hq; exact k2
    | 3, hq => cases hq; exact k3
    | 4, hq => cases hq; exact k4
    | 5, hq => cases hq; exact k5
    | 6, hq => cases hq; exact k6
    | 7, hq => cases hq; exact k7
    | 8, hq => cases hq; exact k8
    | 9, hq => cases hq; exact k9
    | n + 10, hq => cases hq
  · intro k q hq
    match k, hq with
    | 0, hq => cases hq; exact ⟨aI, fI⟩
    | 1, hq => cases hq; exact ⟨aD, fD⟩
    | 2, hq => cases hq; exact ⟨aZ, fZ⟩
    | n + 3, hq => cases hq
