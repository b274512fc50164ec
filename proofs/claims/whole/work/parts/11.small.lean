theorem d_Box_within_0 : decode b_Box_within 0 = .ok (.dload_n 0, 1) := by decide +kernel
theorem d_Box_within_1 : decode b_Box_within 1 = .ok (.dload_n 2, 1) := by decide +kernel
theorem d_Box_within_2 : decode b_Box_within 2 = .ok (.dcmp .l, 1) := by decide +kernel
theorem d_Box_within_3 : decode b_Box_within 3 = .ok (.ifCond .lt 14, 3) := by decide +kernel
theorem d_Box_within_6 : decode b_Box_within 6 = .ok (.dload_n 0, 1) := by decide +kernel
theorem d_Box_within_7 : decode b_Box_within 7 = .ok (.dload 4, 2) := by decide +kernel
theorem d_Box_within_9 : decode b_Box_within 9 = .ok (.dcmp .g, 1) := by decide +kernel
theorem d_Box_within_10 : decode b_Box_within 10 = .ok (.ifCond .gt 7, 3) := by decide +kernel
theorem d_Box_within_13 : decode b_Box_within 13 = .ok (.iconst 1, 1) := by decide +kernel
theorem d_Box_within_14 : decode b_Box_within 14 = .ok (.goto 4, 3) := by decide +kernel
theorem d_Box_within_17 : decode b_Box_within 17 = .ok (.iconst 0, 1) := by decide +kernel
theorem d_Box_within_18 : decode b_Box_within 18 = .ok (.ireturn, 1) := by decide +kernel
theorem d_Box_isPlace_0 : decode b_Box_isPlace 0 = .ok (.dload_n 0, 1) := by decide +kernel
theorem d_Box_isPlace_1 : decode b_Box_isPlace 1 = .ok (.ldc2_w 151, 3) := by decide +kernel
theorem d_Box_isPlace_4 : decode b_Box_isPlace 4 = .ok (.ldc2_w 153, 3) := by decide +kernel
theorem d_Box_isPlace_7 : decode b_Box_isPlace 7 = .ok (.invokestatic 107, 3) := by decide +kernel
theorem d_Box_isPlace_10 : decode b_Box_isPlace 10 = .ok (.ireturn, 1) := by decide +kernel
theorem d_Box_isSort_0 : decode b_Box_isSort 0 = .ok (.iload_n 0, 1) := by decide +kernel
theorem d_Box_isSort_1 : decode b_Box_isSort 1 = .ok (.ifCond .lt 12, 3) := by decide +kernel
theorem d_Box_isSort_4 : decode b_Box_isSort 4 = .ok (.iload_n 0, 1) := by decide +kernel
theorem d_Box_isSort_5 : decode b_Box_isSort 5 = .ok (.iconst 3, 1) := by decide +kernel
theorem d_Box_isSort_6 : decode b_Box_isSort 6 = .ok (.if_icmp .ge 7, 3) := by decide +kernel
theorem d_Box_isSort_9 : decode b_Box_isSort 9 = .ok (.iconst 1, 1) := by decide +kernel
theorem d_Box_isSort_10 : decode b_Box_isSort 10 = .ok (.goto 4, 3) := by decide +kernel
theorem d_Box_isSort_13 : decode b_Box_isSort 13 = .ok (.iconst 0, 1) := by decide +kernel
theorem d_Box_isSort_14 : decode b_Box_isSort 14 = .ok (.ireturn, 1) := by decide +kernel
theorem d_Box_root_0 : decode b_Box_root 0 = .ok (.dload_n 0, 1) := by decide +kernel
theorem d_Box_root_1 : decode b_Box_root 1 = .ok (.dconst 0, 1) := by decide +kernel
theorem d_Box_root_2 : decode b_Box_root 2 = .ok (.dcmp .l, 1) := by decide +kernel
theorem d_Box_root_3 : decode b_Box_root 3 = .ok (.ifCond .ne 5, 3) := by decide +kernel
theorem d_Box_root_6 : decode b_Box_root 6 = .ok (.dconst 0, 1) := by decide +kernel
theorem d_Box_root_7 : decode b_Box_root 7 = .ok (.dreturn, 1) := by decide +kernel
theorem d_Box_root_8 : decode b_Box_root 8 = .ok (.dload_n 0, 1) := by decide +kernel
theorem d_Box_root_9 : decode b_Box_root 9 = .ok (.dconst 1, 1) := by decide +kernel
theorem d_Box_root_10 : decode b_Box_root 10 = .ok (.dadd, 1) := by decide +kernel
theorem d_Box_root_11 : decode b_Box_root 11 = .ok (.ldc2_w 18, 3) := by decide +kernel
theorem d_Box_root_14 : decode b_Box_root 14 = .ok (.dmul, 1) := by decide +kernel
theorem d_Box_root_15 : decode b_Box_root 15 = .ok (.dstore_n 2, 1) := by decide +kernel
theorem d_Box_root_16 : decode b_Box_root 16 = .ok (.iconst 0, 1) := by decide +kernel
theorem d_Box_root_17 : decode b_Box_root 17 = .ok (.istore 4, 2) := by decide +kernel
theorem d_Box_root_19 : decode b_Box_root 19 = .ok (.iload 4, 2) := by decide +kernel
theorem d_Box_root_21 : decode b_Box_root 21 = .ok (.bipush 40, 2) := by decide +kernel
theorem d_Box_root_23 : decode b_Box_root 23 = .ok (.if_icmp .ge 19, 3) := by decide +kernel
theorem d_Box_root_26 : decode b_Box_root 26 = .ok (.dload_n 2, 1) := by decide +kernel
theorem d_Box_root_27 : decode b_Box_root 27 = .ok (.dload_n 0, 1) := by decide +kernel
theorem d_Box_root_28 : decode b_Box_root 28 = .ok (.dload_n 2, 1) := by decide +kernel
theorem d_Box_root_29 : decode b_Box_root 29 = .ok (.ddiv, 1) := by decide +kernel
theorem d_Box_root_30 : decode b_Box_root 30 = .ok (.dadd, 1) := by decide +kernel
theorem d_Box_root_31 : decode b_Box_root 31 = .ok (.ldc2_w 18, 3) := by decide +kernel
theorem d_Box_root_34 : decode b_Box_root 34 = .ok (.dmul, 1) := by decide +kernel
theorem d_Box_root_35 : decode b_Box_root 35 = .ok (.dstore_n 2, 1) := by decide +kernel
theorem d_Box_root_36 : decode b_Box_root 36 = .ok (.iinc 4 1, 3) := by decide +kernel
theorem d_Box_root_39 : decode b_Box_root 39 = .ok (.goto (-20), 3) := by decide +kernel
theorem d_Box_root_42 : decode b_Box_root 42 = .ok (.dload_n 2, 1) := by decide +kernel
theorem d_Box_root_43 : decode b_Box_root 43 = .ok (.dreturn, 1) := by decide +kernel
set_option maxHeartbeats 4000000 in
set_option maxRecDepth 100000 in
/-- within -/
theorem c_Box_within (l : Launch) (dC : Nat → ClassId) (dI : Nat → Nat → Nat) (cI cD cZ : ClassId) (sz : Nat) (z : UInt64) (lo : UInt64) (hi : UInt64) : Met l y_Box_within w_Box_within ({ frames := 0, cells := 0, slots := 0, locals := 0 }) (va_Pc [.double z, .double lo, .double hi] (gx_B (dC, dI) classes (gx_T cI cD cZ) [] sz)) (va_Qi (fun (rr : Int32) (uu : Unit) => rr = pb_b (pb_in z lo hi)) (fun (uu : Unit) t => gx_E (dC, dI) classes (gx_T cI cD cZ) (va_A [] sz) [] t) (va_A [] sz)) 0 0 (va_A [] sz) := by
  refine Met.ofW (cc := b_Box_within) (maxL := 6) (ret := (some .boolean)) (by decide) rfl ?_
  intro p e s m args below meth c s₁ B hml hv
  obtain ⟨rfl, hsz, hP, hK, hD0, hN⟩ := hv
  have hx := B.exec
  have hb := B.bytes
  have hr := B.returns
  have hts := atoms_spec (ws := w_Box_within) B.pre
  have hown : s.vm.findClass R_Box = some m.cls := findClass_of_methodNamed B.named
  have hlocks := B.notSynchronized
  subst hsz
  have hD := hD0.self (sz := s.heap.size)
  generalize hAe : va_A [] s.heap.size = A at hD ⊢
  have hA : ∀ q : Nat, s.heap.size ≤ q → A q := fun q h => by rw [← hAe]; exact Or.inr h
  have hS : va_S A s.heap s.heap [] := va_S.rf
  have hl := lv_entry ([.double z, .double lo, .double hi]) (n := 6) (Nat.le_of_ble_eq_true rfl)
  rw [lg_entry_eq]
  generalize (lg_sl ([.double z, .double lo, .double hi]) ++ List.replicate (6 - (lg_sl ([.double z, .double lo, .double hi])).length) Slot.unset).toArray = ls at hl ⊢
  have hl : lv_has ls 6 [(0, .double z), (2, .double lo), (4, .double hi)] := hl
  obtain ⟨H, hH⟩ : ∃ H, H = s.heap := ⟨_, rfl⟩
  rw [← hH] at hP
  have hS : va_S A s.heap H [] := by rw [hH]; exact hS
  refine gx_start hH ?_
  refine lv_dload_n hx hb d_Box_within_0 rfl (lv_at hl 0 rfl) ?_
  refine lv_dload_n hx hb d_Box_within_1 rfl (lv_at hl 1 rfl) ?_
  refine gx_ge (tgt := 17) hx hb d_Box_within_2 d_Box_within_3 (by decide) (fun c2 => ?_) (fun c2 => ?_)
  · skip
    refine lv_iconst (v := 0) hx hb d_Box_within_17 (by decide) ?_
    have hP9 := hP.sub (ws' := []) [] rfl
    have hD9 := hD.sub (ws' := []) [] (by decide) rfl
    exact W.zret (v := 0) hx hb hr rfl (fun t ht hW => ⟨⟨0, (), rfl, (pb_b_f (fun h => c2 h.1)).symm, by rw [ht]; exact hP9, va_K.moved hW.alike hK, hD9⟩, hS.F ht⟩) hS.2.2 d_Box_within_18
  · skip
    refine lv_dload_n hx hb d_Box_within_6 rfl (lv_at hl 0 rfl) ?_
    refine lv_dload hx hb d_Box_within_7 (lv_at hl 2 rfl) ?_
    refine gx_le (tgt := 17) hx hb d_Box_within_9 d_Box_within_10 (by decide) (fun c9 => ?_) (fun c9 => ?_)
    · skip
      refine lv_iconst (v := 0) hx hb d_Box_within_17 (by decide) ?_
      have hP9 := hP.sub (ws' := []) [] rfl
      have hD9 := hD.sub (ws' := []) [] (by decide) rfl
      exact W.zret (v := 0) hx hb hr rfl (fun t ht hW => ⟨⟨0, (), rfl, (pb_b_f (fun h => c9 h.2)).symm, by rw [ht]; exact hP9, va_K.moved hW.alike hK, hD9⟩, hS.F ht⟩) hS.2.2 d_Box_within_18
    · skip
      refine lv_iconst (v := 1) hx hb d_Box_within_13 (by decide) ?_
      refine lv_goto (tgt := 18) hx hb d_Box_within_14 (by decide) ?_
      have hP9 := hP.sub (ws' := []) [] rfl
      have hD9 := hD.sub (ws' := []) [] (by decide) rfl
      exact W.zret (v := 1) hx hb hr rfl (fun t ht hW => ⟨⟨1, (), rfl, (pb_b_t ⟨c2, c9⟩).symm, by rw [ht]; exact hP9, va_K.moved hW.alike hK, hD9⟩, hS.F ht⟩) hS.2.2 d_Box_within_18
set_option maxHeartbeats 4000000 in
set_option maxRecDepth 100000 in
/-- isPlace -/
theorem c_Box_isPlace (l : Launch) (dC : Nat → ClassId) (dI : Nat → Nat → Nat) (cI cD cZ : ClassId) (sz : Nat) (z : UInt64) : Met l y_Box_isPlace w_Box_isPlace ({ frames := 1, cells := 0, slots := 0, locals := 25 }) (va_Pc [.double z] (gx_B (dC, dI) classes (gx_T cI cD cZ) [] sz)) (va_Qi (fun (rr : Int32) (uu : Unit) => rr = pb_b (pb_in z 13875379345695965184 4652007308841189376)) (fun (uu : Unit) t => gx_E (dC, dI) classes (gx_T cI cD cZ) (va_A [] sz) [] t) (va_A [] sz)) 0 0 (va_A [] sz) := by
  refine Met.ofW (cc := b_Box_isPlace) (maxL := 2) (ret := (some .boolean)) (by decide) rfl ?_
  intro p e s m args below meth c s₁ B hml hv
  obtain ⟨rfl, hsz, hP, hK, hD0, hN⟩ := hv
  have hx := B.exec
  have hb := B.bytes
  have hr := B.returns
  have hts := atoms_spec (ws := w_Box_isPlace) B.pre
  have hown : s.vm.findClass R_Box = some m.cls := findClass_of_methodNamed B.named
  have hlocks := B.notSynchronized
  subst hsz
  have hD := hD0.self (sz := s.heap.size)
  generalize hAe : va_A [] s.heap.size = A at hD ⊢
  have hA : ∀ q : Nat, s.heap.size ≤ q → A q := fun q h => by rw [← hAe]; exact Or.inr h
  have hS : va_S A s.heap s.heap [] := va_S.rf
  have hl := lv_entry ([.double z]) (n := 2) (Nat.le_of_ble_eq_true rfl)
  rw [lg_entry_eq]
  generalize (lg_sl ([.double z]) ++ List.replicate (2 - (lg_sl ([.double z])).length) Slot.unset).toArray = ls at hl ⊢
  have hl : lv_has ls 2 [(0, .double z)] := hl
  obtain ⟨H, hH⟩ : ∃ H, H = s.heap := ⟨_, rfl⟩
  rw [← hH] at hP
  have hS : va_S A s.heap H [] := by rw [hH]; exact hS
  refine gx_start hH ?_
  refine lv_dload_n hx hb d_Box_isPlace_0 rfl (lv_at hl 0 rfl) ?_
  refine lv_ldc2d (v := 13875379345695965184) hx hb hown (hts (.constantDouble R_Box 151 13875379345695965184) (by decide +kernel)) d_Box_isPlace_1 ?_
  refine lv_ldc2d (v := 4652007308841189376) hx hb hown (hts (.constantDouble R_Box 153 4652007308841189376) (by decide +kernel)) d_Box_isPlace_4 ?_
  refine gx_Si (st0 := [.double 4652007308841189376, .double 13875379345695965184, .double z]) (As := [.double z, .double 13875379345695965184, .double 4652007308841189376]) (rest := []) (wr := []) ⟨hx, hb, hml, hown, hts⟩ hN hK hP hD hS hA [] [] rfl rfl (by decide) (c_Box_within l dC dI cI cD cZ H.size z 13875379345695965184 4652007308841189376) (va_cwS 3 hts (gx_gS kw_432 kw_433 kw_44 kw_434) rfl rfl rfl (by decide +kernel) ⟨Nat.le_of_ble_eq_true rfl, Nat.le_of_ble_eq_true rfl⟩) rfl hl.1 rfl (Nat.le_of_ble_eq_true rfl) d_Box_isPlace_7 ⟨Nat.le_of_ble_eq_true rfl, Nat.le_of_ble_eq_true rfl⟩ (fun r_1 u_2 H locs hw7 hP hD hS => ?_)
  try dsimp only at hw7 hP hD
  have hP : va_P (dC, dI) classes [] H := hP
  have hD : va_D A [] := hD
  obtain rfl : r_1 = pb_b (pb_in z 13875379345695965184 4652007308841189376) := hw7
  have hP9 := hP.sub (ws' := []) [] rfl
  have hD9 := hD.sub (ws' := []) [] (by decide) rfl
  exact W.zret (v := (pb_b (pb_in z 13875379345695965184 4652007308841189376))) hx hb hr (pb_b_nar _) (fun t ht hW => ⟨⟨(pb_b (pb_in z 13875379345695965184 4652007308841189376)), (), rfl, rfl, by rw [ht]; exact hP9, va_K.moved hW.alike hK, hD9⟩, hS.F ht⟩) hS.2.2 d_Box_isPlace_10
set_option maxHeartbeats 4000000 in
set_option maxRecDepth 100000 in
/-- isSort -/
theorem c_Box_isSort (l : Launch) (dC : Nat → ClassId) (dI : Nat → Nat → Nat) (cI cD cZ : ClassId) (sz : Nat) (q : Int32) : Met l y_Box_isSort w_Box_isSort ({ frames := 0, cells := 0, slots := 0, locals := 0 }) (va_Pc [.int q] (gx_B (dC, dI) classes (gx_T cI cD cZ) [] sz)) (va_Qi (fun (rr : Int32) (uu : Unit) => rr = pb_b (pb_has 3 q)) (fun (uu : Unit) t => gx_E (dC, dI) classes (gx_T cI cD cZ) (va_A [] sz) [] t) (va_A [] sz)) 0 0 (va_A [] sz) := by
  refine Met.ofW (cc := b_Box_isSort) (maxL := 1) (ret := (some .boolean)) (by decide) rfl ?_
  intro p e s m args below meth c s₁ B hml hv
  obtain ⟨rfl, hsz, hP, hK, hD0, hN⟩ := hv
  have hx := B.exec
  have hb := B.bytes
  have hr := B.returns
  have hts := atoms_spec (ws := w_Box_isSort) B.pre
  have hown : s.vm.findClass R_Box = some m.cls := findClass_of_methodNamed B.named
  have hlocks := B.notSynchronized
  subst hsz
  have hD := hD0.self (sz := s.heap.size)
  generalize hAe : va_A [] s.heap.size = A at hD ⊢
  have hA : ∀ q : Nat, s.heap.size ≤ q → A q := fun q h => by rw [← hAe]; exact Or.inr h
  have hS : va_S A s.heap s.heap [] := va_S.rf
  have hl := lv_entry ([.int q]) (n := 1) (Nat.le_of_ble_eq_true rfl)
  rw [lg_entry_eq]
  generalize (lg_sl ([.int q]) ++ List.replicate (1 - (lg_sl ([.int q])).length) Slot.unset).toArray = ls at hl ⊢
  have hl : lv_has ls 1 [(0, .int q)] := hl
  obtain ⟨H, hH⟩ : ∃ H, H = s.heap := ⟨_, rfl⟩
  rw [← hH] at hP
  have hS : va_S A s.heap H [] := by rw [hH]; exact hS
  refine gx_start hH ?_
  refine lv_iload_n hx hb d_Box_isSort_0 rfl (lv_at hl 0 rfl) ?_
  refine lv_if_lt (tgt := 13) hx hb d_Box_isSort_1 (by decide) (fun c1 => ?_) (fun c1 => ?_)
  · skip
    refine lv_iconst (v := 0) hx hb d_Box_isSort_13 (by decide) ?_
    have hP9 := hP.sub (ws' := []) [] rfl
    have hD9 := hD.sub (ws' := []) [] (by decide) rfl
    exact W.zret (v := 0) hx hb hr rfl (fun t ht hW => ⟨⟨0, (), rfl, (pb_b_f (fun h => h.1 c1)).symm, by rw [ht]; exact hP9, va_K.moved hW.alike hK, hD9⟩, hS.F ht⟩) hS.2.2 d_Box_isSort_14
  · skip
    refine lv_iload_n hx hb d_Box_isSort_4 rfl (lv_at hl 0 rfl) ?_
    refine lv_iconst (v := nI 3) hx hb d_Box_isSort_5 (by decide) ?_
    refine lv_icmp_ge (tgt := 13) hx hb d_Box_isSort_6 (by decide) (fun c6 => ?_) (fun c6 => ?_)
    · skip
      refine lv_iconst (v := 0) hx hb d_Box_isSort_13 (by decide) ?_
      have hP9 := hP.sub (ws' := []) [] rfl
      have hD9 := hD.sub (ws' := []) [] (by decide) rfl
      exact W.zret (v := 0) hx hb hr rfl (fun t ht hW => ⟨⟨0, (), rfl, (pb_b_f (fun h => h.2 c6)).symm, by rw [ht]; exact hP9, va_K.moved hW.alike hK, hD9⟩, hS.F ht⟩) hS.2.2 d_Box_isSort_14
    · skip
      refine lv_iconst (v := 1) hx hb d_Box_isSort_9 (by decide) ?_
      refine lv_goto (tgt := 14) hx hb d_Box_isSort_10 (by decide) ?_
      have hP9 := hP.sub (ws' := []) [] rfl
      have hD9 := hD.sub (ws' := []) [] (by decide) rfl
      exact W.zret (v := 1) hx hb hr rfl (fun t ht hW => ⟨⟨1, (), rfl, (pb_b_t ⟨c1, c6⟩).symm, by rw [ht]; exact hP9, va_K.moved hW.alike hK, hD9⟩, hS.F ht⟩) hS.2.2 d_Box_isSort_14
set_option maxHeartbeats 4000000 in
set_option maxRecDepth 100000 in
/-- ROOT -/
theorem c_Box_root (l : Launch) (dC : Nat → ClassId) (dI : Nat → Nat → Nat) (cI cD cZ : ClassId) (sz : Nat) (z : UInt64) (hz : fp_I z 0 (fp_d 1 1105)) : Met l y_Box_root w_Box_root ({ frames := 0, cells := 0, slots := 0, locals := 0 }) (va_Pc [.double z] (gx_B (dC, dI) classes (gx_T cI cD cZ) [] sz)) (va_Qd (fun (rr : UInt64) (uu : Unit) => rr = pb_root z) (fun (uu : Unit) t => gx_E (dC, dI) classes (gx_T cI cD cZ) (va_A [] sz) [] t) (va_A [] sz)) 0 0 (va_A [] sz) := by
  refine Met.ofW (cc := b_Box_root) (maxL := 5) (ret := (some .double)) (by decide) rfl ?_
  intro p e s m args below meth c s₁ B hml hv
  obtain ⟨rfl, hsz, hP, hK, hD0, hN⟩ := hv
  have hx := B.exec
  have hb := B.bytes
  have hr := B.returns
  have hts := atoms_spec (ws := w_Box_root) B.pre
  have hown : s.vm.findClass R_Box = some m.cls := findClass_of_methodNamed B.named
  have hlocks := B.notSynchronized
  subst hsz
  have hD := hD0.self (sz := s.heap.size)
  generalize hAe : va_A [] s.heap.size = A at hD ⊢
  have hA : ∀ q : Nat, s.heap.size ≤ q → A q := fun q h => by rw [← hAe]; exact Or.inr h
  have hS : va_S A s.heap s.heap [] := va_S.rf
  have hl := lv_entry ([.double z]) (n := 5) (Nat.le_of_ble_eq_true rfl)
  rw [lg_entry_eq]
  generalize (lg_sl ([.double z]) ++ List.replicate (5 - (lg_sl ([.double z])).length) Slot.unset).toArray = ls at hl ⊢
  have hl : lv_has ls 5 [(0, .double z)] := hl
  obtain ⟨H, hH⟩ : ∃ H, H = s.heap := ⟨_, rfl⟩
  rw [← hH] at hP
  have hS : va_S A s.heap H [] := by rw [hH]; exact hS
  refine gx_start hH ?_
  refine lv_dload_n hx hb d_Box_root_0 rfl (lv_at hl 0 rfl) ?_
  refine lv_dconst0 hx hb d_Box_root_1 ?_
  refine gx_eq (tgt := 8) hx hb d_Box_root_2 d_Box_root_3 (by decide) (fun c2 => ?_) (fun c2 => ?_)
  · skip
    refine lv_dload_n hx hb d_Box_root_8 rfl (lv_at hl 0 rfl) ?_
    refine lv_dconst1 hx hb d_Box_root_9 ?_
    have g_1 := fp_const (a := FP.dconst1) (T := (fp_d 1 1074)) (by decide +kernel)
    have g_2 := fp_I_add (fp_d 1 1074) (fp_d 8388609 1082) hz g_1 (by decide +kernel)
    refine lv_dadd hx hb d_Box_root_10 g_2.n ?_
    refine lv_ldc2d (v := 4602678819172646912) hx hb hown (hts (.constantDouble R_Box 18 4602678819172646912) (by decide +kernel)) d_Box_root_11 ?_
    have g_3 := fp_const (a := 4602678819172646912) (T := (fp_d 1 1073)) (by decide +kernel)
    have g_4 := fp_I_mul (fp_d 1 1073) (fp_d 8388609 1081) g_2 g_3 (by decide +kernel)
    refine lv_dmul hx hb d_Box_root_14 g_4.n ?_
    refine lv_dstore_n (lv' := [(2, .double (FP.dmul (FP.dadd z FP.dconst1) 4602678819172646912)), (0, .double z)]) hx hb d_Box_root_15 rfl hl (by decide) rfl (fun ls hl => ?_)
    refine lv_iconst (v := nI 0) hx hb d_Box_root_16 (by decide) ?_
    refine lv_istore (lv' := [(4, .int (nI 0)), (2, .double (FP.dmul (FP.dadd z FP.dconst1) 4602678819172646912)), (0, .double z)]) hx hb d_Box_root_17 hl (by decide) rfl (fun ls hl => ?_)
    refine gx_loop (fun (k : Nat) (H : Heap) (locs : List Loc) (ls : Array Slot) => va_P (dC, dI) classes [] H ∧ va_D A [] ∧ va_S A s.heap H locs ∧ lv_has ls 5 [(4, .int (nI k)), (2, .double (pb_rt z k)), (0, .double z)] ∧ (k ≤ 40)) (fun (k : Nat) => 40 - k) (fun N K19 xx H locs ls hI hmu => ?_) 0 ?_
    rotate_left
    · skip
      refine ⟨hP.sub [] rfl, hD.sub [] (by decide) rfl, hS, lv_sub hl [0, 1, 2] rfl, (by omega)⟩
    obtain ⟨k, rfl⟩ : ∃ zz, zz = xx := ⟨_, rfl⟩
    obtain ⟨hP, hD, hS, hl, hk⟩ := hI
    try dsimp only at hmu
    refine lv_iload hx hb d_Box_root_19 (lv_at hl 0 rfl) ?_
    refine lv_bipush (v := nI 40) hx hb d_Box_root_21 (by decide) ?_
    refine lv_icmp_ge (tgt := 42) hx hb d_Box_root_23 (by decide) (fun c23 => ?_) (fun c23 => ?_)
    · skip
      have c23 : 40 ≤ k := (nI_leI (a := 40) (b := k) (by omega) (by omega)).mp c23
      have hk2 : k = 40 := by omega
      subst hk2
      refine lv_dload_n hx hb d_Box_root_42 rfl (lv_at hl 1 rfl) ?_
      have hP9 := hP.sub (ws' := []) [] rfl
      have hD9 := hD.sub (ws' := []) [] (by decide) rfl
      exact W.dret (v := (pb_rt z 40)) hx hb hr (fun t ht hW => ⟨⟨(pb_rt z 40), (), rfl, (by unfold pb_root; rw [if_neg c2]), by rw [ht]; exact hP9, va_K.moved hW.alike hK, hD9⟩, hS.F ht⟩) hS.2.2 d_Box_root_43
    · skip
      have c23 : ¬ 40 ≤ k := fun h => c23 ((nI_leI (a := 40) (b := k) (by omega) (by omega)).mpr h)
      have gk := pb_rt_I hz k (by omega)
      refine lv_dload_n hx hb d_Box_root_26 rfl (lv_at hl 1 rfl) ?_
      refine lv_dload_n hx hb d_Box_root_27 rfl (lv_at hl 2 rfl) ?_
      refine lv_dload_n hx hb d_Box_root_28 rfl (lv_at hl 1 rfl) ?_
      have g_5 := fp_I_div (fp_d 0 0) (fp_d 1 1146) hz gk (by decide +kernel)
      refine lv_ddiv hx hb d_Box_root_29 g_5.n ?_
      have g_6 := fp_I_add (fp_d 1 1033) (fp_d 1 1147) gk g_5 (by decide +kernel)
      refine lv_dadd hx hb d_Box_root_30 g_6.n ?_
      refine lv_ldc2d (v := 4602678819172646912) hx hb hown (hts (.constantDouble R_Box 18 4602678819172646912) (by decide +kernel)) d_Box_root_31 ?_
      have g_7 := fp_const (a := 4602678819172646912) (T := (fp_d 1 1073)) (by decide +kernel)
      have g_8 := fp_I_mul (fp_d 1 1032) (fp_d 1 1146) g_6 g_7 (by decide +kernel)
      refine lv_dmul hx hb d_Box_root_34 g_8.n ?_
      refine lv_dstore_n (lv' := [(2, .double (FP.dmul (FP.dadd (pb_rt z k) (FP.ddiv z (pb_rt z k))) 4602678819172646912)), (4, .int (nI k)), (0, .double z)]) hx hb d_Box_root_35 rfl hl (by decide) rfl (fun ls hl => ?_)
      refine lv_iinc (v := nI (k + 1)) (lv' := [(4, .int (nI (k + 1))), (2, .double (FP.dmul (FP.dadd (pb_rt z k) (FP.ddiv z (pb_rt z k))) 4602678819172646912)), (0, .double z)]) hx hb d_Box_root_36 hl (k := 1) rfl (nI_1 k) (by decide) rfl (fun ls hl => ?_)
      refine lv_goto (tgt := 19) hx hb d_Box_root_39 (by decide) ?_
      exact K19 (k + 1) _ _ _ ⟨hP.sub [] rfl, hD.sub [] (by decide) rfl, hS, lv_sub hl [0, 1, 2] rfl, (by omega)⟩ (by omega)
  · skip
    refine lv_dconst0 hx hb d_Box_root_6 ?_
    have hP9 := hP.sub (ws' := []) [] rfl
    have hD9 := hD.sub (ws' := []) [] (by decide) rfl
    exact W.dret (v := FP.dconst0) hx hb hr (fun t ht hW => ⟨⟨FP.dconst0, (), rfl, (by unfold pb_root; rw [if_pos c2]), by rw [ht]; exact hP9, va_K.moved hW.alike hK, hD9⟩, hS.F ht⟩) hS.2.2 d_Box_root_7
