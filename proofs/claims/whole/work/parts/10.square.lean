theorem d_Box_floor_0 : decode b_Box_floor 0 = .ok (.dload_n 0, 1) := by decide +kernel
theorem d_Box_floor_1 : decode b_Box_floor 1 = .ok (.d2l, 1) := by decide +kernel
theorem d_Box_floor_2 : decode b_Box_floor 2 = .ok (.l2d, 1) := by decide +kernel
theorem d_Box_floor_3 : decode b_Box_floor 3 = .ok (.dstore_n 2, 1) := by decide +kernel
theorem d_Box_floor_4 : decode b_Box_floor 4 = .ok (.dload_n 2, 1) := by decide +kernel
theorem d_Box_floor_5 : decode b_Box_floor 5 = .ok (.dload_n 0, 1) := by decide +kernel
theorem d_Box_floor_6 : decode b_Box_floor 6 = .ok (.dcmp .l, 1) := by decide +kernel
theorem d_Box_floor_7 : decode b_Box_floor 7 = .ok (.ifCond .le 9, 3) := by decide +kernel
theorem d_Box_floor_10 : decode b_Box_floor 10 = .ok (.dload_n 2, 1) := by decide +kernel
theorem d_Box_floor_11 : decode b_Box_floor 11 = .ok (.dconst 1, 1) := by decide +kernel
theorem d_Box_floor_12 : decode b_Box_floor 12 = .ok (.dsub, 1) := by decide +kernel
theorem d_Box_floor_13 : decode b_Box_floor 13 = .ok (.goto 4, 3) := by decide +kernel
theorem d_Box_floor_16 : decode b_Box_floor 16 = .ok (.dload_n 2, 1) := by decide +kernel
theorem d_Box_floor_17 : decode b_Box_floor 17 = .ok (.dreturn, 1) := by decide +kernel
theorem d_Square_wrapped_0 : decode b_Square_wrapped 0 = .ok (.dload_n 1, 1) := by decide +kernel
theorem d_Square_wrapped_1 : decode b_Square_wrapped 1 = .ok (.aload_n 0, 1) := by decide +kernel
theorem d_Square_wrapped_2 : decode b_Square_wrapped 2 = .ok (.getfield 7, 3) := by decide +kernel
theorem d_Square_wrapped_5 : decode b_Square_wrapped 5 = .ok (.dload_n 1, 1) := by decide +kernel
theorem d_Square_wrapped_6 : decode b_Square_wrapped 6 = .ok (.aload_n 0, 1) := by decide +kernel
theorem d_Square_wrapped_7 : decode b_Square_wrapped 7 = .ok (.getfield 7, 3) := by decide +kernel
theorem d_Square_wrapped_10 : decode b_Square_wrapped 10 = .ok (.ddiv, 1) := by decide +kernel
theorem d_Square_wrapped_11 : decode b_Square_wrapped 11 = .ok (.invokestatic 13, 3) := by decide +kernel
theorem d_Square_wrapped_14 : decode b_Square_wrapped 14 = .ok (.dmul, 1) := by decide +kernel
theorem d_Square_wrapped_15 : decode b_Square_wrapped 15 = .ok (.dsub, 1) := by decide +kernel
theorem d_Square_wrapped_16 : decode b_Square_wrapped 16 = .ok (.dstore_n 3, 1) := by decide +kernel
theorem d_Square_wrapped_17 : decode b_Square_wrapped 17 = .ok (.dload_n 3, 1) := by decide +kernel
theorem d_Square_wrapped_18 : decode b_Square_wrapped 18 = .ok (.aload_n 0, 1) := by decide +kernel
theorem d_Square_wrapped_19 : decode b_Square_wrapped 19 = .ok (.getfield 7, 3) := by decide +kernel
theorem d_Square_wrapped_22 : decode b_Square_wrapped 22 = .ok (.dcmp .g, 1) := by decide +kernel
theorem d_Square_wrapped_23 : decode b_Square_wrapped 23 = .ok (.ifCond .ge 7, 3) := by decide +kernel
theorem d_Square_wrapped_26 : decode b_Square_wrapped 26 = .ok (.dload_n 3, 1) := by decide +kernel
theorem d_Square_wrapped_27 : decode b_Square_wrapped 27 = .ok (.goto 4, 3) := by decide +kernel
theorem d_Square_wrapped_30 : decode b_Square_wrapped 30 = .ok (.dconst 0, 1) := by decide +kernel
theorem d_Square_wrapped_31 : decode b_Square_wrapped 31 = .ok (.dreturn, 1) := by decide +kernel
theorem d_Square_measure_0 : decode b_Square_measure 0 = .ok (.dload 5, 2) := by decide +kernel
theorem d_Square_measure_2 : decode b_Square_measure 2 = .ok (.dload_n 1, 1) := by decide +kernel
theorem d_Square_measure_3 : decode b_Square_measure 3 = .ok (.dsub, 1) := by decide +kernel
theorem d_Square_measure_4 : decode b_Square_measure 4 = .ok (.dstore 9, 2) := by decide +kernel
theorem d_Square_measure_6 : decode b_Square_measure 6 = .ok (.dload 7, 2) := by decide +kernel
theorem d_Square_measure_8 : decode b_Square_measure 8 = .ok (.dload_n 3, 1) := by decide +kernel
theorem d_Square_measure_9 : decode b_Square_measure 9 = .ok (.dsub, 1) := by decide +kernel
theorem d_Square_measure_10 : decode b_Square_measure 10 = .ok (.dstore 11, 2) := by decide +kernel
theorem d_Square_measure_12 : decode b_Square_measure 12 = .ok (.aload_n 0, 1) := by decide +kernel
theorem d_Square_measure_13 : decode b_Square_measure 13 = .ok (.dload 9, 2) := by decide +kernel
theorem d_Square_measure_15 : decode b_Square_measure 15 = .ok (.aload_n 0, 1) := by decide +kernel
theorem d_Square_measure_16 : decode b_Square_measure 16 = .ok (.getfield 7, 3) := by decide +kernel
theorem d_Square_measure_19 : decode b_Square_measure 19 = .ok (.dload 9, 2) := by decide +kernel
theorem d_Square_measure_21 : decode b_Square_measure 21 = .ok (.aload_n 0, 1) := by decide +kernel
theorem d_Square_measure_22 : decode b_Square_measure 22 = .ok (.getfield 7, 3) := by decide +kernel
theorem d_Square_measure_25 : decode b_Square_measure 25 = .ok (.ddiv, 1) := by decide +kernel
theorem d_Square_measure_26 : decode b_Square_measure 26 = .ok (.ldc2_w 19, 3) := by decide +kernel
theorem d_Square_measure_29 : decode b_Square_measure 29 = .ok (.dadd, 1) := by decide +kernel
theorem d_Square_measure_30 : decode b_Square_measure 30 = .ok (.invokestatic 13, 3) := by decide +kernel
theorem d_Square_measure_33 : decode b_Square_measure 33 = .ok (.dmul, 1) := by decide +kernel
theorem d_Square_measure_34 : decode b_Square_measure 34 = .ok (.dsub, 1) := by decide +kernel
theorem d_Square_measure_35 : decode b_Square_measure 35 = .ok (.putfield 21, 3) := by decide +kernel
theorem d_Square_measure_38 : decode b_Square_measure 38 = .ok (.aload_n 0, 1) := by decide +kernel
theorem d_Square_measure_39 : decode b_Square_measure 39 = .ok (.dload 11, 2) := by decide +kernel
theorem d_Square_measure_41 : decode b_Square_measure 41 = .ok (.aload_n 0, 1) := by decide +kernel
theorem d_Square_measure_42 : decode b_Square_measure 42 = .ok (.getfield 7, 3) := by decide +kernel
theorem d_Square_measure_45 : decode b_Square_measure 45 = .ok (.dload 11, 2) := by decide +kernel
theorem d_Square_measure_47 : decode b_Square_measure 47 = .ok (.aload_n 0, 1) := by decide +kernel
theorem d_Square_measure_48 : decode b_Square_measure 48 = .ok (.getfield 7, 3) := by decide +kernel
theorem d_Square_measure_51 : decode b_Square_measure 51 = .ok (.ddiv, 1) := by decide +kernel
theorem d_Square_measure_52 : decode b_Square_measure 52 = .ok (.ldc2_w 19, 3) := by decide +kernel
theorem d_Square_measure_55 : decode b_Square_measure 55 = .ok (.dadd, 1) := by decide +kernel
theorem d_Square_measure_56 : decode b_Square_measure 56 = .ok (.invokestatic 13, 3) := by decide +kernel
theorem d_Square_measure_59 : decode b_Square_measure 59 = .ok (.dmul, 1) := by decide +kernel
theorem d_Square_measure_60 : decode b_Square_measure 60 = .ok (.dsub, 1) := by decide +kernel
theorem d_Square_measure_61 : decode b_Square_measure 61 = .ok (.putfield 24, 3) := by decide +kernel
theorem d_Square_measure_64 : decode b_Square_measure 64 = .ok (.aload_n 0, 1) := by decide +kernel
theorem d_Square_measure_65 : decode b_Square_measure 65 = .ok (.aload_n 0, 1) := by decide +kernel
theorem d_Square_measure_66 : decode b_Square_measure 66 = .ok (.getfield 21, 3) := by decide +kernel
theorem d_Square_measure_69 : decode b_Square_measure 69 = .ok (.aload_n 0, 1) := by decide +kernel
theorem d_Square_measure_70 : decode b_Square_measure 70 = .ok (.getfield 21, 3) := by decide +kernel
theorem d_Square_measure_73 : decode b_Square_measure 73 = .ok (.dmul, 1) := by decide +kernel
theorem d_Square_measure_74 : decode b_Square_measure 74 = .ok (.aload_n 0, 1) := by decide +kernel
theorem d_Square_measure_75 : decode b_Square_measure 75 = .ok (.getfield 24, 3) := by decide +kernel
theorem d_Square_measure_78 : decode b_Square_measure 78 = .ok (.aload_n 0, 1) := by decide +kernel
theorem d_Square_measure_79 : decode b_Square_measure 79 = .ok (.getfield 24, 3) := by decide +kernel
theorem d_Square_measure_82 : decode b_Square_measure 82 = .ok (.dmul, 1) := by decide +kernel
theorem d_Square_measure_83 : decode b_Square_measure 83 = .ok (.dadd, 1) := by decide +kernel
theorem d_Square_measure_84 : decode b_Square_measure 84 = .ok (.putfield 27, 3) := by decide +kernel
theorem d_Square_measure_87 : decode b_Square_measure 87 = .ok (.return_, 1) := by decide +kernel
set_option maxHeartbeats 4000000 in
set_option maxRecDepth 100000 in
/-- FLOOR -/
theorem c_Box_floor (l : Launch) (dC : Nat → ClassId) (dI : Nat → Nat → Nat) (cI cD cZ : ClassId) (sz : Nat) (z : UInt64) : Met l y_Box_floor w_Box_floor ({ frames := 0, cells := 0, slots := 0, locals := 0 }) (va_Pc [.double z] (gx_B (dC, dI) classes (gx_T cI cD cZ) [] sz)) (va_Qd (fun (rr : UInt64) (uu : Unit) => rr = pb_floor z) (fun (uu : Unit) t => gx_E (dC, dI) classes (gx_T cI cD cZ) (va_A [] sz) [] t) (va_A [] sz)) 0 0 (va_A [] sz) := by
  refine Met.ofW (cc := b_Box_floor) (maxL := 4) (ret := (some .double)) (by decide) rfl ?_
  intro p e s m args below meth c s₁ B hml hv
  obtain ⟨rfl, hsz, hP, hK, hD0, hN⟩ := hv
  have hx := B.exec
  have hb := B.bytes
  have hr := B.returns
  have hts := atoms_spec (ws := w_Box_floor) B.pre
  have hown : s.vm.findClass R_Box = some m.cls := findClass_of_methodNamed B.named
  have hlocks := B.notSynchronized
  subst hsz
  have hD := hD0.self (sz := s.heap.size)
  generalize hAe : va_A [] s.heap.size = A at hD ⊢
  have hA : ∀ q : Nat, s.heap.size ≤ q → A q := fun q h => by rw [← hAe]; exact Or.inr h
  have hS : va_S A s.heap s.heap [] := va_S.rf
  have hl := lv_entry ([.double z]) (n := 4) (Nat.le_of_ble_eq_true rfl)
  rw [lg_entry_eq]
  generalize (lg_sl ([.double z]) ++ List.replicate (4 - (lg_sl ([.double z])).length) Slot.unset).toArray = ls at hl ⊢
  have hl : lv_has ls 4 [(0, .double z)] := hl
  obtain ⟨H, hH⟩ : ∃ H, H = s.heap := ⟨_, rfl⟩
  rw [← hH] at hP
  have hS : va_S A s.heap H [] := by rw [hH]; exact hS
  refine gx_start hH ?_
  refine lv_dload_n hx hb d_Box_floor_0 rfl (lv_at hl 0 rfl) ?_
  refine lv_d2l hx hb d_Box_floor_1 ?_
  refine lv_l2d hx hb d_Box_floor_2 ?_
  have g_1 := fp_l2d_I (FP.d2l z)
  refine lv_dstore_n (lv' := [(2, .double (FP.l2d (FP.d2l z))), (0, .double z)]) hx hb d_Box_floor_3 rfl hl (by decide) rfl (fun ls hl => ?_)
  refine lv_dload_n hx hb d_Box_floor_4 rfl (lv_at hl 0 rfl) ?_
  refine lv_dload_n hx hb d_Box_floor_5 rfl (lv_at hl 1 rfl) ?_
  refine gx_gt (tgt := 16) hx hb d_Box_floor_6 d_Box_floor_7 (by decide) (fun c6 => ?_) (fun c6 => ?_)
  · skip
    refine lv_dload_n hx hb d_Box_floor_16 rfl (lv_at hl 0 rfl) ?_
    have hP9 := hP.sub (ws' := []) [] rfl
    have hD9 := hD.sub (ws' := []) [] (by decide) rfl
    exact W.dret (v := (FP.l2d (FP.d2l z))) hx hb hr (fun t ht hW => ⟨⟨(FP.l2d (FP.d2l z)), (), rfl, (by unfold pb_floor; rw [if_neg c6]), by rw [ht]; exact hP9, va_K.moved hW.alike hK, hD9⟩, hS.F ht⟩) hS.2.2 d_Box_floor_17
  · skip
    refine lv_dload_n hx hb d_Box_floor_10 rfl (lv_at hl 0 rfl) ?_
    refine lv_dconst1 hx hb d_Box_floor_11 ?_
    have g_2 := fp_const (a := FP.dconst1) (T := (fp_d 1 1074)) (by decide +kernel)
    have g_3 := fp_I_sub (fp_d (-8388609) 1116) (fp_d 1 1139) g_1 g_2 (by decide +kernel)
    refine lv_dsub hx hb d_Box_floor_12 g_3.n ?_
    refine lv_goto (tgt := 17) hx hb d_Box_floor_13 (by decide) ?_
    have hP9 := hP.sub (ws' := []) [] rfl
    have hD9 := hD.sub (ws' := []) [] (by decide) rfl
    exact W.dret (v := (FP.dsub (FP.l2d (FP.d2l z)) FP.dconst1)) hx hb hr (fun t ht hW => ⟨⟨(FP.dsub (FP.l2d (FP.d2l z)) FP.dconst1), (), rfl, (by unfold pb_floor; rw [if_pos c6]), by rw [ht]; exact hP9, va_K.moved hW.alike hK, hD9⟩, hS.F ht⟩) hS.2.2 d_Box_floor_17
set_option maxHeartbeats 4000000 in
set_option maxRecDepth 100000 in
/-- WRAPPED -/
theorem c_Square_wrapped (l : Launch) (dC : Nat → ClassId) (dI : Nat → Nat → Nat) (cI cD cZ : ClassId) (sz : Nat) (h0 : Nat) (side : UInt64) (a : UInt64) (b : UInt64) (r2 : UInt64) (z : UInt64) (k : Int) (hs : pb_S side k) (hz : fp_I z (fp_d (-1) 1121) (fp_d 1 1121)) : Met l y_Square_wrapped w_Square_wrapped ({ frames := 1, cells := 0, slots := 0, locals := 23 }) (va_Pc [.ref h0, .double z] (gx_B (dC, dI) classes (gx_T cI cD cZ) [(h0, .inr (7, [.double side, .double a, .double b, .double r2]))] sz)) (va_Qd (fun (rr : UInt64) (uu : Unit) => rr = pb_wrap side z) (fun (uu : Unit) t => gx_E (dC, dI) classes (gx_T cI cD cZ) (va_A [(h0, .inr (7, [.double side, .double a, .double b, .double r2]))] sz) [(h0, .inr (7, [.double side, .double a, .double b, .double r2]))] t) (va_A [(h0, .inr (7, [.double side, .double a, .double b, .double r2]))] sz)) 0 0 (va_A [(h0, .inr (7, [.double side, .double a, .double b, .double r2]))] sz) := by
  refine Met.ofW (cc := b_Square_wrapped) (maxL := 5) (ret := (some .double)) (by decide) rfl ?_
  intro p e s m args below meth c s₁ B hml hv
  obtain ⟨rfl, hsz, hP, hK, hD0, hN⟩ := hv
  have hx := B.exec
  have hb := B.bytes
  have hr := B.returns
  have hts := atoms_spec (ws := w_Square_wrapped) B.pre
  have hown : s.vm.findClass R_Square = some m.cls := findClass_of_methodNamed B.named
  have hlocks := B.notSynchronized
  subst hsz
  have hD := hD0.self (sz := s.heap.size)
  generalize hAe : va_A [(h0, .inr (7, [.double side, .double a, .double b, .double r2]))] s.heap.size = A at hD ⊢
  have hA : ∀ q : Nat, s.heap.size ≤ q → A q := fun q h => by rw [← hAe]; exact Or.inr h
  have hS : va_S A s.heap s.heap [] := va_S.rf
  have hl := lv_entry ([.ref h0, .double z]) (n := 5) (Nat.le_of_ble_eq_true rfl)
  rw [lg_entry_eq]
  generalize (lg_sl ([.ref h0, .double z]) ++ List.replicate (5 - (lg_sl ([.ref h0, .double z])).length) Slot.unset).toArray = ls at hl ⊢
  have hl : lv_has ls 5 [(0, .ref h0), (1, .double z)] := hl
  obtain ⟨H, hH⟩ : ∃ H, H = s.heap := ⟨_, rfl⟩
  rw [← hH] at hP
  have hS : va_S A s.heap H [] := by rw [hH]; exact hS
  refine gx_start hH ?_
  refine lv_dload_n hx hb d_Square_wrapped_0 rfl (lv_at hl 1 rfl) ?_
  refine lv_aload_n hx hb d_Square_wrapped_1 rfl (lv_at hl 0 rfl) ?_
  refine va_get (D := (dC, dI)) (ci := 7) (v := .double side) (C := R_Square) (T := F_Square) (N := 4) hx hb hts (fun w h => List.mem_cons_of_mem _ (i_Square w h)) hown hK hP 0 rfl rfl 0 (by decide) (hts _ (List.mem_cons_of_mem _ kw_83)) (fun _ h9 => h9) rfl d_Square_wrapped_2 ?_
  refine lv_dload_n hx hb d_Square_wrapped_5 rfl (lv_at hl 1 rfl) ?_
  refine lv_aload_n hx hb d_Square_wrapped_6 rfl (lv_at hl 0 rfl) ?_
  refine va_get (D := (dC, dI)) (ci := 7) (v := .double side) (C := R_Square) (T := F_Square) (N := 4) hx hb hts (fun w h => List.mem_cons_of_mem _ (i_Square w h)) hown hK hP 0 rfl rfl 0 (by decide) (hts _ (List.mem_cons_of_mem _ kw_83)) (fun _ h9 => h9) rfl d_Square_wrapped_7 ?_
  have g_1 := fp_I_div (fp_d (-1) 1119) (fp_d 1 1119) hz hs.I (by decide +kernel)
  refine lv_ddiv hx hb d_Square_wrapped_10 g_1.n ?_
  refine gx_SNd (st0 := [.double (FP.ddiv z side), .double side, .double z]) (As := [.double (FP.ddiv z side)]) (rest := [.double side, .double z]) (wr := [(h0, .inr (7, [.double side, .double a, .double b, .double r2]))]) ⟨hx, hb, hml, hown, hts⟩ hN hK hP hD hS hA [] [0] rfl rfl (by decide) (c_Box_floor l dC dI cI cD cZ H.size (FP.ddiv z side)) ⟨va_cnB 1 hts (gx_gg kw_399) rfl rfl rfl hN.2.2.1 (hts _ (List.mem_cons_of_mem _ kw_44)) (by decide +kernel) ⟨Nat.le_of_ble_eq_true rfl, Nat.le_of_ble_eq_true rfl⟩, (hts _ (List.mem_cons_of_mem _ kw_398)), trivial⟩ rfl hl.1 rfl (Nat.le_of_ble_eq_true rfl) d_Square_wrapped_11 ⟨Nat.le_of_ble_eq_true rfl, Nat.le_of_ble_eq_true rfl⟩ (fun r_2 u_3 H locs hw11 hP hD hS => ?_)
  try dsimp only at hw11 hP hD
  have hP : va_P (dC, dI) classes [(h0, .inr (7, [.double side, .double a, .double b, .double r2]))] H := hP
  have hD : va_D A [(h0, .inr (7, [.double side, .double a, .double b, .double r2]))] := hD
  obtain rfl : r_2 = pb_floor (FP.ddiv z side) := hw11
  have g_4 := pb_floor_I (g_1.w (by decide +kernel) (by decide +kernel))
  have g_5 := fp_I_mul (fp_d (-1) 1127) (fp_d 1 1127) hs.I g_4 (by decide +kernel)
  refine lv_dmul hx hb d_Square_wrapped_14 g_5.n ?_
  have g_6 := fp_I_sub (fp_d (-65) 1121) (fp_d 65 1121) hz g_5 (by decide +kernel)
  refine lv_dsub hx hb d_Square_wrapped_15 g_6.n ?_
  refine lv_dstore_n (lv' := [(3, .double (FP.dsub z (FP.dmul side (pb_floor (FP.ddiv z side))))), (0, .ref h0), (1, .double z)]) hx hb d_Square_wrapped_16 rfl hl (by decide) rfl (fun ls hl => ?_)
  refine lv_dload_n hx hb d_Square_wrapped_17 rfl (lv_at hl 0 rfl) ?_
  refine lv_aload_n hx hb d_Square_wrapped_18 rfl (lv_at hl 1 rfl) ?_
  refine va_get (D := (dC, dI)) (ci := 7) (v := .double side) (C := R_Square) (T := F_Square) (N := 4) hx hb hts (fun w h => List.mem_cons_of_mem _ (i_Square w h)) hown hK hP 0 rfl rfl 0 (by decide) (hts _ (List.mem_cons_of_mem _ kw_83)) (fun _ h9 => h9) rfl d_Square_wrapped_19 ?_
  refine gx_lt (tgt := 30) hx hb d_Square_wrapped_22 d_Square_wrapped_23 (by decide) (fun c22 => ?_) (fun c22 => ?_)
  · skip
    refine lv_dconst0 hx hb d_Square_wrapped_30 ?_
    have hP9 := hP.sub (ws' := [(h0, .inr (7, [.double side, .double a, .double b, .double r2]))]) [0] rfl
    have hD9 := hD.sub (ws' := [(h0, .inr (7, [.double side, .double a, .double b, .double r2]))]) [0] (by decide) rfl
    exact W.dret (v := FP.dconst0) hx hb hr (fun t ht hW => ⟨⟨FP.dconst0, (), rfl, (by unfold pb_wrap; rw [if_neg c22]), by rw [ht]; exact hP9, va_K.moved hW.alike hK, hD9⟩, hS.F ht⟩) hS.2.2 d_Square_wrapped_31
  · skip
    refine lv_dload_n hx hb d_Square_wrapped_26 rfl (lv_at hl 0 rfl) ?_
    refine lv_goto (tgt := 31) hx hb d_Square_wrapped_27 (by decide) ?_
    have hP9 := hP.sub (ws' := [(h0, .inr (7, [.double side, .double a, .double b, .double r2]))]) [0] rfl
    have hD9 := hD.sub (ws' := [(h0, .inr (7, [.double side, .double a, .double b, .double r2]))]) [0] (by decide) rfl
    exact W.dret (v := (FP.dsub z (FP.dmul side (pb_floor (FP.ddiv z side))))) hx hb hr (fun t ht hW => ⟨⟨(FP.dsub z (FP.dmul side (pb_floor (FP.ddiv z side)))), (), rfl, (by unfold pb_wrap; rw [if_pos c22]), by rw [ht]; exact hP9, va_K.moved hW.alike hK, hD9⟩, hS.F ht⟩) hS.2.2 d_Square_wrapped_31
set_option maxHeartbeats 4000000 in
set_option maxRecDepth 100000 in
/-- FROM (x1, y1) TO (x2, y2) -/
theorem c_Square_measure (l : Launch) (dC : Nat → ClassId) (dI : Nat → Nat → Nat) (cI cD cZ : ClassId) (sz : Nat) (h0 : Nat) (side : UInt64) (a : UInt64) (b : UInt64) (r2 : UInt64) (x1 : UInt64) (y1 : UInt64) (x2 : UInt64) (y2 : UInt64) (k : Int) (hs : pb_S side k) (hx1 : fp_I x1 (fp_d (-1) 1121) (fp_d 1 1121)) (hy1 : fp_I y1 (fp_d (-1) 1121) (fp_d 1 1121)) (hx2 : fp_I x2 (fp_d (-1) 1121) (fp_d 1 1121)) (hy2 : fp_I y2 (fp_d (-1) 1121) (fp_d 1 1121)) : Met l y_Square_measure w_Square_measure ({ frames := 1, cells := 0, slots := 0, locals := 23 }) (va_Pc [.ref h0, .double x1, .double y1, .double x2, .double y2] (gx_B (dC, dI) classes (gx_T cI cD cZ) [(h0, .inr (7, [.double side, .double a, .double b, .double r2]))] sz)) (va_Qv (fun (uu : Unit) => True) (fun (uu : Unit) t => gx_E (dC, dI) classes (gx_T cI cD cZ) (va_A [(h0, .inr (7, [.double side, .double a, .double b, .double r2]))] sz) [(h0, .inr (7, [.double side, .double (pb_near side (FP.dsub x2 x1)), .double (pb_near side (FP.dsub y2 y1)), .double (pb_r2 side x1 y1 x2 y2)]))] t) (va_A [(h0, .inr (7, [.double side, .double a, .double b, .double r2]))] sz)) 0 0 (va_A [(h0, .inr (7, [.double side, .double a, .double b, .double r2]))] sz) := by
  refine Met.ofW (cc := b_Square_measure) (maxL := 13) (ret := none) (by decide) rfl ?_
  intro p e s m args below meth c s₁ B hml hv
  obtain ⟨rfl, hsz, hP, hK, hD0, hN⟩ := hv
  have hx := B.exec
  have hb := B.bytes
  have hr := B.returns
  have hts := atoms_spec (ws := w_Square_measure) B.pre
  have hown : s.vm.findClass R_Square = some m.cls := findClass_of_methodNamed B.named
  have hlocks := B.notSynchronized
  subst hsz
  have hD := hD0.self (sz := s.heap.size)
  generalize hAe : va_A [(h0, .inr (7, [.double side, .double a, .double b, .double r2]))] s.heap.size = A at hD ⊢
  have hA : ∀ q : Nat, s.heap.size ≤ q → A q := fun q h => by rw [← hAe]; exact Or.inr h
  have hS : va_S A s.heap s.heap [] := va_S.rf
  have hl := lv_entry ([.ref h0, .double x1, .double y1, .double x2, .double y2]) (n := 13) (Nat.le_of_ble_eq_true rfl)
  rw [lg_entry_eq]
  generalize (lg_sl ([.ref h0, .double x1, .double y1, .double x2, .double y2]) ++ List.replicate (13 - (lg_sl ([.ref h0, .double x1, .double y1, .double x2, .double y2])).length) Slot.unset).toArray = ls at hl ⊢
  have hl : lv_has ls 13 [(0, .ref h0), (1, .double x1), (3, .double y1), (5, .double x2), (7, .double y2)] := hl
  obtain ⟨H, hH⟩ : ∃ H, H = s.heap := ⟨_, rfl⟩
  rw [← hH] at hP
  have hS : va_S A s.heap H [] := by rw [hH]; exact hS
  refine gx_start hH ?_
  refine lv_dload hx hb d_Square_measure_0 (lv_at hl 3 rfl) ?_
  refine lv_dload_n hx hb d_Square_measure_2 rfl (lv_at hl 1 rfl) ?_
  have g_1 := fp_I_sub (fp_d (-1) 1122) (fp_d 1 1122) hx2 hx1 (by decide +kernel)
  refine lv_dsub hx hb d_Square_measure_3 g_1.n ?_
  refine lv_dstore (lv' := [(9, .double (FP.dsub x2 x1)), (0, .ref h0), (1, .double x1), (3, .double y1), (5, .double x2), (7, .double y2)]) hx hb d_Square_measure_4 hl (by decide) rfl (fun ls hl => ?_)
  refine lv_dload hx hb d_Square_measure_6 (lv_at hl 5 rfl) ?_
  refine lv_dload_n hx hb d_Square_measure_8 rfl (lv_at hl 3 rfl) ?_
  have g_2 := fp_I_sub (fp_d (-1) 1122) (fp_d 1 1122) hy2 hy1 (by decide +kernel)
  refine lv_dsub hx hb d_Square_measure_9 g_2.n ?_
  refine lv_dstore (lv' := [(11, .double (FP.dsub y2 y1)), (9, .double (FP.dsub x2 x1)), (0, .ref h0), (1, .double x1), (3, .double y1), (5, .double x2), (7, .double y2)]) hx hb d_Square_measure_10 hl (by decide) rfl (fun ls hl => ?_)
  refine lv_aload_n hx hb d_Square_measure_12 rfl (lv_at hl 2 rfl) ?_
  refine lv_dload hx hb d_Square_measure_13 (lv_at hl 1 rfl) ?_
  refine lv_aload_n hx hb d_Square_measure_15 rfl (lv_at hl 2 rfl) ?_
  refine va_get (D := (dC, dI)) (ci := 7) (v := .double side) (C := R_Square) (T := F_Square) (N := 4) hx hb hts (fun w h => List.mem_cons_of_mem _ (i_Square w h)) hown hK hP 0 rfl rfl 0 (by decide) (hts _ (List.mem_cons_of_mem _ kw_83)) (fun _ h9 => h9) rfl d_Square_measure_16 ?_
  refine lv_dload hx hb d_Square_measure_19 (lv_at hl 1 rfl) ?_
  refine lv_aload_n hx hb d_Square_measure_21 rfl (lv_at hl 2 rfl) ?_
  refine va_get (D := (dC, dI)) (ci := 7) (v := .double side) (C := R_Square) (T := F_Square) (N := 4) hx hb hts (fun w h => List.mem_cons_of_mem _ (i_Square w h)) hown hK hP 0 rfl rfl 0 (by decide) (hts _ (List.mem_cons_of_mem _ kw_83)) (fun _ h9 => h9) rfl d_Square_measure_22 ?_
  have g_3 := fp_I_div (fp_d (-1) 1120) (fp_d 1 1120) g_1 hs.I (by decide +kernel)
  refine lv_ddiv hx hb d_Square_measure_25 g_3.n ?_
  refine lv_ldc2d (v := 4602678819172646912) hx hb hown (hts (.constantDouble R_Square 19 4602678819172646912) (by decide +kernel)) d_Square_measure_26 ?_
  have g_4 := fp_const (a := 4602678819172646912) (T := (fp_d 1 1073)) (by decide +kernel)
  have g_5 := fp_I_add (fp_d (-1) 1120) (fp_d 8388609 1097) g_3 g_4 (by decide +kernel)
  refine lv_dadd hx hb d_Square_measure_29 g_5.n ?_
  refine gx_SNd (st0 := [.double (FP.dadd (FP.ddiv (FP.dsub x2 x1) side) 4602678819172646912), .double side, .double (FP.dsub x2 x1), .ref h0]) (As := [.double (FP.dadd (FP.ddiv (FP.dsub x2 x1) side) 4602678819172646912)]) (rest := [.double side, .double (FP.dsub x2 x1), .ref h0]) (wr := [(h0, .inr (7, [.double side, .double a, .double b, .double r2]))]) ⟨hx, hb, hml, hown, hts⟩ hN hK hP hD hS hA [] [0] rfl rfl (by decide) (c_Box_floor l dC dI cI cD cZ H.size (FP.dadd (FP.ddiv (FP.dsub x2 x1) side) 4602678819172646912)) ⟨va_cnB 1 hts (gx_gg kw_399) rfl rfl rfl hN.2.2.1 (hts _ (List.mem_cons_of_mem _ kw_44)) (by decide +kernel) ⟨Nat.le_of_ble_eq_true rfl, Nat.le_of_ble_eq_true rfl⟩, (hts _ (List.mem_cons_of_mem _ kw_398)), trivial⟩ rfl hl.1 rfl (Nat.le_of_ble_eq_true rfl) d_Square_measure_30 ⟨Nat.le_of_ble_eq_true rfl, Nat.le_of_ble_eq_true rfl⟩ (fun r_6 u_7 H locs hw30 hP hD hS => ?_)
  try dsimp only at hw30 hP hD
  have hP : va_P (dC, dI) classes [(h0, .inr (7, [.double side, .double a, .double b, .double r2]))] H := hP
  have hD : va_D A [(h0, .inr (7, [.double side, .double a, .double b, .double r2]))] := hD
  obtain rfl : r_6 = pb_floor (FP.dadd (FP.ddiv (FP.dsub x2 x1) side) 4602678819172646912) := hw30
  have g_8 := pb_floor_I (g_5.w (by decide +kernel) (by decide +kernel))
  have g_9 := fp_I_mul (fp_d (-1) 1127) (fp_d 1 1127) hs.I g_8 (by decide +kernel)
  refine lv_dmul hx hb d_Square_measure_33 g_9.n ?_
  have g_10 := fp_I_sub (fp_d (-33) 1122) (fp_d 33 1122) g_1 g_9 (by decide +kernel)
  refine lv_dsub hx hb d_Square_measure_34 g_10.n ?_
  refine va_put (D := (dC, dI)) (ci := 7) (v := .double (FP.dsub (FP.dsub x2 x1) (FP.dmul side (pb_floor (FP.dadd (FP.ddiv (FP.dsub x2 x1) side) 4602678819172646912))))) (ty := .double) (C := R_Square) (T := F_Square) (N := 4) hx hb hts (fun w h => List.mem_cons_of_mem _ (i_Square w h)) t_Square t_Square_ok n_Square hown hK hP hD hS 0 rfl rfl 1 (by decide) (hts _ (List.mem_cons_of_mem _ kw_86)) (fun _ h9 => h9) rfl (by decide +kernel) rfl rfl (Nat.le_of_ble_eq_true rfl) d_Square_measure_35 (fun H locs hP hD hS => ?_)
  have hP : va_P (dC, dI) classes [(h0, .inr (7, [.double side, .double (FP.dsub (FP.dsub x2 x1) (FP.dmul side (pb_floor (FP.dadd (FP.ddiv (FP.dsub x2 x1) side) 4602678819172646912)))), .double b, .double r2]))] H := hP
  have hD : va_D A [(h0, .inr (7, [.double side, .double (FP.dsub (FP.dsub x2 x1) (FP.dmul side (pb_floor (FP.dadd (FP.ddiv (FP.dsub x2 x1) side) 4602678819172646912)))), .double b, .double r2]))] := hD
  refine lv_aload_n hx hb d_Square_measure_38 rfl (lv_at hl 2 rfl) ?_
  refine lv_dload hx hb d_Square_measure_39 (lv_at hl 0 rfl) ?_
  refine lv_aload_n hx hb d_Square_measure_41 rfl (lv_at hl 2 rfl) ?_
  refine va_get (D := (dC, dI)) (ci := 7) (v := .double side) (C := R_Square) (T := F_Square) (N := 4) hx hb hts (fun w h => List.mem_cons_of_mem _ (i_Square w h)) hown hK hP 0 rfl rfl 0 (by decide) (hts _ (List.mem_cons_of_mem _ kw_83)) (fun _ h9 => h9) rfl d_Square_measure_42 ?_
  refine lv_dload hx hb d_Square_measure_45 (lv_at hl 0 rfl) ?_
  refine lv_aload_n hx hb d_Square_measure_47 rfl (lv_at hl 2 rfl) ?_
  refine va_get (D := (dC, dI)) (ci := 7) (v := .double side) (C := R_Square) (T := F_Square) (N := 4) hx hb hts (fun w h => List.mem_cons_of_mem _ (i_Square w h)) hown hK hP 0 rfl rfl 0 (by decide) (hts _ (List.mem_cons_of_mem _ kw_83)) (fun _ h9 => h9) rfl d_Square_measure_48 ?_
  have g_11 := fp_I_div (fp_d (-1) 1120) (fp_d 1 1120) g_2 hs.I (by decide +kernel)
  refine lv_ddiv hx hb d_Square_measure_51 g_11.n ?_
  refine lv_ldc2d (v := 4602678819172646912) hx hb hown (hts (.constantDouble R_Square 19 4602678819172646912) (by decide +kernel)) d_Square_measure_52 ?_
  have g_12 := fp_I_add (fp_d (-1) 1120) (fp_d 8388609 1097) g_11 g_4 (by decide +kernel)
  refine lv_dadd hx hb d_Square_measure_55 g_12.n ?_
  refine gx_SNd (st0 := [.double (FP.dadd (FP.ddiv (FP.dsub y2 y1) side) 4602678819172646912), .double side, .double (FP.dsub y2 y1), .ref h0]) (As := [.double (FP.dadd (FP.ddiv (FP.dsub y2 y1) side) 4602678819172646912)]) (rest := [.double side, .double (FP.dsub y2 y1), .ref h0]) (wr := [(h0, .inr (7, [.double side, .double (FP.dsub (FP.dsub x2 x1) (FP.dmul side (pb_floor (FP.dadd (FP.ddiv (FP.dsub x2 x1) side) 4602678819172646912)))), .double b, .double r2]))]) ⟨hx, hb, hml, hown, hts⟩ hN hK hP hD hS hA [] [0] rfl rfl (by decide) (c_Box_floor l dC dI cI cD cZ H.size (FP.dadd (FP.ddiv (FP.dsub y2 y1) side) 4602678819172646912)) ⟨va_cnB 1 hts (gx_gg kw_399) rfl rfl rfl hN.2.2.1 (hts _ (List.mem_cons_of_mem _ kw_44)) (by decide +kernel) ⟨Nat.le_of_ble_eq_true rfl, Nat.le_of_ble_eq_true rfl⟩, (hts _ (List.mem_cons_of_mem _ kw_398)), trivial⟩ rfl hl.1 rfl (Nat.le_of_ble_eq_true rfl) d_Square_measure_56 ⟨Nat.le_of_ble_eq_true rfl, Nat.le_of_ble_eq_true rfl⟩ (fun r_13 u_14 H locs hw56 hP hD hS => ?_)
  try dsimp only at hw56 hP hD
  have hP : va_P (dC, dI) classes [(h0, .inr (7, [.double side, .double (FP.dsub (FP.dsub x2 x1) (FP.dmul side (pb_floor (FP.dadd (FP.ddiv (FP.dsub x2 x1) side) 4602678819172646912)))), .double b, .double r2]))] H := hP
  have hD : va_D A [(h0, .inr (7, [.double side, .double (FP.dsub (FP.dsub x2 x1) (FP.dmul side (pb_floor (FP.dadd (FP.ddiv (FP.dsub x2 x1) side) 4602678819172646912)))), .double b, .double r2]))] := hD
  obtain rfl : r_13 = pb_floor (FP.dadd (FP.ddiv (FP.dsub y2 y1) side) 4602678819172646912) := hw56
  have g_15 := pb_floor_I (g_12.w (by decide +kernel) (by decide +kernel))
  have g_16 := fp_I_mul (fp_d (-1) 1127) (fp_d 1 1127) hs.I g_15 (by decide +kernel)
  refine lv_dmul hx hb d_Square_measure_59 g_16.n ?_
  have g_17 := fp_I_sub (fp_d (-33) 1122) (fp_d 33 1122) g_2 g_16 (by decide +kernel)
  refine lv_dsub hx hb d_Square_measure_60 g_17.n ?_
  refine va_put (D := (dC, dI)) (ci := 7) (v := .double (FP.dsub (FP.dsub y2 y1) (FP.dmul side (pb_floor (FP.dadd (FP.ddiv (FP.dsub y2 y1) side) 4602678819172646912))))) (ty := .double) (C := R_Square) (T := F_Square) (N := 4) hx hb hts (fun w h => List.mem_cons_of_mem _ (i_Square w h)) t_Square t_Square_ok n_Square hown hK hP hD hS 0 rfl rfl 2 (by decide) (hts _ (List.mem_cons_of_mem _ kw_89)) (fun _ h9 => h9) rfl (by decide +kernel) rfl rfl (Nat.le_of_ble_eq_true rfl) d_Square_measure_61 (fun H locs hP hD hS => ?_)
  have hP : va_P (dC, dI) classes [(h0, .inr (7, [.double side, .double (FP.dsub (FP.dsub x2 x1) (FP.dmul side (pb_floor (FP.dadd (FP.ddiv (FP.dsub x2 x1) side) 4602678819172646912)))), .double (FP.dsub (FP.dsub y2 y1) (FP.dmul side (pb_floor (FP.dadd (FP.ddiv (FP.dsub y2 y1) side) 4602678819172646912)))), .double r2]))] H := hP
  have hD : va_D A [(h0, .inr (7, [.double side, .double (FP.dsub (FP.dsub x2 x1) (FP.dmul side (pb_floor (FP.dadd (FP.ddiv (FP.dsub x2 x1) side) 4602678819172646912)))), .double (FP.dsub (FP.dsub y2 y1) (FP.dmul side (pb_floor (FP.dadd (FP.ddiv (FP.dsub y2 y1) side) 4602678819172646912)))), .double r2]))] := hD
  refine lv_aload_n hx hb d_Square_measure_64 rfl (lv_at hl 2 rfl) ?_
  refine lv_aload_n hx hb d_Square_measure_65 rfl (lv_at hl 2 rfl) ?_
  refine va_get (D := (dC, dI)) (ci := 7) (v := .double (FP.dsub (FP.dsub x2 x1) (FP.dmul side (pb_floor (FP.dadd (FP.ddiv (FP.dsub x2 x1) side) 4602678819172646912))))) (C := R_Square) (T := F_Square) (N := 4) hx hb hts (fun w h => List.mem_cons_of_mem _ (i_Square w h)) hown hK hP 0 rfl rfl 1 (by decide) (hts _ (List.mem_cons_of_mem _ kw_86)) (fun _ h9 => h9) rfl d_Square_measure_66 ?_
  refine lv_aload_n hx hb d_Square_measure_69 rfl (lv_at hl 2 rfl) ?_
  refine va_get (D := (dC, dI)) (ci := 7) (v := .double (FP.dsub (FP.dsub x2 x1) (FP.dmul side (pb_floor (FP.dadd (FP.ddiv (FP.dsub x2 x1) side) 4602678819172646912))))) (C := R_Square) (T := F_Square) (N := 4) hx hb hts (fun w h => List.mem_cons_of_mem _ (i_Square w h)) hown hK hP 0 rfl rfl 1 (by decide) (hts _ (List.mem_cons_of_mem _ kw_86)) (fun _ h9 => h9) rfl d_Square_measure_70 ?_
  have g_18 := fp_I_sq (fp_d 1089 1170) g_10 (by decide +kernel)
  refine lv_dmul hx hb d_Square_measure_73 g_18.n ?_
  refine lv_aload_n hx hb d_Square_measure_74 rfl (lv_at hl 2 rfl) ?_
  refine va_get (D := (dC, dI)) (ci := 7) (v := .double (FP.dsub (FP.dsub y2 y1) (FP.dmul side (pb_floor (FP.dadd (FP.ddiv (FP.dsub y2 y1) side) 4602678819172646912))))) (C := R_Square) (T := F_Square) (N := 4) hx hb hts (fun w h => List.mem_cons_of_mem _ (i_Square w h)) hown hK hP 0 rfl rfl 2 (by decide) (hts _ (List.mem_cons_of_mem _ kw_89)) (fun _ h9 => h9) rfl d_Square_measure_75 ?_
  refine lv_aload_n hx hb d_Square_measure_78 rfl (lv_at hl 2 rfl) ?_
  refine va_get (D := (dC, dI)) (ci := 7) (v := .double (FP.dsub (FP.dsub y2 y1) (FP.dmul side (pb_floor (FP.dadd (FP.ddiv (FP.dsub y2 y1) side) 4602678819172646912))))) (C := R_Square) (T := F_Square) (N := 4) hx hb hts (fun w h => List.mem_cons_of_mem _ (i_Square w h)) hown hK hP 0 rfl rfl 2 (by decide) (hts _ (List.mem_cons_of_mem _ kw_89)) (fun _ h9 => h9) rfl d_Square_measure_79 ?_
  have g_19 := fp_I_sq (fp_d 1089 1170) g_17 (by decide +kernel)
  refine lv_dmul hx hb d_Square_measure_82 g_19.n ?_
  have g_20 := fp_I_add (fp_d 0 0) (fp_d 1089 1171) g_18 g_19 (by decide +kernel)
  refine lv_dadd hx hb d_Square_measure_83 g_20.n ?_
  refine va_put (D := (dC, dI)) (ci := 7) (v := .double (FP.dadd (FP.dmul (FP.dsub (FP.dsub x2 x1) (FP.dmul side (pb_floor (FP.dadd (FP.ddiv (FP.dsub x2 x1) side) 4602678819172646912)))) (FP.dsub (FP.dsub x2 x1) (FP.dmul side (pb_floor (FP.dadd (FP.ddiv (FP.dsub x2 x1) side) 4602678819172646912))))) (FP.dmul (FP.dsub (FP.dsub y2 y1) (FP.dmul side (pb_floor (FP.dadd (FP.ddiv (FP.dsub y2 y1) side) 4602678819172646912)))) (FP.dsub (FP.dsub y2 y1) (FP.dmul side (pb_floor (FP.dadd (FP.ddiv (FP.dsub y2 y1) side) 4602678819172646912))))))) (ty := .double) (C := R_Square) (T := F_Square) (N := 4) hx hb hts (fun w h => List.mem_cons_of_mem _ (i_Square w h)) t_Square t_Square_ok n_Square hown hK hP hD hS 0 rfl rfl 3 (by decide) (hts _ (List.mem_cons_of_mem _ kw_94)) (fun _ h9 => h9) rfl (by decide +kernel) rfl rfl (Nat.le_of_ble_eq_true rfl) d_Square_measure_84 (fun H locs hP hD hS => ?_)
  have hP : va_P (dC, dI) classes [(h0, .inr (7, [.double side, .double (FP.dsub (FP.dsub x2 x1) (FP.dmul side (pb_floor (FP.dadd (FP.ddiv (FP.dsub x2 x1) side) 4602678819172646912)))), .double (FP.dsub (FP.dsub y2 y1) (FP.dmul side (pb_floor (FP.dadd (FP.ddiv (FP.dsub y2 y1) side) 4602678819172646912)))), .double (FP.dadd (FP.dmul (FP.dsub (FP.dsub x2 x1) (FP.dmul side (pb_floor (FP.dadd (FP.ddiv (FP.dsub x2 x1) side) 4602678819172646912)))) (FP.dsub (FP.dsub x2 x1) (FP.dmul side (pb_floor (FP.dadd (FP.ddiv (FP.dsub x2 x1) side) 4602678819172646912))))) (FP.dmul (FP.dsub (FP.dsub y2 y1) (FP.dmul side (pb_floor (FP.dadd (FP.ddiv (FP.dsub y2 y1) side) 4602678819172646912)))) (FP.dsub (FP.dsub y2 y1) (FP.dmul side (pb_floor (FP.dadd (FP.ddiv (FP.dsub y2 y1) side) 4602678819172646912))))))]))] H := hP
  have hD : va_D A [(h0, .inr (7, [.double side, .double (FP.dsub (FP.dsub x2 x1) (FP.dmul side (pb_floor (FP.dadd (FP.ddiv (FP.dsub x2 x1) side) 4602678819172646912)))), .double (FP.dsub (FP.dsub y2 y1) (FP.dmul side (pb_floor (FP.dadd (FP.ddiv (FP.dsub y2 y1) side) 4602678819172646912)))), .double (FP.dadd (FP.dmul (FP.dsub (FP.dsub x2 x1) (FP.dmul side (pb_floor (FP.dadd (FP.ddiv (FP.dsub x2 x1) side) 4602678819172646912)))) (FP.dsub (FP.dsub x2 x1) (FP.dmul side (pb_floor (FP.dadd (FP.ddiv (FP.dsub x2 x1) side) 4602678819172646912))))) (FP.dmul (FP.dsub (FP.dsub y2 y1) (FP.dmul side (pb_floor (FP.dadd (FP.ddiv (FP.dsub y2 y1) side) 4602678819172646912)))) (FP.dsub (FP.dsub y2 y1) (FP.dmul side (pb_floor (FP.dadd (FP.ddiv (FP.dsub y2 y1) side) 4602678819172646912))))))]))] := hD
  have hP9 := hP.sub (ws' := [(h0, .inr (7, [.double side, .double (pb_near side (FP.dsub x2 x1)), .double (pb_near side (FP.dsub y2 y1)), .double (pb_r2 side x1 y1 x2 y2)]))]) [0] rfl
  have hD9 := hD.sub (ws' := [(h0, .inr (7, [.double side, .double (pb_near side (FP.dsub x2 x1)), .double (pb_near side (FP.dsub y2 y1)), .double (pb_r2 side x1 y1 x2 y2)]))]) [0] (by decide) rfl
  exact W.vret hx hb hr (fun t ht hW => ⟨⟨(), rfl, trivial, by rw [ht]; exact hP9, va_K.moved hW.alike hK, hD9⟩, hS.F ht⟩) hS.2.2 d_Square_measure_87
