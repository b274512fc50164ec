theorem d_Links_isFull_0 : decode b_Links_isFull 0 = .ok (.aload_n 0, 1) := by decide +kernel
theorem d_Links_isFull_1 : decode b_Links_isFull 1 = .ok (.getfield 23, 3) := by decide +kernel
theorem d_Links_isFull_4 : decode b_Links_isFull 4 = .ok (.aload_n 0, 1) := by decide +kernel
theorem d_Links_isFull_5 : decode b_Links_isFull 5 = .ok (.getfield 7, 3) := by decide +kernel
theorem d_Links_isFull_8 : decode b_Links_isFull 8 = .ok (.arraylength, 1) := by decide +kernel
theorem d_Links_isFull_9 : decode b_Links_isFull 9 = .ok (.if_icmp .lt 7, 3) := by decide +kernel
theorem d_Links_isFull_12 : decode b_Links_isFull 12 = .ok (.iconst 1, 1) := by decide +kernel
theorem d_Links_isFull_13 : decode b_Links_isFull 13 = .ok (.goto 4, 3) := by decide +kernel
theorem d_Links_isFull_16 : decode b_Links_isFull 16 = .ok (.iconst 0, 1) := by decide +kernel
theorem d_Links_isFull_17 : decode b_Links_isFull 17 = .ok (.ireturn, 1) := by decide +kernel
theorem d_Links_add_0 : decode b_Links_add 0 = .ok (.aload_n 0, 1) := by decide +kernel
theorem d_Links_add_1 : decode b_Links_add 1 = .ok (.getfield 7, 3) := by decide +kernel
theorem d_Links_add_4 : decode b_Links_add 4 = .ok (.aload_n 0, 1) := by decide +kernel
theorem d_Links_add_5 : decode b_Links_add 5 = .ok (.getfield 23, 3) := by decide +kernel
theorem d_Links_add_8 : decode b_Links_add 8 = .ok (.iload_n 1, 1) := by decide +kernel
theorem d_Links_add_9 : decode b_Links_add 9 = .ok (.iastore, 1) := by decide +kernel
theorem d_Links_add_10 : decode b_Links_add 10 = .ok (.aload_n 0, 1) := by decide +kernel
theorem d_Links_add_11 : decode b_Links_add 11 = .ok (.getfield 13, 3) := by decide +kernel
theorem d_Links_add_14 : decode b_Links_add 14 = .ok (.aload_n 0, 1) := by decide +kernel
theorem d_Links_add_15 : decode b_Links_add 15 = .ok (.getfield 23, 3) := by decide +kernel
theorem d_Links_add_18 : decode b_Links_add 18 = .ok (.iload_n 2, 1) := by decide +kernel
theorem d_Links_add_19 : decode b_Links_add 19 = .ok (.iastore, 1) := by decide +kernel
theorem d_Links_add_20 : decode b_Links_add 20 = .ok (.aload_n 0, 1) := by decide +kernel
theorem d_Links_add_21 : decode b_Links_add 21 = .ok (.getfield 16, 3) := by decide +kernel
theorem d_Links_add_24 : decode b_Links_add 24 = .ok (.aload_n 0, 1) := by decide +kernel
theorem d_Links_add_25 : decode b_Links_add 25 = .ok (.getfield 23, 3) := by decide +kernel
theorem d_Links_add_28 : decode b_Links_add 28 = .ok (.dload_n 3, 1) := by decide +kernel
theorem d_Links_add_29 : decode b_Links_add 29 = .ok (.dastore, 1) := by decide +kernel
theorem d_Links_add_30 : decode b_Links_add 30 = .ok (.aload_n 0, 1) := by decide +kernel
theorem d_Links_add_31 : decode b_Links_add 31 = .ok (.getfield 20, 3) := by decide +kernel
theorem d_Links_add_34 : decode b_Links_add 34 = .ok (.aload_n 0, 1) := by decide +kernel
theorem d_Links_add_35 : decode b_Links_add 35 = .ok (.getfield 23, 3) := by decide +kernel
theorem d_Links_add_38 : decode b_Links_add 38 = .ok (.dload 5, 2) := by decide +kernel
theorem d_Links_add_40 : decode b_Links_add 40 = .ok (.dastore, 1) := by decide +kernel
theorem d_Links_add_41 : decode b_Links_add 41 = .ok (.aload_n 0, 1) := by decide +kernel
theorem d_Links_add_42 : decode b_Links_add 42 = .ok (.dup, 1) := by decide +kernel
theorem d_Links_add_43 : decode b_Links_add 43 = .ok (.getfield 23, 3) := by decide +kernel
theorem d_Links_add_46 : decode b_Links_add 46 = .ok (.iconst 1, 1) := by decide +kernel
theorem d_Links_add_47 : decode b_Links_add 47 = .ok (.iadd, 1) := by decide +kernel
theorem d_Links_add_48 : decode b_Links_add 48 = .ok (.putfield 23, 3) := by decide +kernel
theorem d_Links_add_51 : decode b_Links_add 51 = .ok (.aload_n 0, 1) := by decide +kernel
theorem d_Links_add_52 : decode b_Links_add 52 = .ok (.getfield 23, 3) := by decide +kernel
theorem d_Links_add_55 : decode b_Links_add 55 = .ok (.ireturn, 1) := by decide +kernel
set_option maxHeartbeats 4000000 in
set_option maxRecDepth 100000 in
/-- isFull -/
theorem c_Links_isFull (l : Launch) (dC : Nat → ClassId) (dI : Nat → Nat → Nat) (cI cD cZ : ClassId) (sz : Nat) (hl0 : Nat) (hlf : Nat) (hls : Nat) (hlk : Nat) (hll : Nat) (first : Nat → Int32) (second : Nat → Int32) (strength : Nat → UInt64) (len : Nat → UInt64) (nl : Nat) (most : Nat) (hm : most ≤ 8) (hn : nl ≤ most) : Met l y_Links_isFull w_Links_isFull ({ frames := 0, cells := 0, slots := 0, locals := 0 }) (va_Pc [.ref hl0] (gx_B (dC, dI) classes (gx_T cI cD cZ) [(hl0, .inr (1, [.ref hlf, .ref hls, .ref hlk, .ref hll, .int (nI nl)])), (hlf, .inl (cI, most, .inl first)), (hls, .inl (cI, most, .inl second)), (hlk, .inl (cD, most, .inr (.inr (.inr (.inl strength))))), (hll, .inl (cD, most, .inr (.inr (.inr (.inl len)))))] sz)) (va_Qi (fun (rr : Int32) (uu : Unit) => rr = pb_b (most ≤ nl)) (fun (uu : Unit) t => gx_E (dC, dI) classes (gx_T cI cD cZ) (va_A [(hl0, .inr (1, [.ref hlf, .ref hls, .ref hlk, .ref hll, .int (nI nl)])), (hlf, .inl (cI, most, .inl first)), (hls, .inl (cI, most, .inl second)), (hlk, .inl (cD, most, .inr (.inr (.inr (.inl strength))))), (hll, .inl (cD, most, .inr (.inr (.inr (.inl len)))))] sz) [(hl0, .inr (1, [.ref hlf, .ref hls, .ref hlk, .ref hll, .int (nI nl)])), (hlf, .inl (cI, most, .inl first)), (hls, .inl (cI, most, .inl second)), (hlk, .inl (cD, most, .inr (.inr (.inr (.inl strength))))), (hll, .inl (cD, most, .inr (.inr (.inr (.inl len)))))] t) (va_A [(hl0, .inr (1, [.ref hlf, .ref hls, .ref hlk, .ref hll, .int (nI nl)])), (hlf, .inl (cI, most, .inl first)), (hls, .inl (cI, most, .inl second)), (hlk, .inl (cD, most, .inr (.inr (.inr (.inl strength))))), (hll, .inl (cD, most, .inr (.inr (.inr (.inl len)))))] sz)) 0 0 (va_A [(hl0, .inr (1, [.ref hlf, .ref hls, .ref hlk, .ref hll, .int (nI nl)])), (hlf, .inl (cI, most, .inl first)), (hls, .inl (cI, most, .inl second)), (hlk, .inl (cD, most, .inr (.inr (.inr (.inl strength))))), (hll, .inl (cD, most, .inr (.inr (.inr (.inl len)))))] sz) := by
  refine Met.ofW (cc := b_Links_isFull) (maxL := 1) (ret := (some .boolean)) (by decide) rfl ?_
  intro p e s m args below meth c s₁ B hml hv
  obtain ⟨rfl, hsz, hP, hK, hD0, hN⟩ := hv
  have hx := B.exec
  have hb := B.bytes
  have hr := B.returns
  have hts := atoms_spec (ws := w_Links_isFull) B.pre
  have hown : s.vm.findClass R_Links = some m.cls := findClass_of_methodNamed B.named
  have hlocks := B.notSynchronized
  subst hsz
  have hD := hD0.self (sz := s.heap.size)
  generalize hAe : va_A [(hl0, .inr (1, [.ref hlf, .ref hls, .ref hlk, .ref hll, .int (nI nl)])), (hlf, .inl (cI, most, .inl first)), (hls, .inl (cI, most, .inl second)), (hlk, .inl (cD, most, .inr (.inr (.inr (.inl strength))))), (hll, .inl (cD, most, .inr (.inr (.inr (.inl len)))))] s.heap.size = A at hD ⊢
  have hA : ∀ q : Nat, s.heap.size ≤ q → A q := fun q h => by rw [← hAe]; exact Or.inr h
  have hS : va_S A s.heap s.heap [] := va_S.rf
  have hl := lv_entry ([.ref hl0]) (n := 1) (Nat.le_of_ble_eq_true rfl)
  rw [lg_entry_eq]
  generalize (lg_sl ([.ref hl0]) ++ List.replicate (1 - (lg_sl ([.ref hl0])).length) Slot.unset).toArray = ls at hl ⊢
  have hl : lv_has ls 1 [(0, .ref hl0)] := hl
  obtain ⟨H, hH⟩ : ∃ H, H = s.heap := ⟨_, rfl⟩
  rw [← hH] at hP
  have hS : va_S A s.heap H [] := by rw [hH]; exact hS
  refine gx_start hH ?_
  refine lv_aload_n hx hb d_Links_isFull_0 rfl (lv_at hl 0 rfl) ?_
  refine va_get (D := (dC, dI)) (ci := 1) (v := .int (nI nl)) (C := R_Links) (T := F_Links) (N := 5) hx hb hts (fun w h => List.mem_cons_of_mem _ (i_Links w h)) hown hK hP 0 rfl rfl 4 (by decide) (hts _ (List.mem_cons_of_mem _ kw_202)) (fun _ h9 => h9) rfl d_Links_isFull_1 ?_
  refine lv_aload_n hx hb d_Links_isFull_4 rfl (lv_at hl 0 rfl) ?_
  refine va_get (D := (dC, dI)) (ci := 1) (v := .ref hlf) (C := R_Links) (T := F_Links) (N := 5) hx hb hts (fun w h => List.mem_cons_of_mem _ (i_Links w h)) hown hK hP 0 rfl rfl 0 (by decide) (hts _ (List.mem_cons_of_mem _ kw_191)) (fun _ h9 => h9) rfl d_Links_isFull_5 ?_
  refine va_alen (v := nI most) hx hb hK hP 1 0 rfl rfl rfl d_Links_isFull_8 ?_
  refine lv_icmp_lt (tgt := 16) hx hb d_Links_isFull_9 (by decide) (fun c9 => ?_) (fun c9 => ?_)
  · skip
    have c9 : nl < most := (nI_ltI (a := nl) (b := most) (by omega) (by omega)).mp c9
    refine lv_iconst (v := 0) hx hb d_Links_isFull_16 (by decide) ?_
    have hP9 := hP.sub (ws' := [(hl0, .inr (1, [.ref hlf, .ref hls, .ref hlk, .ref hll, .int (nI nl)])), (hlf, .inl (cI, most, .inl first)), (hls, .inl (cI, most, .inl second)), (hlk, .inl (cD, most, .inr (.inr (.inr (.inl strength))))), (hll, .inl (cD, most, .inr (.inr (.inr (.inl len)))))]) [0, 1, 2, 3, 4] rfl
    have hD9 := hD.sub (ws' := [(hl0, .inr (1, [.ref hlf, .ref hls, .ref hlk, .ref hll, .int (nI nl)])), (hlf, .inl (cI, most, .inl first)), (hls, .inl (cI, most, .inl second)), (hlk, .inl (cD, most, .inr (.inr (.inr (.inl strength))))), (hll, .inl (cD, most, .inr (.inr (.inr (.inl len)))))]) [0, 1, 2, 3, 4] (by decide) rfl
    exact W.zret (v := 0) hx hb hr rfl (fun t ht hW => ⟨⟨0, (), rfl, (pb_b_f (by omega)).symm, by rw [ht]; exact hP9, va_K.moved hW.alike hK, hD9⟩, hS.F ht⟩) hS.2.2 d_Links_isFull_17
  · skip
    have c9 : ¬ nl < most := fun h => c9 ((nI_ltI (a := nl) (b := most) (by omega) (by omega)).mpr h)
    refine lv_iconst (v := 1) hx hb d_Links_isFull_12 (by decide) ?_
    refine lv_goto (tgt := 17) hx hb d_Links_isFull_13 (by decide) ?_
    have hP9 := hP.sub (ws' := [(hl0, .inr (1, [.ref hlf, .ref hls, .ref hlk, .ref hll, .int (nI nl)])), (hlf, .inl (cI, most, .inl first)), (hls, .inl (cI, most, .inl second)), (hlk, .inl (cD, most, .inr (.inr (.inr (.inl strength))))), (hll, .inl (cD, most, .inr (.inr (.inr (.inl len)))))]) [0, 1, 2, 3, 4] rfl
    have hD9 := hD.sub (ws' := [(hl0, .inr (1, [.ref hlf, .ref hls, .ref hlk, .ref hll, .int (nI nl)])), (hlf, .inl (cI, most, .inl first)), (hls, .inl (cI, most, .inl second)), (hlk, .inl (cD, most, .inr (.inr (.inr (.inl strength))))), (hll, .inl (cD, most, .inr (.inr (.inr (.inl len)))))]) [0, 1, 2, 3, 4] (by decide) rfl
    exact W.zret (v := 1) hx hb hr rfl (fun t ht hW => ⟨⟨1, (), rfl, (pb_b_t (by omega)).symm, by rw [ht]; exact hP9, va_K.moved hW.alike hK, hD9⟩, hS.F ht⟩) hS.2.2 d_Links_isFull_17
set_option maxHeartbeats 4000000 in
set_option maxRecDepth 100000 in
/-- a new link -/
theorem c_Links_add (l : Launch) (dC : Nat → ClassId) (dI : Nat → Nat → Nat) (cI cD cZ : ClassId) (sz : Nat) (hl0 : Nat) (hlf : Nat) (hls : Nat) (hlk : Nat) (hll : Nat) (first : Nat → Int32) (second : Nat → Int32) (strength : Nat → UInt64) (len : Nat → UInt64) (nl : Nat) (most : Nat) (i0 : Int32) (j0 : Int32) (k0 : UInt64) (l0 : UInt64) (hm : most ≤ 8) (hn : nl < most) : Met l y_Links_add w_Links_add ({ frames := 0, cells := 0, slots := 0, locals := 0 }) (va_Pc [.ref hl0, .int i0, .int j0, .double k0, .double l0] (gx_B (dC, dI) classes (gx_T cI cD cZ) [(hl0, .inr (1, [.ref hlf, .ref hls, .ref hlk, .ref hll, .int (nI nl)])), (hlf, .inl (cI, most, .inl first)), (hls, .inl (cI, most, .inl second)), (hlk, .inl (cD, most, .inr (.inr (.inr (.inl strength))))), (hll, .inl (cD, most, .inr (.inr (.inr (.inl len)))))] sz)) (va_Qi (fun (rr : Int32) (uu : Unit) => rr = nI (nl + 1)) (fun (uu : Unit) t => gx_E (dC, dI) classes (gx_T cI cD cZ) (va_A [(hl0, .inr (1, [.ref hlf, .ref hls, .ref hlk, .ref hll, .int (nI nl)])), (hlf, .inl (cI, most, .inl first)), (hls, .inl (cI, most, .inl second)), (hlk, .inl (cD, most, .inr (.inr (.inr (.inl strength))))), (hll, .inl (cD, most, .inr (.inr (.inr (.inl len)))))] sz) [(hl0, .inr (1, [.ref hlf, .ref hls, .ref hlk, .ref hll, .int (nI (nl + 1))])), (hlf, .inl (cI, most, .inl (upd first nl i0))), (hls, .inl (cI, most, .inl (upd second nl j0))), (hlk, .inl (cD, most, .inr (.inr (.inr (.inl (vf_upd strength nl k0)))))), (hll, .inl (cD, most, .inr (.inr (.inr (.inl (vf_upd len nl l0))))))] t) (va_A [(hl0, .inr (1, [.ref hlf, .ref hls, .ref hlk, .ref hll, .int (nI nl)])), (hlf, .inl (cI, most, .inl first)), (hls, .inl (cI, most, .inl second)), (hlk, .inl (cD, most, .inr (.inr (.inr (.inl strength))))), (hll, .inl (cD, most, .inr (.inr (.inr (.inl len)))))] sz)) 0 0 (va_A [(hl0, .inr (1, [.ref hlf, .ref hls, .ref hlk, .ref hll, .int (nI nl)])), (hlf, .inl (cI, most, .inl first)), (hls, .inl (cI, most, .inl second)), (hlk, .inl (cD, most, .inr (.inr (.inr (.inl strength))))), (hll, .inl (cD, most, .inr (.inr (.inr (.inl len)))))] sz) := by
  refine Met.ofW (cc := b_Links_add) (maxL := 7) (ret := (some .int)) (by decide) rfl ?_
  intro p e s m args below meth c s₁ B hml hv
  obtain ⟨rfl, hsz, hP, hK, hD0, hN⟩ := hv
  have hx := B.exec
  have hb := B.bytes
  have hr := B.returns
  have hts := atoms_spec (ws := w_Links_add) B.pre
  have hown : s.vm.findClass R_Links = some m.cls := findClass_of_methodNamed B.named
  have hlocks := B.notSynchronized
  subst hsz
  have hD := hD0.self (sz := s.heap.size)
  generalize hAe : va_A [(hl0, .inr (1, [.ref hlf, .ref hls, .ref hlk, .ref hll, .int (nI nl)])), (hlf, .inl (cI, most, .inl first)), (hls, .inl (cI, most, .inl second)), (hlk, .inl (cD, most, .inr (.inr (.inr (.inl strength))))), (hll, .inl (cD, most, .inr (.inr (.inr (.inl len)))))] s.heap.size = A at hD ⊢
  have hA : ∀ q : Nat, s.heap.size ≤ q → A q := fun q h => by rw [← hAe]; exact Or.inr h
  have hS : va_S A s.heap s.heap [] := va_S.rf
  have hl := lv_entry ([.ref hl0, .int i0, .int j0, .double k0, .double l0]) (n := 7) (Nat.le_of_ble_eq_true rfl)
  rw [lg_entry_eq]
  generalize (lg_sl ([.ref hl0, .int i0, .int j0, .double k0, .double l0]) ++ List.replicate (7 - (lg_sl ([.ref hl0, .int i0, .int j0, .double k0, .double l0])).length) Slot.unset).toArray = ls at hl ⊢
  have hl : lv_has ls 7 [(0, .ref hl0), (1, .int i0), (2, .int j0), (3, .double k0), (5, .double l0)] := hl
  obtain ⟨H, hH⟩ : ∃ H, H = s.heap := ⟨_, rfl⟩
  rw [← hH] at hP
  have hS : va_S A s.heap H [] := by rw [hH]; exact hS
  refine gx_start hH ?_
  refine lv_aload_n hx hb d_Links_add_0 rfl (lv_at hl 0 rfl) ?_
  refine va_get (D := (dC, dI)) (ci := 1) (v := .ref hlf) (C := R_Links) (T := F_Links) (N := 5) hx hb hts (fun w h => List.mem_cons_of_mem _ (i_Links w h)) hown hK hP 0 rfl rfl 0 (by decide) (hts _ (List.mem_cons_of_mem _ kw_191)) (fun _ h9 => h9) rfl d_Links_add_1 ?_
  refine lv_aload_n hx hb d_Links_add_4 rfl (lv_at hl 0 rfl) ?_
  refine va_get (D := (dC, dI)) (ci := 1) (v := .int (nI nl)) (C := R_Links) (T := F_Links) (N := 5) hx hb hts (fun w h => List.mem_cons_of_mem _ (i_Links w h)) hown hK hP 0 rfl rfl 4 (by decide) (hts _ (List.mem_cons_of_mem _ kw_202)) (fun _ h9 => h9) rfl d_Links_add_5 ?_
  refine lv_iload_n hx hb d_Links_add_8 rfl (lv_at hl 1 rfl) ?_
  refine gx_iast hx hb hK hP hD hS 1 0 rfl rfl (by omega) (by omega) d_Links_add_9 (fun H locs hP hD hS => ?_)
  have hP : va_P (dC, dI) classes [(hl0, .inr (1, [.ref hlf, .ref hls, .ref hlk, .ref hll, .int (nI nl)])), (hlf, .inl (cI, most, .inl (upd first nl i0))), (hls, .inl (cI, most, .inl second)), (hlk, .inl (cD, most, .inr (.inr (.inr (.inl strength))))), (hll, .inl (cD, most, .inr (.inr (.inr (.inl len)))))] H := hP
  have hD : va_D A [(hl0, .inr (1, [.ref hlf, .ref hls, .ref hlk, .ref hll, .int (nI nl)])), (hlf, .inl (cI, most, .inl (upd first nl i0))), (hls, .inl (cI, most, .inl second)), (hlk, .inl (cD, most, .inr (.inr (.inr (.inl strength))))), (hll, .inl (cD, most, .inr (.inr (.inr (.inl len)))))] := hD
  refine lv_aload_n hx hb d_Links_add_10 rfl (lv_at hl 0 rfl) ?_
  refine va_get (D := (dC, dI)) (ci := 1) (v := .ref hls) (C := R_Links) (T := F_Links) (N := 5) hx hb hts (fun w h => List.mem_cons_of_mem _ (i_Links w h)) hown hK hP 0 rfl rfl 1 (by decide) (hts _ (List.mem_cons_of_mem _ kw_194)) (fun _ h9 => h9) rfl d_Links_add_11 ?_
  refine lv_aload_n hx hb d_Links_add_14 rfl (lv_at hl 0 rfl) ?_
  refine va_get (D := (dC, dI)) (ci := 1) (v := .int (nI nl)) (C := R_Links) (T := F_Links) (N := 5) hx hb hts (fun w h => List.mem_cons_of_mem _ (i_Links w h)) hown hK hP 0 rfl rfl 4 (by decide) (hts _ (List.mem_cons_of_mem _ kw_202)) (fun _ h9 => h9) rfl d_Links_add_15 ?_
  refine lv_iload_n hx hb d_Links_add_18 rfl (lv_at hl 2 rfl) ?_
  refine gx_iast hx hb hK hP hD hS 2 0 rfl rfl (by omega) (by omega) d_Links_add_19 (fun H locs hP hD hS => ?_)
  have hP : va_P (dC, dI) classes [(hl0, .inr (1, [.ref hlf, .ref hls, .ref hlk, .ref hll, .int (nI nl)])), (hlf, .inl (cI, most, .inl (upd first nl i0))), (hls, .inl (cI, most, .inl (upd second nl j0))), (hlk, .inl (cD, most, .inr (.inr (.inr (.inl strength))))), (hll, .inl (cD, most, .inr (.inr (.inr (.inl len)))))] H := hP
  have hD : va_D A [(hl0, .inr (1, [.ref hlf, .ref hls, .ref hlk, .ref hll, .int (nI nl)])), (hlf, .inl (cI, most, .inl (upd first nl i0))), (hls, .inl (cI, most, .inl (upd second nl j0))), (hlk, .inl (cD, most, .inr (.inr (.inr (.inl strength))))), (hll, .inl (cD, most, .inr (.inr (.inr (.inl len)))))] := hD
  refine lv_aload_n hx hb d_Links_add_20 rfl (lv_at hl 0 rfl) ?_
  refine va_get (D := (dC, dI)) (ci := 1) (v := .ref hlk) (C := R_Links) (T := F_Links) (N := 5) hx hb hts (fun w h => List.mem_cons_of_mem _ (i_Links w h)) hown hK hP 0 rfl rfl 2 (by decide) (hts _ (List.mem_cons_of_mem _ kw_197)) (fun _ h9 => h9) rfl d_Links_add_21 ?_
  refine lv_aload_n hx hb d_Links_add_24 rfl (lv_at hl 0 rfl) ?_
  refine va_get (D := (dC, dI)) (ci := 1) (v := .int (nI nl)) (C := R_Links) (T := F_Links) (N := 5) hx hb hts (fun w h => List.mem_cons_of_mem _ (i_Links w h)) hown hK hP 0 rfl rfl 4 (by decide) (hts _ (List.mem_cons_of_mem _ kw_202)) (fun _ h9 => h9) rfl d_Links_add_25 ?_
  refine lv_dload_n hx hb d_Links_add_28 rfl (lv_at hl 3 rfl) ?_
  refine gx_dast hx hb hK hP hD hS 3 1 rfl rfl (by omega) (by omega) d_Links_add_29 (fun H locs hP hD hS => ?_)
  have hP : va_P (dC, dI) classes [(hl0, .inr (1, [.ref hlf, .ref hls, .ref hlk, .ref hll, .int (nI nl)])), (hlf, .inl (cI, most, .inl (upd first nl i0))), (hls, .inl (cI, most, .inl (upd second nl j0))), (hlk, .inl (cD, most, .inr (.inr (.inr (.inl (vf_upd strength nl k0)))))), (hll, .inl (cD, most, .inr (.inr (.inr (.inl len)))))] H := hP
  have hD : va_D A [(hl0, .inr (1, [.ref hlf, .ref hls, .ref hlk, .ref hll, .int (nI nl)])), (hlf, .inl (cI, most, .inl (upd first nl i0))), (hls, .inl (cI, most, .inl (upd second nl j0))), (hlk, .inl (cD, most, .inr (.inr (.inr (.inl (vf_upd strength nl k0)))))), (hll, .inl (cD, most, .inr (.inr (.inr (.inl len)))))] := hD
  refine lv_aload_n hx hb d_Links_add_30 rfl (lv_at hl 0 rfl) ?_
  refine va_get (D := (dC, dI)) (ci := 1) (v := .ref hll) (C := R_Links) (T := F_Links) (N := 5) hx hb hts (fun w h => List.mem_cons_of_mem _ (i_Links w h)) hown hK hP 0 rfl rfl 3 (by decide) (hts _ (List.mem_cons_of_mem _ kw_199)) (fun _ h9 => h9) rfl d_Links_add_31 ?_
  refine lv_aload_n hx hb d_Links_add_34 rfl (lv_at hl 0 rfl) ?_
  refine va_get (D := (dC, dI)) (ci := 1) (v := .int (nI nl)) (C := R_Links) (T := F_Links) (N := 5) hx hb hts (fun w h => List.mem_cons_of_mem _ (i_Links w h)) hown hK hP 0 rfl rfl 4 (by decide) (hts _ (List.mem_cons_of_mem _ kw_202)) (fun _ h9 => h9) rfl d_Links_add_35 ?_
  refine lv_dload hx hb d_Links_add_38 (lv_at hl 4 rfl) ?_
  refine gx_dast hx hb hK hP hD hS 4 1 rfl rfl (by omega) (by omega) d_Links_add_40 (fun H locs hP hD hS => ?_)
  have hP : va_P (dC, dI) classes [(hl0, .inr (1, [.ref hlf, .ref hls, .ref hlk, .ref hll, .int (nI nl)])), (hlf, .inl (cI, most, .inl (upd first nl i0))), (hls, .inl (cI, most, .inl (upd second nl j0))), (hlk, .inl (cD, most, .inr (.inr (.inr (.inl (vf_upd strength nl k0)))))), (hll, .inl (cD, most, .inr (.inr (.inr (.inl (vf_upd len nl l0))))))] H := hP
  have hD : va_D A [(hl0, .inr (1, [.ref hlf, .ref hls, .ref hlk, .ref hll, .int (nI nl)])), (hlf, .inl (cI, most, .inl (upd first nl i0))), (hls, .inl (cI, most, .inl (upd second nl j0))), (hlk, .inl (cD, most, .inr (.inr (.inr (.inl (vf_upd strength nl k0)))))), (hll, .inl (cD, most, .inr (.inr (.inr (.inl (vf_upd len nl l0))))))] := hD
  refine lv_aload_n hx hb d_Links_add_41 rfl (lv_at hl 0 rfl) ?_
  refine lv_dup hx hb d_Links_add_42 rfl ?_
  refine va_get (D := (dC, dI)) (ci := 1) (v := .int (nI nl)) (C := R_Links) (T := F_Links) (N := 5) hx hb hts (fun w h => List.mem_cons_of_mem _ (i_Links w h)) hown hK hP 0 rfl rfl 4 (by decide) (hts _ (List.mem_cons_of_mem _ kw_202)) (fun _ h9 => h9) rfl d_Links_add_43 ?_
  refine lv_iconst (v := 1) hx hb d_Links_add_46 (by decide) ?_
  refine lv_iadd hx hb d_Links_add_47 ?_
  rw [nI_1 nl]
  refine va_put (D := (dC, dI)) (ci := 1) (v := .int (nI (nl + 1))) (ty := .int) (C := R_Links) (T := F_Links) (N := 5) hx hb hts (fun w h => List.mem_cons_of_mem _ (i_Links w h)) t_Links t_Links_ok n_Links hown hK hP hD hS 0 rfl rfl 4 (by decide) (hts _ (List.mem_cons_of_mem _ kw_202)) (fun _ h9 => h9) rfl (by decide +kernel) rfl rfl (Nat.le_of_ble_eq_true rfl) d_Links_add_48 (fun H locs hP hD hS => ?_)
  have hP : va_P (dC, dI) classes [(hl0, .inr (1, [.ref hlf, .ref hls, .ref hlk, .ref hll, .int (nI (nl + 1))])), (hlf, .inl (cI, most, .inl (upd first nl i0))), (hls, .inl (cI, most, .inl (upd second nl j0))), (hlk, .inl (cD, most, .inr (.inr (.inr (.inl (vf_upd strength nl k0)))))), (hll, .inl (cD, most, .inr (.inr (.inr (.inl (vf_upd len nl l0))))))] H := hP
  have hD : va_D A [(hl0, .inr (1, [.ref hlf, .ref hls, .ref hlk, .ref hll, .int (nI (nl + 1))])), (hlf, .inl (cI, most, .inl (upd first nl i0))), (hls, .inl (cI, most, .inl (upd second nl j0))), (hlk, .inl (cD, most, .inr (.inr (.inr (.inl (vf_upd strength nl k0)))))), (hll, .inl (cD, most, .inr (.inr (.inr (.inl (vf_upd len nl l0))))))] := hD
  refine lv_aload_n hx hb d_Links_add_51 rfl (lv_at hl 0 rfl) ?_
  refine va_get (D := (dC, dI)) (ci := 1) (v := .int (nI (nl + 1))) (C := R_Links) (T := F_Links) (N := 5) hx hb hts (fun w h => List.mem_cons_of_mem _ (i_Links w h)) hown hK hP 0 rfl rfl 4 (by decide) (hts _ (List.mem_cons_of_mem _ kw_202)) (fun _ h9 => h9) rfl d_Links_add_52 ?_
  have hP9 := hP.sub (ws' := [(hl0, .inr (1, [.ref hlf, .ref hls, .ref hlk, .ref hll, .int (nI (nl + 1))])), (hlf, .inl (cI, most, .inl (upd first nl i0))), (hls, .inl (cI, most, .inl (upd second nl j0))), (hlk, .inl (cD, most, .inr (.inr (.inr (.inl (vf_upd strength nl k0)))))), (hll, .inl (cD, most, .inr (.inr (.inr (.inl (vf_upd len nl l0))))))]) [0, 1, 2, 3, 4] rfl
  have hD9 := hD.sub (ws' := [(hl0, .inr (1, [.ref hlf, .ref hls, .ref hlk, .ref hll, .int (nI (nl + 1))])), (hlf, .inl (cI, most, .inl (upd first nl i0))), (hls, .inl (cI, most, .inl (upd second nl j0))), (hlk, .inl (cD, most, .inr (.inr (.inr (.inl (vf_upd strength nl k0)))))), (hll, .inl (cD, most, .inr (.inr (.inr (.inl (vf_upd len nl l0))))))]) [0, 1, 2, 3, 4] (by decide) rfl
  exact W.iret (v := (nI (nl + 1))) hx hb hr (fun t ht hW => ⟨⟨(nI (nl + 1)), (), rfl, rfl, by rw [ht]; exact hP9, va_K.moved hW.alike hK, hD9⟩, hS.F ht⟩) hS.2.2 d_Links_add_55
