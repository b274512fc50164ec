theorem d_Square_init_0 : decode b_Square_init 0 = .ok (.aload_n 0, 1) := by decide +kernel
theorem d_Square_init_1 : decode b_Square_init 1 = .ok (.invokespecial 1, 3) := by decide +kernel
theorem d_Square_init_4 : decode b_Square_init 4 = .ok (.aload_n 0, 1) := by decide +kernel
theorem d_Square_init_5 : decode b_Square_init 5 = .ok (.dload_n 1, 1) := by decide +kernel
theorem d_Square_init_6 : decode b_Square_init 6 = .ok (.putfield 7, 3) := by decide +kernel
theorem d_Square_init_9 : decode b_Square_init 9 = .ok (.return_, 1) := by decide +kernel
theorem d_Atoms_init_0 : decode b_Atoms_init 0 = .ok (.aload_n 0, 1) := by decide +kernel
theorem d_Atoms_init_1 : decode b_Atoms_init 1 = .ok (.invokespecial 3, 3) := by decide +kernel
theorem d_Atoms_init_4 : decode b_Atoms_init 4 = .ok (.aload_n 0, 1) := by decide +kernel
theorem d_Atoms_init_5 : decode b_Atoms_init 5 = .ok (.bipush 10, 2) := by decide +kernel
theorem d_Atoms_init_7 : decode b_Atoms_init 7 = .ok (.newarray .double, 2) := by decide +kernel
theorem d_Atoms_init_9 : decode b_Atoms_init 9 = .ok (.putfield 9, 3) := by decide +kernel
theorem d_Atoms_init_12 : decode b_Atoms_init 12 = .ok (.aload_n 0, 1) := by decide +kernel
theorem d_Atoms_init_13 : decode b_Atoms_init 13 = .ok (.bipush 10, 2) := by decide +kernel
theorem d_Atoms_init_15 : decode b_Atoms_init 15 = .ok (.newarray .double, 2) := by decide +kernel
theorem d_Atoms_init_17 : decode b_Atoms_init 17 = .ok (.putfield 15, 3) := by decide +kernel
theorem d_Atoms_init_20 : decode b_Atoms_init 20 = .ok (.aload_n 0, 1) := by decide +kernel
theorem d_Atoms_init_21 : decode b_Atoms_init 21 = .ok (.bipush 10, 2) := by decide +kernel
theorem d_Atoms_init_23 : decode b_Atoms_init 23 = .ok (.newarray .double, 2) := by decide +kernel
theorem d_Atoms_init_25 : decode b_Atoms_init 25 = .ok (.putfield 18, 3) := by decide +kernel
theorem d_Atoms_init_28 : decode b_Atoms_init 28 = .ok (.aload_n 0, 1) := by decide +kernel
theorem d_Atoms_init_29 : decode b_Atoms_init 29 = .ok (.bipush 10, 2) := by decide +kernel
theorem d_Atoms_init_31 : decode b_Atoms_init 31 = .ok (.newarray .double, 2) := by decide +kernel
theorem d_Atoms_init_33 : decode b_Atoms_init 33 = .ok (.putfield 21, 3) := by decide +kernel
theorem d_Atoms_init_36 : decode b_Atoms_init 36 = .ok (.aload_n 0, 1) := by decide +kernel
theorem d_Atoms_init_37 : decode b_Atoms_init 37 = .ok (.bipush 10, 2) := by decide +kernel
theorem d_Atoms_init_39 : decode b_Atoms_init 39 = .ok (.newarray .double, 2) := by decide +kernel
theorem d_Atoms_init_41 : decode b_Atoms_init 41 = .ok (.putfield 24, 3) := by decide +kernel
theorem d_Atoms_init_44 : decode b_Atoms_init 44 = .ok (.aload_n 0, 1) := by decide +kernel
theorem d_Atoms_init_45 : decode b_Atoms_init 45 = .ok (.bipush 10, 2) := by decide +kernel
theorem d_Atoms_init_47 : decode b_Atoms_init 47 = .ok (.newarray .int, 2) := by decide +kernel
theorem d_Atoms_init_49 : decode b_Atoms_init 49 = .ok (.putfield 27, 3) := by decide +kernel
theorem d_Atoms_init_52 : decode b_Atoms_init 52 = .ok (.aload_n 0, 1) := by decide +kernel
theorem d_Atoms_init_53 : decode b_Atoms_init 53 = .ok (.bipush 10, 2) := by decide +kernel
theorem d_Atoms_init_55 : decode b_Atoms_init 55 = .ok (.newarray .boolean, 2) := by decide +kernel
theorem d_Atoms_init_57 : decode b_Atoms_init 57 = .ok (.putfield 31, 3) := by decide +kernel
theorem d_Atoms_init_60 : decode b_Atoms_init 60 = .ok (.return_, 1) := by decide +kernel
theorem d_Samples_init_0 : decode b_Samples_init 0 = .ok (.aload_n 0, 1) := by decide +kernel
theorem d_Samples_init_1 : decode b_Samples_init 1 = .ok (.invokespecial 3, 3) := by decide +kernel
theorem d_Samples_init_4 : decode b_Samples_init 4 = .ok (.aload_n 0, 1) := by decide +kernel
theorem d_Samples_init_5 : decode b_Samples_init 5 = .ok (.sipush 144, 3) := by decide +kernel
theorem d_Samples_init_8 : decode b_Samples_init 8 = .ok (.newarray .int, 2) := by decide +kernel
theorem d_Samples_init_10 : decode b_Samples_init 10 = .ok (.putfield 9, 3) := by decide +kernel
theorem d_Samples_init_13 : decode b_Samples_init 13 = .ok (.return_, 1) := by decide +kernel
theorem d_Links_init_0 : decode b_Links_init 0 = .ok (.aload_n 0, 1) := by decide +kernel
theorem d_Links_init_1 : decode b_Links_init 1 = .ok (.invokespecial 1, 3) := by decide +kernel
theorem d_Links_init_4 : decode b_Links_init 4 = .ok (.aload_n 0, 1) := by decide +kernel
theorem d_Links_init_5 : decode b_Links_init 5 = .ok (.iload_n 1, 1) := by decide +kernel
theorem d_Links_init_6 : decode b_Links_init 6 = .ok (.newarray .int, 2) := by decide +kernel
theorem d_Links_init_8 : decode b_Links_init 8 = .ok (.putfield 7, 3) := by decide +kernel
theorem d_Links_init_11 : decode b_Links_init 11 = .ok (.aload_n 0, 1) := by decide +kernel
theorem d_Links_init_12 : decode b_Links_init 12 = .ok (.iload_n 1, 1) := by decide +kernel
theorem d_Links_init_13 : decode b_Links_init 13 = .ok (.newarray .int, 2) := by decide +kernel
theorem d_Links_init_15 : decode b_Links_init 15 = .ok (.putfield 13, 3) := by decide +kernel
theorem d_Links_init_18 : decode b_Links_init 18 = .ok (.aload_n 0, 1) := by decide +kernel
theorem d_Links_init_19 : decode b_Links_init 19 = .ok (.iload_n 1, 1) := by decide +kernel
theorem d_Links_init_20 : decode b_Links_init 20 = .ok (.newarray .double, 2) := by decide +kernel
theorem d_Links_init_22 : decode b_Links_init 22 = .ok (.putfield 16, 3) := by decide +kernel
theorem d_Links_init_25 : decode b_Links_init 25 = .ok (.aload_n 0, 1) := by decide +kernel
theorem d_Links_init_26 : decode b_Links_init 26 = .ok (.iload_n 1, 1) := by decide +kernel
theorem d_Links_init_27 : decode b_Links_init 27 = .ok (.newarray .double, 2) := by decide +kernel
theorem d_Links_init_29 : decode b_Links_init 29 = .ok (.putfield 20, 3) := by decide +kernel
theorem d_Links_init_32 : decode b_Links_init 32 = .ok (.return_, 1) := by decide +kernel
theorem d_Sorts_init_0 : decode b_Sorts_init 0 = .ok (.aload_n 0, 1) := by decide +kernel
theorem d_Sorts_init_1 : decode b_Sorts_init 1 = .ok (.invokespecial 3, 3) := by decide +kernel
theorem d_Sorts_init_4 : decode b_Sorts_init 4 = .ok (.aload_n 0, 1) := by decide +kernel
theorem d_Sorts_init_5 : decode b_Sorts_init 5 = .ok (.iconst 3, 1) := by decide +kernel
theorem d_Sorts_init_6 : decode b_Sorts_init 6 = .ok (.newarray .double, 2) := by decide +kernel
theorem d_Sorts_init_8 : decode b_Sorts_init 8 = .ok (.putfield 9, 3) := by decide +kernel
theorem d_Sorts_init_11 : decode b_Sorts_init 11 = .ok (.aload_n 0, 1) := by decide +kernel
theorem d_Sorts_init_12 : decode b_Sorts_init 12 = .ok (.iconst 3, 1) := by decide +kernel
theorem d_Sorts_init_13 : decode b_Sorts_init 13 = .ok (.newarray .double, 2) := by decide +kernel
theorem d_Sorts_init_15 : decode b_Sorts_init 15 = .ok (.putfield 15, 3) := by decide +kernel
theorem d_Sorts_init_18 : decode b_Sorts_init 18 = .ok (.aload_n 0, 1) := by decide +kernel
theorem d_Sorts_init_19 : decode b_Sorts_init 19 = .ok (.iconst 3, 1) := by decide +kernel
theorem d_Sorts_init_20 : decode b_Sorts_init 20 = .ok (.newarray .double, 2) := by decide +kernel
theorem d_Sorts_init_22 : decode b_Sorts_init 22 = .ok (.putfield 18, 3) := by decide +kernel
theorem d_Sorts_init_25 : decode b_Sorts_init 25 = .ok (.iconst 0, 1) := by decide +kernel
theorem d_Sorts_init_26 : decode b_Sorts_init 26 = .ok (.istore_n 1, 1) := by decide +kernel
theorem d_Sorts_init_27 : decode b_Sorts_init 27 = .ok (.iload_n 1, 1) := by decide +kernel
theorem d_Sorts_init_28 : decode b_Sorts_init 28 = .ok (.iconst 3, 1) := by decide +kernel
theorem d_Sorts_init_29 : decode b_Sorts_init 29 = .ok (.if_icmp .ge 23, 3) := by decide +kernel
theorem d_Sorts_init_32 : decode b_Sorts_init 32 = .ok (.aload_n 0, 1) := by decide +kernel
theorem d_Sorts_init_33 : decode b_Sorts_init 33 = .ok (.getfield 9, 3) := by decide +kernel
theorem d_Sorts_init_36 : decode b_Sorts_init 36 = .ok (.iload_n 1, 1) := by decide +kernel
theorem d_Sorts_init_37 : decode b_Sorts_init 37 = .ok (.dconst 1, 1) := by decide +kernel
theorem d_Sorts_init_38 : decode b_Sorts_init 38 = .ok (.dastore, 1) := by decide +kernel
theorem d_Sorts_init_39 : decode b_Sorts_init 39 = .ok (.aload_n 0, 1) := by decide +kernel
theorem d_Sorts_init_40 : decode b_Sorts_init 40 = .ok (.getfield 15, 3) := by decide +kernel
theorem d_Sorts_init_43 : decode b_Sorts_init 43 = .ok (.iload_n 1, 1) := by decide +kernel
theorem d_Sorts_init_44 : decode b_Sorts_init 44 = .ok (.dconst 1, 1) := by decide +kernel
theorem d_Sorts_init_45 : decode b_Sorts_init 45 = .ok (.dastore, 1) := by decide +kernel
theorem d_Sorts_init_46 : decode b_Sorts_init 46 = .ok (.iinc 1 1, 3) := by decide +kernel
theorem d_Sorts_init_49 : decode b_Sorts_init 49 = .ok (.goto (-22), 3) := by decide +kernel
theorem d_Sorts_init_52 : decode b_Sorts_init 52 = .ok (.return_, 1) := by decide +kernel
theorem d_Neighbours_init_0 : decode b_Neighbours_init 0 = .ok (.aload_n 0, 1) := by decide +kernel
theorem d_Neighbours_init_1 : decode b_Neighbours_init 1 = .ok (.invokespecial 3, 3) := by decide +kernel
theorem d_Neighbours_init_4 : decode b_Neighbours_init 4 = .ok (.aload_n 0, 1) := by decide +kernel
theorem d_Neighbours_init_5 : decode b_Neighbours_init 5 = .ok (.bipush 10, 2) := by decide +kernel
theorem d_Neighbours_init_7 : decode b_Neighbours_init 7 = .ok (.newarray .double, 2) := by decide +kernel
theorem d_Neighbours_init_9 : decode b_Neighbours_init 9 = .ok (.putfield 9, 3) := by decide +kernel
theorem d_Neighbours_init_12 : decode b_Neighbours_init 12 = .ok (.aload_n 0, 1) := by decide +kernel
theorem d_Neighbours_init_13 : decode b_Neighbours_init 13 = .ok (.bipush 10, 2) := by decide +kernel
theorem d_Neighbours_init_15 : decode b_Neighbours_init 15 = .ok (.newarray .double, 2) := by decide +kernel
theorem d_Neighbours_init_17 : decode b_Neighbours_init 17 = .ok (.putfield 15, 3) := by decide +kernel
theorem d_Neighbours_init_20 : decode b_Neighbours_init 20 = .ok (.aload_n 0, 1) := by decide +kernel
theorem d_Neighbours_init_21 : decode b_Neighbours_init 21 = .ok (.ldc2_w 18, 3) := by decide +kernel
theorem d_Neighbours_init_24 : decode b_Neighbours_init 24 = .ok (.putfield 20, 3) := by decide +kernel
theorem d_Neighbours_init_27 : decode b_Neighbours_init 27 = .ok (.aload_n 0, 1) := by decide +kernel
theorem d_Neighbours_init_28 : decode b_Neighbours_init 28 = .ok (.aload_n 1, 1) := by decide +kernel
theorem d_Neighbours_init_29 : decode b_Neighbours_init 29 = .ok (.putfield 24, 3) := by decide +kernel
theorem d_Neighbours_init_32 : decode b_Neighbours_init 32 = .ok (.aload_n 0, 1) := by decide +kernel
theorem d_Neighbours_init_33 : decode b_Neighbours_init 33 = .ok (.aload_n 2, 1) := by decide +kernel
theorem d_Neighbours_init_34 : decode b_Neighbours_init 34 = .ok (.putfield 28, 3) := by decide +kernel
theorem d_Neighbours_init_37 : decode b_Neighbours_init 37 = .ok (.return_, 1) := by decide +kernel
theorem d_Pulls_init_0 : decode b_Pulls_init 0 = .ok (.aload_n 0, 1) := by decide +kernel
theorem d_Pulls_init_1 : decode b_Pulls_init 1 = .ok (.invokespecial 3, 3) := by decide +kernel
theorem d_Pulls_init_4 : decode b_Pulls_init 4 = .ok (.aload_n 0, 1) := by decide +kernel
theorem d_Pulls_init_5 : decode b_Pulls_init 5 = .ok (.bipush 10, 2) := by decide +kernel
theorem d_Pulls_init_7 : decode b_Pulls_init 7 = .ok (.newarray .double, 2) := by decide +kernel
theorem d_Pulls_init_9 : decode b_Pulls_init 9 = .ok (.putfield 9, 3) := by decide +kernel
theorem d_Pulls_init_12 : decode b_Pulls_init 12 = .ok (.aload_n 0, 1) := by decide +kernel
theorem d_Pulls_init_13 : decode b_Pulls_init 13 = .ok (.bipush 10, 2) := by decide +kernel
theorem d_Pulls_init_15 : decode b_Pulls_init 15 = .ok (.newarray .double, 2) := by decide +kernel
theorem d_Pulls_init_17 : decode b_Pulls_init 17 = .ok (.putfield 15, 3) := by decide +kernel
theorem d_Pulls_init_20 : decode b_Pulls_init 20 = .ok (.aload_n 0, 1) := by decide +kernel
theorem d_Pulls_init_21 : decode b_Pulls_init 21 = .ok (.aload_n 1, 1) := by decide +kernel
theorem d_Pulls_init_22 : decode b_Pulls_init 22 = .ok (.putfield 18, 3) := by decide +kernel
theorem d_Pulls_init_25 : decode b_Pulls_init 25 = .ok (.aload_n 0, 1) := by decide +kernel
theorem d_Pulls_init_26 : decode b_Pulls_init 26 = .ok (.aload_n 2, 1) := by decide +kernel
theorem d_Pulls_init_27 : decode b_Pulls_init 27 = .ok (.putfield 22, 3) := by decide +kernel
theorem d_Pulls_init_30 : decode b_Pulls_init 30 = .ok (.aload_n 0, 1) := by decide +kernel
theorem d_Pulls_init_31 : decode b_Pulls_init 31 = .ok (.aload_n 3, 1) := by decide +kernel
theorem d_Pulls_init_32 : decode b_Pulls_init 32 = .ok (.putfield 26, 3) := by decide +kernel
theorem d_Pulls_init_35 : decode b_Pulls_init 35 = .ok (.aload_n 0, 1) := by decide +kernel
theorem d_Pulls_init_36 : decode b_Pulls_init 36 = .ok (.aload 4, 2) := by decide +kernel
theorem d_Pulls_init_38 : decode b_Pulls_init 38 = .ok (.putfield 30, 3) := by decide +kernel
theorem d_Pulls_init_41 : decode b_Pulls_init 41 = .ok (.aload_n 0, 1) := by decide +kernel
theorem d_Pulls_init_42 : decode b_Pulls_init 42 = .ok (.aload_n 1, 1) := by decide +kernel
theorem d_Pulls_init_43 : decode b_Pulls_init 43 = .ok (.getfield 34, 3) := by decide +kernel
theorem d_Pulls_init_46 : decode b_Pulls_init 46 = .ok (.ldc2_w 40, 3) := by decide +kernel
theorem d_Pulls_init_49 : decode b_Pulls_init 49 = .ok (.dmul, 1) := by decide +kernel
theorem d_Pulls_init_50 : decode b_Pulls_init 50 = .ok (.putfield 42, 3) := by decide +kernel
theorem d_Pulls_init_53 : decode b_Pulls_init 53 = .ok (.return_, 1) := by decide +kernel
theorem d_Mover_init_0 : decode b_Mover_init 0 = .ok (.aload_n 0, 1) := by decide +kernel
theorem d_Mover_init_1 : decode b_Mover_init 1 = .ok (.invokespecial 3, 3) := by decide +kernel
theorem d_Mover_init_4 : decode b_Mover_init 4 = .ok (.aload_n 0, 1) := by decide +kernel
theorem d_Mover_init_5 : decode b_Mover_init 5 = .ok (.bipush 10, 2) := by decide +kernel
theorem d_Mover_init_7 : decode b_Mover_init 7 = .ok (.newarray .double, 2) := by decide +kernel
theorem d_Mover_init_9 : decode b_Mover_init 9 = .ok (.putfield 9, 3) := by decide +kernel
theorem d_Mover_init_12 : decode b_Mover_init 12 = .ok (.aload_n 0, 1) := by decide +kernel
theorem d_Mover_init_13 : decode b_Mover_init 13 = .ok (.bipush 10, 2) := by decide +kernel
theorem d_Mover_init_15 : decode b_Mover_init 15 = .ok (.newarray .double, 2) := by decide +kernel
theorem d_Mover_init_17 : decode b_Mover_init 17 = .ok (.putfield 15, 3) := by decide +kernel
theorem d_Mover_init_20 : decode b_Mover_init 20 = .ok (.aload_n 0, 1) := by decide +kernel
theorem d_Mover_init_21 : decode b_Mover_init 21 = .ok (.bipush 10, 2) := by decide +kernel
theorem d_Mover_init_23 : decode b_Mover_init 23 = .ok (.newarray .double, 2) := by decide +kernel
theorem d_Mover_init_25 : decode b_Mover_init 25 = .ok (.putfield 18, 3) := by decide +kernel
theorem d_Mover_init_28 : decode b_Mover_init 28 = .ok (.aload_n 0, 1) := by decide +kernel
theorem d_Mover_init_29 : decode b_Mover_init 29 = .ok (.bipush 10, 2) := by decide +kernel
theorem d_Mover_init_31 : decode b_Mover_init 31 = .ok (.newarray .double, 2) := by decide +kernel
theorem d_Mover_init_33 : decode b_Mover_init 33 = .ok (.putfield 21, 3) := by decide +kernel
theorem d_Mover_init_36 : decode b_Mover_init 36 = .ok (.aload_n 0, 1) := by decide +kernel
theorem d_Mover_init_37 : decode b_Mover_init 37 = .ok (.aload_n 1, 1) := by decide +kernel
theorem d_Mover_init_38 : decode b_Mover_init 38 = .ok (.putfield 24, 3) := by decide +kernel
theorem d_Mover_init_41 : decode b_Mover_init 41 = .ok (.aload_n 0, 1) := by decide +kernel
theorem d_Mover_init_42 : decode b_Mover_init 42 = .ok (.aload_n 2, 1) := by decide +kernel
theorem d_Mover_init_43 : decode b_Mover_init 43 = .ok (.putfield 28, 3) := by decide +kernel
theorem d_Mover_init_46 : decode b_Mover_init 46 = .ok (.aload_n 0, 1) := by decide +kernel
theorem d_Mover_init_47 : decode b_Mover_init 47 = .ok (.aload_n 3, 1) := by decide +kernel
theorem d_Mover_init_48 : decode b_Mover_init 48 = .ok (.putfield 32, 3) := by decide +kernel
theorem d_Mover_init_51 : decode b_Mover_init 51 = .ok (.aload_n 0, 1) := by decide +kernel
theorem d_Mover_init_52 : decode b_Mover_init 52 = .ok (.aload 4, 2) := by decide +kernel
theorem d_Mover_init_54 : decode b_Mover_init 54 = .ok (.putfield 36, 3) := by decide +kernel
theorem d_Mover_init_57 : decode b_Mover_init 57 = .ok (.aload_n 0, 1) := by decide +kernel
theorem d_Mover_init_58 : decode b_Mover_init 58 = .ok (.aload 5, 2) := by decide +kernel
theorem d_Mover_init_60 : decode b_Mover_init 60 = .ok (.putfield 40, 3) := by decide +kernel
theorem d_Mover_init_63 : decode b_Mover_init 63 = .ok (.return_, 1) := by decide +kernel
def pb_ones (i : Nat) : Nat → UInt64 := fun j => if j < i then FP.dconst1 else FP.dconst0
theorem pb_ones_0 : pb_ones 0 = (fun _ => FP.dconst0) := by funext j; unfold pb_ones; rw [if_neg (Nat.not_lt_zero j)]
theorem pb_ones_s {i : Nat} : pb_ones (i + 1) = vf_upd (pb_ones i) i FP.dconst1 := by
  funext j
  unfold pb_ones vf_upd
  by_cases h : j = i
  · rw [if_pos (by omega), if_pos h]
  · rw [if_neg h]
    show _ = (if j < i then FP.dconst1 else FP.dconst0)
    by_cases h2 : j < i
    · rw [if_pos h2, if_pos (by omega)]
    · rw [if_neg h2, if_neg (by omega)]
set_option maxHeartbeats 4000000 in
set_option maxRecDepth 100000 in
/-- new Square -/
theorem c_Square_init (l : Launch) (dC : Nat → ClassId) (dI : Nat → Nat → Nat) (cI cD cZ : ClassId) (sz : Nat) (h0 : Nat) (s0 : UInt64) (qa : UInt64) (qb : UInt64) (qr : UInt64) (side : UInt64) : Met l y_Square_init w_Square_init ({ frames := 1, cells := 0, slots := 0, locals := 12 }) (va_Pc [.ref h0, .double side] (gx_B (dC, dI) classes (gx_T cI cD cZ) [(h0, .inr (7, [.double s0, .double qa, .double qb, .double qr]))] sz)) (va_Qv (fun (uu : Unit) => True) (fun (uu : Unit) t => gx_E (dC, dI) classes (gx_T cI cD cZ) (va_A [(h0, .inr (7, [.double s0, .double qa, .double qb, .double qr]))] sz) [(h0, .inr (7, [.double side, .double qa, .double qb, .double qr]))] t) (va_A [(h0, .inr (7, [.double s0, .double qa, .double qb, .double qr]))] sz)) 0 0 (va_A [(h0, .inr (7, [.double s0, .double qa, .double qb, .double qr]))] sz) := by
  refine Met.ofW (cc := b_Square_init) (maxL := 3) (ret := none) (by decide) rfl ?_
  intro p e s m args below meth c s₁ B hml hv
  obtain ⟨rfl, hsz, hP, hK, hD0, hN⟩ := hv
  have hx := B.exec
  have hb := B.bytes
  have hr := B.returns
  have hts := atoms_spec (ws := w_Square_init) B.pre
  have hown : s.vm.findClass R_Square = some m.cls := findClass_of_methodNamed B.named
  have hlocks := B.notSynchronized
  have hin : meth.name = "<init>" := (name_of_methodNamed B.named B.method).1
  subst hsz
  have hD := hD0.self (sz := s.heap.size)
  generalize hAe : va_A [(h0, .inr (7, [.double s0, .double qa, .double qb, .double qr]))] s.heap.size = A at hD ⊢
  have hA : ∀ q : Nat, s.heap.size ≤ q → A q := fun q h => by rw [← hAe]; exact Or.inr h
  have hS : va_S A s.heap s.heap [] := va_S.rf
  have hl := lv_entry ([.ref h0, .double side]) (n := 3) (Nat.le_of_ble_eq_true rfl)
  rw [lg_entry_eq]
  generalize (lg_sl ([.ref h0, .double side]) ++ List.replicate (3 - (lg_sl ([.ref h0, .double side])).length) Slot.unset).toArray = ls at hl ⊢
  have hl : lv_has ls 3 [(0, .ref h0), (1, .double side)] := hl
  obtain ⟨H, hH⟩ : ∃ H, H = s.heap := ⟨_, rfl⟩
  rw [← hH] at hP
  have hS : va_S A s.heap H [] := by rw [hH]; exact hS
  refine gx_start hH ?_
  refine lv_aload_n hx hb d_Square_init_0 rfl (lv_at hl 0 rfl) ?_
  refine W.objInit hx hb hown (hts (.methodLink R_Square 1 objectInit) (by decide +kernel)) (hts (.instanceMethod objectInit) (by decide +kernel)) (hts _ (List.mem_cons_of_mem _ kw_69)) rfl (by rw [hml]; exact hl.1) rfl d_Square_init_1 (Nat.le_of_ble_eq_true rfl) (Nat.le_of_ble_eq_true rfl) ?_
  refine W.eq (g2 := F0 m 4 ls []) rfl ?_
  refine lv_aload_n hx hb d_Square_init_4 rfl (lv_at hl 0 rfl) ?_
  refine lv_dload_n hx hb d_Square_init_5 rfl (lv_at hl 1 rfl) ?_
  refine va_putF (D := (dC, dI)) (ci := 7) (v := .double side) (ty := .double) (C := R_Square) (T := F_Square) (N := 4) hx hb hts (fun w h => List.mem_cons_of_mem _ (i_Square w h)) t_Square t_Square_ok n_Square hown hK hP hD hS 0 rfl rfl 0 (by decide) (hts _ (List.mem_cons_of_mem _ kw_83)) (fun _ h9 => h9) rfl hin rfl (by decide +kernel) rfl rfl (Nat.le_of_ble_eq_true rfl) d_Square_init_6 (fun H locs hP hD hS => ?_)
  have hP : va_P (dC, dI) classes [(h0, .inr (7, [.double side, .double qa, .double qb, .double qr]))] H := hP
  have hD : va_D A [(h0, .inr (7, [.double side, .double qa, .double qb, .double qr]))] := hD
  have hP9 := hP.sub (ws' := [(h0, .inr (7, [.double side, .double qa, .double qb, .double qr]))]) [0] rfl
  have hD9 := hD.sub (ws' := [(h0, .inr (7, [.double side, .double qa, .double qb, .double qr]))]) [0] (by decide) rfl
  exact W.vret hx hb hr (fun tt9 ht9 hW9 => ⟨⟨(), rfl, trivial, by rw [ht9]; exact hP9, va_K.moved hW9.alike hK, hD9⟩, hS.F ht9⟩) hS.2.2 d_Square_init_9
set_option maxHeartbeats 4000000 in
set_option maxRecDepth 100000 in
/-- new Atoms -/
theorem c_Atoms_init (l : Launch) (dC : Nat → ClassId) (dI : Nat → Nat → Nat) (cI cD cZ : ClassId) (sz : Nat) (ha : Nat) (z0 : Int32) : Met l y_Atoms_init w_Atoms_init ({ frames := 1, cells := 7, slots := 70, locals := 12 }) (va_Pc [.ref ha] (gx_B (dC, dI) classes (gx_T cI cD cZ) [(ha, .inr (0, [.null, .null, .null, .null, .null, .null, .null, .int z0]))] sz)) (va_Qv (fun (uu : Nat × Nat × Nat × Nat × Nat × Nat × Nat) => match uu with | (hax, hay, hau, hav, ham, has, hak) => True) (fun (uu : Nat × Nat × Nat × Nat × Nat × Nat × Nat) t => gx_E (dC, dI) classes (gx_T cI cD cZ) (va_A [(ha, .inr (0, [.null, .null, .null, .null, .null, .null, .null, .int z0]))] sz) (match uu with | (hax, hay, hau, hav, ham, has, hak) => [(ha, .inr (0, [.ref hax, .ref hay, .ref hau, .ref hav, .ref ham, .ref has, .ref hak, .int z0])), (hax, .inl (cD, 10, .inr (.inr (.inr (.inl (fun _ => FP.dconst0)))))), (hay, .inl (cD, 10, .inr (.inr (.inr (.inl (fun _ => FP.dconst0)))))), (hau, .inl (cD, 10, .inr (.inr (.inr (.inl (fun _ => FP.dconst0)))))), (hav, .inl (cD, 10, .inr (.inr (.inr (.inl (fun _ => FP.dconst0)))))), (ham, .inl (cD, 10, .inr (.inr (.inr (.inl (fun _ => FP.dconst0)))))), (has, .inl (cI, 10, .inl (fun _ => 0))), (hak, .inl (cZ, 10, .inl (fun _ => 0)))]) t) (va_A [(ha, .inr (0, [.null, .null, .null, .null, .null, .null, .null, .int z0]))] sz)) 7 70 (va_A [(ha, .inr (0, [.null, .null, .null, .null, .null, .null, .null, .int z0]))] sz) := by
  refine Met.ofW (cc := b_Atoms_init) (maxL := 1) (ret := none) (by decide) rfl ?_
  intro p e s m args below meth c s₁ B hml hv
  obtain ⟨rfl, hsz, hP, hK, hD0, hN⟩ := hv
  have hx := B.exec
  have hb := B.bytes
  have hr := B.returns
  have hts := atoms_spec (ws := w_Atoms_init) B.pre
  have hown : s.vm.findClass R_Atoms = some m.cls := findClass_of_methodNamed B.named
  have hlocks := B.notSynchronized
  have hin : meth.name = "<init>" := (name_of_methodNamed B.named B.method).1
  subst hsz
  have hD := hD0.self (sz := s.heap.size)
  generalize hAe : va_A [(ha, .inr (0, [.null, .null, .null, .null, .null, .null, .null, .int z0]))] s.heap.size = A at hD ⊢
  have hA : ∀ q : Nat, s.heap.size ≤ q → A q := fun q h => by rw [← hAe]; exact Or.inr h
  have hS : va_S A s.heap s.heap [] := va_S.rf
  have hl := lv_entry ([.ref ha]) (n := 1) (Nat.le_of_ble_eq_true rfl)
  rw [lg_entry_eq]
  generalize (lg_sl ([.ref ha]) ++ List.replicate (1 - (lg_sl ([.ref ha])).length) Slot.unset).toArray = ls at hl ⊢
  have hl : lv_has ls 1 [(0, .ref ha)] := hl
  obtain ⟨H, hH⟩ : ∃ H, H = s.heap := ⟨_, rfl⟩
  rw [← hH] at hP
  have hS : va_S A s.heap H [] := by rw [hH]; exact hS
  refine gx_start hH ?_
  refine lv_aload_n hx hb d_Atoms_init_0 rfl (lv_at hl 0 rfl) ?_
  refine W.objInit hx hb hown (hts (.methodLink R_Atoms 3 objectInit) (by decide +kernel)) (hts (.instanceMethod objectInit) (by decide +kernel)) (hts _ (List.mem_cons_of_mem _ kw_69)) rfl (by rw [hml]; exact hl.1) rfl d_Atoms_init_1 (Nat.le_of_ble_eq_true rfl) (Nat.le_of_ble_eq_true rfl) ?_
  refine W.eq (g2 := F0 m 4 ls []) rfl ?_
  refine lv_aload_n hx hb d_Atoms_init_4 rfl (lv_at hl 0 rfl) ?_
  refine lv_bipush (v := nI 10) hx hb d_Atoms_init_5 (by decide) ?_
  refine gx_newd hx hb (hts _ (List.mem_cons_of_mem _ kw_160)) hK hP hD hS hA 10 (by omega) (Nat.le_of_ble_eq_true rfl) (Nat.le_of_ble_eq_true rfl) d_Atoms_init_7 (fun hax H hP hD hS => ?_)
  have hP : va_P (dC, dI) classes [(ha, .inr (0, [.null, .null, .null, .null, .null, .null, .null, .int z0])), (hax, .inl (cD, 10, .inr (.inr (.inr (.inl (fun _ => FP.dconst0))))))] H := hP
  have hD : va_D A [(ha, .inr (0, [.null, .null, .null, .null, .null, .null, .null, .int z0])), (hax, .inl (cD, 10, .inr (.inr (.inr (.inl (fun _ => FP.dconst0))))))] := hD
  refine va_putF (D := (dC, dI)) (ci := 0) (v := .ref hax) (ty := (.array .double)) (C := R_Atoms) (T := F_Atoms) (N := 8) hx hb hts (fun w h => List.mem_cons_of_mem _ (i_Atoms w h)) t_Atoms t_Atoms_ok n_Atoms hown hK hP hD hS 0 rfl rfl 0 (by decide) (hts _ (List.mem_cons_of_mem _ kw_112)) (fun _ h9 => h9) rfl hin rfl (by decide +kernel) rfl rfl (Nat.le_of_ble_eq_true rfl) d_Atoms_init_9 (fun H locs hP hD hS => ?_)
  have hP : va_P (dC, dI) classes [(ha, .inr (0, [.ref hax, .null, .null, .null, .null, .null, .null, .int z0])), (hax, .inl (cD, 10, .inr (.inr (.inr (.inl (fun _ => FP.dconst0))))))] H := hP
  have hD : va_D A [(ha, .inr (0, [.ref hax, .null, .null, .null, .null, .null, .null, .int z0])), (hax, .inl (cD, 10, .inr (.inr (.inr (.inl (fun _ => FP.dconst0))))))] := hD
  refine lv_aload_n hx hb d_Atoms_init_12 rfl (lv_at hl 0 rfl) ?_
  refine lv_bipush (v := nI 10) hx hb d_Atoms_init_13 (by decide) ?_
  refine gx_newd hx hb (hts _ (List.mem_cons_of_mem _ kw_160)) hK hP hD hS hA 10 (by omega) (Nat.le_of_ble_eq_true rfl) (Nat.le_of_ble_eq_true rfl) d_Atoms_init_15 (fun hay H hP hD hS => ?_)
  have hP : va_P (dC, dI) classes [(ha, .inr (0, [.ref hax, .null, .null, .null, .null, .null, .null, .int z0])), (hax, .inl (cD, 10, .inr (.inr (.inr (.inl (fun _ => FP.dconst0)))))), (hay, .inl (cD, 10, .inr (.inr (.inr (.inl (fun _ => FP.dconst0))))))] H := hP
  have hD : va_D A [(ha, .inr (0, [.ref hax, .null, .null, .null, .null, .null, .null, .int z0])), (hax, .inl (cD, 10, .inr (.inr (.inr (.inl (fun _ => FP.dconst0)))))), (hay, .inl (cD, 10, .inr (.inr (.inr (.inl (fun _ => FP.dconst0))))))] := hD
  refine va_putF (D := (dC, dI)) (ci := 0) (v := .ref hay) (ty := (.array .double)) (C := R_Atoms) (T := F_Atoms) (N := 8) hx hb hts (fun w h => List.mem_cons_of_mem _ (i_Atoms w h)) t_Atoms t_Atoms_ok n_Atoms hown hK hP hD hS 0 rfl rfl 1 (by decide) (hts _ (List.mem_cons_of_mem _ kw_117)) (fun _ h9 => h9) rfl hin rfl (by decide +kernel) rfl rfl (Nat.le_of_ble_eq_true rfl) d_Atoms_init_17 (fun H locs hP hD hS => ?_)
  have hP : va_P (dC, dI) classes [(ha, .inr (0, [.ref hax, .ref hay, .null, .null, .null, .null, .null, .int z0])), (hax, .inl (cD, 10, .inr (.inr (.inr (.inl (fun _ => FP.dconst0)))))), (hay, .inl (cD, 10, .inr (.inr (.inr (.inl (fun _ => FP.dconst0))))))] H := hP
  have hD : va_D A [(ha, .inr (0, [.ref hax, .ref hay, .null, .null, .null, .null, .null, .int z0])), (hax, .inl (cD, 10, .inr (.inr (.inr (.inl (fun _ => FP.dconst0)))))), (hay, .inl (cD, 10, .inr (.inr (.inr (.inl (fun _ => FP.dconst0))))))] := hD
  refine lv_aload_n hx hb d_Atoms_init_20 rfl (lv_at hl 0 rfl) ?_
  refine lv_bipush (v := nI 10) hx hb d_Atoms_init_21 (by decide) ?_
  refine gx_newd hx hb (hts _ (List.mem_cons_of_mem _ kw_160)) hK hP hD hS hA 10 (by omega) (Nat.le_of_ble_eq_true rfl) (Nat.le_of_ble_eq_true rfl) d_Atoms_init_23 (fun hau H hP hD hS => ?_)
  have hP : va_P (dC, dI) classes [(ha, .inr (0, [.ref hax, .ref hay, .null, .null, .null, .null, .null, .int z0])), (hax, .inl (cD, 10, .inr (.inr (.inr (.inl (fun _ => FP.dconst0)))))), (hay, .inl (cD, 10, .inr (.inr (.inr (.inl (fun _ => FP.dconst0)))))), (hau, .inl (cD, 10, .inr (.inr (.inr (.inl (fun _ => FP.dconst0))))))] H := hP
  have hD : va_D A [(ha, .inr (0, [.ref hax, .ref hay, .null, .null, .null, .null, .null, .int z0])), (hax, .inl (cD, 10, .inr (.inr (.inr (.inl (fun _ => FP.dconst0)))))), (hay, .inl (cD, 10, .inr (.inr (.inr (.inl (fun _ => FP.dconst0)))))), (hau, .inl (cD, 10, .inr (.inr (.inr (.inl (fun _ => FP.dconst0))))))] := hD
  refine va_putF (D := (dC, dI)) (ci := 0) (v := .ref hau) (ty := (.array .double)) (C := R_Atoms) (T := F_Atoms) (N := 8) hx hb hts (fun w h => List.mem_cons_of_mem _ (i_Atoms w h)) t_Atoms t_Atoms_ok n_Atoms hown hK hP hD hS 0 rfl rfl 2 (by decide) (hts _ (List.mem_cons_of_mem _ kw_122)) (fun _ h9 => h9) rfl hin rfl (by decide +kernel) rfl rfl (Nat.le_of_ble_eq_true rfl) d_Atoms_init_25 (fun H locs hP hD hS => ?_)
  have hP : va_P (dC, dI) classes [(ha, .inr (0, [.ref hax, .ref hay, .ref hau, .null, .null, .null, .null, .int z0])), (hax, .inl (cD, 10, .inr (.inr (.inr (.inl (fun _ => FP.dconst0)))))), (hay, .inl (cD, 10, .inr (.inr (.inr (.inl (fun _ => FP.dconst0)))))), (hau, .inl (cD, 10, .inr (.inr (.inr (.inl (fun _ => FP.dconst0))))))] H := hP
  have hD : va_D A [(ha, .inr (0, [.ref hax, .ref hay, .ref hau, .null, .null, .null, .null, .int z0])), (hax, .inl (cD, 10, .inr (.inr (.inr (.inl (fun _ => FP.dconst0)))))), (hay, .inl (cD, 10, .inr (.inr (.inr (.inl (fun _ => FP.dconst0)))))), (hau, .inl (cD, 10, .inr (.inr (.inr (.inl (fun _ => FP.dconst0))))))] := hD
  refine lv_aload_n hx hb d_Atoms_init_28 rfl (lv_at hl 0 rfl) ?_
  refine lv_bipush (v := nI 10) hx hb d_Atoms_init_29 (by decide) ?_
  refine gx_newd hx hb (hts _ (List.mem_cons_of_mem _ kw_160)) hK hP hD hS hA 10 (by omega) (Nat.le_of_ble_eq_true rfl) (Nat.le_of_ble_eq_true rfl) d_Atoms_init_31 (fun hav H hP hD hS => ?_)
  have hP : va_P (dC, dI) classes [(ha, .inr (0, [.ref hax, .ref hay, .ref hau, .null, .null, .null, .null, .int z0])), (hax, .inl (cD, 10, .inr (.inr (.inr (.inl (fun _ => FP.dconst0)))))), (hay, .inl (cD, 10, .inr (.inr (.inr (.inl (fun _ => FP.dconst0)))))), (hau, .inl (cD, 10, .inr (.inr (.inr (.inl (fun _ => FP.dconst0)))))), (hav, .inl (cD, 10, .inr (.inr (.inr (.inl (fun _ => FP.dconst0))))))] H := hP
  have hD : va_D A [(ha, .inr (0, [.ref hax, .ref hay, .ref hau, .null, .null, .null, .null, .int z0])), (hax, .inl (cD, 10, .inr (.inr (.inr (.inl (fun _ => FP.dconst0)))))), (hay, .inl (cD, 10, .inr (.inr (.inr (.inl (fun _ => FP.dconst0)))))), (hau, .inl (cD, 10, .inr (.inr (.inr (.inl (fun _ => FP.dconst0)))))), (hav, .inl (cD, 10, .inr (.inr (.inr (.inl (fun _ => FP.dconst0))))))] := hD
  refine va_putF (D := (dC, dI)) (ci := 0) (v := .ref hav) (ty := (.array .double)) (C := R_Atoms) (T := F_Atoms) (N := 8) hx hb hts (fun w h => List.mem_cons_of_mem _ (i_Atoms w h)) t_Atoms t_Atoms_ok n_Atoms hown hK hP hD hS 0 rfl rfl 3 (by decide) (hts _ (List.mem_cons_of_mem _ kw_125)) (fun _ h9 => h9) rfl hin rfl (by decide +kernel) rfl rfl (Nat.le_of_ble_eq_true rfl) d_Atoms_init_33 (fun H locs hP hD hS => ?_)
  have hP : va_P (dC, dI) classes [(ha, .inr (0, [.ref hax, .ref hay, .ref hau, .ref hav, .null, .null, .null, .int z0])), (hax, .inl (cD, 10, .inr (.inr (.inr (.inl (fun _ => FP.dconst0)))))), (hay, .inl (cD, 10, .inr (.inr (.inr (.inl (fun _ => FP.dconst0)))))), (hau, .inl (cD, 10, .inr (.inr (.inr (.inl (fun _ => FP.dconst0)))))), (hav, .inl (cD, 10, .inr (.inr (.inr (.inl (fun _ => FP.dconst0))))))] H := hP
  have hD : va_D A [(ha, .inr (0, [.ref hax, .ref hay, .ref hau, .ref hav, .null, .null, .null, .int z0])), (hax, .inl (cD, 10, .inr (.inr (.inr (.inl (fun _ => FP.dconst0)))))), (hay, .inl (cD, 10, .inr (.inr (.inr (.inl (fun _ => FP.dconst0)))))), (hau, .inl (cD, 10, .inr (.inr (.inr (.inl (fun _ => FP.dconst0)))))), (hav, .inl (cD, 10, .inr (.inr (.inr (.inl (fun _ => FP.dconst0))))))] := hD
  refine lv_aload_n hx hb d_Atoms_init_36 rfl (lv_at hl 0 rfl) ?_
  refine lv_bipush (v := nI 10) hx hb d_Atoms_init_37 (by decide) ?_
  refine gx_newd hx hb (hts _ (List.mem_cons_of_mem _ kw_160)) hK hP hD hS hA 10 (by omega) (Nat.le_of_ble_eq_true rfl) (Nat.le_of_ble_eq_true rfl) d_Atoms_init_39 (fun ham H hP hD hS => ?_)
  have hP : va_P (dC, dI) classes [(ha, .inr (0, [.ref hax, .ref hay, .ref hau, .ref hav, .null, .null, .null, .int z0])), (hax, .inl (cD, 10, .inr (.inr (.inr (.inl (fun _ => FP.dconst0)))))), (hay, .inl (cD, 10, .inr (.inr (.inr (.inl (fun _ => FP.dconst0)))))), (hau, .inl (cD, 10, .inr (.inr (.inr (.inl (fun _ => FP.dconst0)))))), (hav, .inl (cD, 10, .inr (.inr (.inr (.inl (fun _ => FP.dconst0)))))), (ham, .inl (cD, 10, .inr (.inr (.inr (.inl (fun _ => FP.dconst0))))))] H := hP
  have hD : va_D A [(ha, .inr (0, [.ref hax, .ref hay, .ref hau, .ref hav, .null, .null, .null, .int z0])), (hax, .inl (cD, 10, .inr (.inr (.inr (.inl (fun _ => FP.dconst0)))))), (hay, .inl (cD, 10, .inr (.inr (.inr (.inl (fun _ => FP.dconst0)))))), (hau, .inl (cD, 10, .inr (.inr (.inr (.inl (fun _ => FP.dconst0)))))), (hav, .inl (cD, 10, .inr (.inr (.inr (.inl (fun _ => FP.dconst0)))))), (ham, .inl (cD, 10, .inr (.inr (.inr (.inl (fun _ => FP.dconst0))))))] := hD
  refine va_putF (D := (dC, dI)) (ci := 0) (v := .ref ham) (ty := (.array .double)) (C := R_Atoms) (T := F_Atoms) (N := 8) hx hb hts (fun w h => List.mem_cons_of_mem _ (i_Atoms w h)) t_Atoms t_Atoms_ok n_Atoms hown hK hP hD hS 0 rfl rfl 4 (by decide) (hts _ (List.mem_cons_of_mem _ kw_128)) (fun _ h9 => h9) rfl hin rfl (by decide +kernel) rfl rfl (Nat.le_of_ble_eq_true rfl) d_Atoms_init_41 (fun H locs hP hD hS => ?_)
  have hP : va_P (dC, dI) classes [(ha, .inr (0, [.ref hax, .ref hay, .ref hau, .ref hav, .ref ham, .null, .null, .int z0])), (hax, .inl (cD, 10, .inr (.inr (.inr (.inl (fun _ => FP.dconst0)))))), (hay, .inl (cD, 10, .inr (.inr (.inr (.inl (fun _ => FP.dconst0)))))), (hau, .inl (cD, 10, .inr (.inr (.inr (.inl (fun _ => FP.dconst0)))))), (hav, .inl (cD, 10, .inr (.inr (.inr (.inl (fun _ => FP.dconst0)))))), (ham, .inl (cD, 10, .inr (.inr (.inr (.inl (fun _ => FP.dconst0))))))] H := hP
  have hD : va_D A [(ha, .inr (0, [.ref hax, .ref hay, .ref hau, .ref hav, .ref ham, .null, .null, .int z0])), (hax, .inl (cD, 10, .inr (.inr (.inr (.inl (fun _ => FP.dconst0)))))), (hay, .inl (cD, 10, .inr (.inr (.inr (.inl (fun _ => FP.dconst0)))))), (hau, .inl (cD, 10, .inr (.inr (.inr (.inl (fun _ => FP.dconst0)))))), (hav, .inl (cD, 10, .inr (.inr (.inr (.inl (fun _ => FP.dconst0)))))), (ham, .inl (cD, 10, .inr (.inr (.inr (.inl (fun _ => FP.dconst0))))))] := hD
  refine lv_aload_n hx hb d_Atoms_init_44 rfl (lv_at hl 0 rfl) ?_
  refine lv_bipush (v := nI 10) hx hb d_Atoms_init_45 (by decide) ?_
  refine gx_newi hx hb (hts _ (List.mem_cons_of_mem _ kw_161)) hK hP hD hS hA 10 (by omega) (Nat.le_of_ble_eq_true rfl) (Nat.le_of_ble_eq_true rfl) d_Atoms_init_47 (fun has H hP hD hS => ?_)
  have hP : va_P (dC, dI) classes [(ha, .inr (0, [.ref hax, .ref hay, .ref hau, .ref hav, .ref ham, .null, .null, .int z0])), (hax, .inl (cD, 10, .inr (.inr (.inr (.inl (fun _ => FP.dconst0)))))), (hay, .inl (cD, 10, .inr (.inr (.inr (.inl (fun _ => FP.dconst0)))))), (hau, .inl (cD, 10, .inr (.inr (.inr (.inl (fun _ => FP.dconst0)))))), (hav, .inl (cD, 10, .inr (.inr (.inr (.inl (fun _ => FP.dconst0)))))), (ham, .inl (cD, 10, .inr (.inr (.inr (.inl (fun _ => FP.dconst0)))))), (has, .inl (cI, 10, .inl (fun _ => 0)))] H := hP
  have hD : va_D A [(ha, .inr (0, [.ref hax, .ref hay, .ref hau, .ref hav, .ref ham, .null, .null, .int z0])), (hax, .inl (cD, 10, .inr (.inr (.inr (.inl (fun _ => FP.dconst0)))))), (hay, .inl (cD, 10, .inr (.inr (.inr (.inl (fun _ => FP.dconst0)))))), (hau, .inl (cD, 10, .inr (.inr (.inr (.inl (fun _ => FP.dconst0)))))), (hav, .inl (cD, 10, .inr (.inr (.inr (.inl (fun _ => FP.dconst0)))))), (ham, .inl (cD, 10, .inr (.inr (.inr (.inl (fun _ => FP.dconst0)))))), (has, .inl (cI, 10, .inl (fun _ => 0)))] := hD
  refine va_putF (D := (dC, dI)) (ci := 0) (v := .ref has) (ty := (.array .int)) (C := R_Atoms) (T := F_Atoms) (N := 8) hx hb hts (fun w h => List.mem_cons_of_mem _ (i_Atoms w h)) t_Atoms t_Atoms_ok n_Atoms hown hK hP hD hS 0 rfl rfl 5 (by decide) (hts _ (List.mem_cons_of_mem _ kw_131)) (fun _ h9 => h9) rfl hin rfl (by decide +kernel) rfl rfl (Nat.le_of_ble_eq_true rfl) d_Atoms_init_49 (fun H locs hP hD hS => ?_)
  have hP : va_P (dC, dI) classes [(ha, .inr (0, [.ref hax, .ref hay, .ref hau, .ref hav, .ref ham, .ref has, .null, .int z0])), (hax, .inl (cD, 10, .inr (.inr (.inr (.inl (fun _ => FP.dconst0)))))), (hay, .inl (cD, 10, .inr (.inr (.inr (.inl (fun _ => FP.dconst0)))))), (hau, .inl (cD, 10, .inr (.inr (.inr (.inl (fun _ => FP.dconst0)))))), (hav, .inl (cD, 10, .inr (.inr (.inr (.inl (fun _ => FP.dconst0)))))), (ham, .inl (cD, 10, .inr (.inr (.inr (.inl (fun _ => FP.dconst0)))))), (has, .inl (cI, 10, .inl (fun _ => 0)))] H := hP
  have hD : va_D A [(ha, .inr (0, [.ref hax, .ref hay, .ref hau, .ref hav, .ref ham, .ref has, .null, .int z0])), (hax, .inl (cD, 10, .inr (.inr (.inr (.inl (fun _ => FP.dconst0)))))), (hay, .inl (cD, 10, .inr (.inr (.inr (.inl (fun _ => FP.dconst0)))))), (hau, .inl (cD, 10, .inr (.inr (.inr (.inl (fun _ => FP.dconst0)))))), (hav, .inl (cD, 10, .inr (.inr (.inr (.inl (fun _ => FP.dconst0)))))), (ham, .inl (cD, 10, .inr (.inr (.inr (.inl (fun _ => FP.dconst0)))))), (has, .inl (cI, 10, .inl (fun _ => 0)))] := hD
  refine lv_aload_n hx hb d_Atoms_init_52 rfl (lv_at hl 0 rfl) ?_
  refine lv_bipush (v := nI 10) hx hb d_Atoms_init_53 (by decide) ?_
  refine gx_newz hx hb (hts _ (List.mem_cons_of_mem _ kw_162)) hK hP hD hS hA 10 (by omega) (Nat.le_of_ble_eq_true rfl) (Nat.le_of_ble_eq_true rfl) d_Atoms_init_55 (fun hak H hP hD hS => ?_)
  have hP : va_P (dC, dI) classes [(ha, .inr (0, [.ref hax, .ref hay, .ref hau, .ref hav, .ref ham, .ref has, .null, .int z0])), (hax, .inl (cD, 10, .inr (.inr (.inr (.inl (fun _ => FP.dconst0)))))), (hay, .inl (cD, 10, .inr (.inr (.inr (.inl (fun _ => FP.dconst0)))))), (hau, .inl (cD, 10, .inr (.inr (.inr (.inl (fun _ => FP.dconst0)))))), (hav, .inl (cD, 10, .inr (.inr (.inr (.inl (fun _ => FP.dconst0)))))), (ham, .inl (cD, 10, .inr (.inr (.inr (.inl (fun _ => FP.dconst0)))))), (has, .inl (cI, 10, .inl (fun _ => 0))), (hak, .inl (cZ, 10, .inl (fun _ => 0)))] H := hP
  have hD : va_D A [(ha, .inr (0, [.ref hax, .ref hay, .ref hau, .ref hav, .ref ham, .ref has, .null, .int z0])), (hax, .inl (cD, 10, .inr (.inr (.inr (.inl (fun _ => FP.dconst0)))))), (hay, .inl (cD, 10, .inr (.inr (.inr (.inl (fun _ => FP.dconst0)))))), (hau, .inl (cD, 10, .inr (.inr (.inr (.inl (fun _ => FP.dconst0)))))), (hav, .inl (cD, 10, .inr (.inr (.inr (.inl (fun _ => FP.dconst0)))))), (ham, .inl (cD, 10, .inr (.inr (.inr (.inl (fun _ => FP.dconst0)))))), (has, .inl (cI, 10, .inl (fun _ => 0))), (hak, .inl (cZ, 10, .inl (fun _ => 0)))] := hD
  refine va_putF (D := (dC, dI)) (ci := 0) (v := .ref hak) (ty := (.array .boolean)) (C := R_Atoms) (T := F_Atoms) (N := 8) hx hb hts (fun w h => List.mem_cons_of_mem _ (i_Atoms w h)) t_Atoms t_Atoms_ok n_Atoms hown hK hP hD hS 0 rfl rfl 6 (by decide) (hts _ (List.mem_cons_of_mem _ kw_134)) (fun _ h9 => h9) rfl hin rfl (by decide +kernel) rfl rfl (Nat.le_of_ble_eq_true rfl) d_Atoms_init_57 (fun H locs hP hD hS => ?_)
  have hP : va_P (dC, dI) classes [(ha, .inr (0, [.ref hax, .ref hay, .ref hau, .ref hav, .ref ham, .ref has, .ref hak, .int z0])), (hax, .inl (cD, 10, .inr (.inr (.inr (.inl (fun _ => FP.dconst0)))))), (hay, .inl (cD, 10, .inr (.inr (.inr (.inl (fun _ => FP.dconst0)))))), (hau, .inl (cD, 10, .inr (.inr (.inr (.inl (fun _ => FP.dconst0)))))), (hav, .inl (cD, 10, .inr (.inr (.inr (.inl (fun _ => FP.dconst0)))))), (ham, .inl (cD, 10, .inr (.inr (.inr (.inl (fun _ => FP.dconst0)))))), (has, .inl (cI, 10, .inl (fun _ => 0))), (hak, .inl (cZ, 10, .inl (fun _ => 0)))] H := hP
  have hD : va_D A [(ha, .inr (0, [.ref hax, .ref hay, .ref hau, .ref hav, .ref ham, .ref has, .ref hak, .int z0])), (hax, .inl (cD, 10, .inr (.inr (.inr (.inl (fun _ => FP.dconst0)))))), (hay, .inl (cD, 10, .inr (.inr (.inr (.inl (fun _ => FP.dconst0)))))), (hau, .inl (cD, 10, .inr (.inr (.inr (.inl (fun _ => FP.dconst0)))))), (hav, .inl (cD, 10, .inr (.inr (.inr (.inl (fun _ => FP.dconst0)))))), (ham, .inl (cD, 10, .inr (.inr (.inr (.inl (fun _ => FP.dconst0)))))), (has, .inl (cI, 10, .inl (fun _ => 0))), (hak, .inl (cZ, 10, .inl (fun _ => 0)))] := hD
  have hP9 := hP.sub (ws' := [(ha, .inr (0, [.ref hax, .ref hay, .ref hau, .ref hav, .ref ham, .ref has, .ref hak, .int z0])), (hax, .inl (cD, 10, .inr (.inr (.inr (.inl (fun _ => FP.dconst0)))))), (hay, .inl (cD, 10, .inr (.inr (.inr (.inl (fun _ => FP.dconst0)))))), (hau, .inl (cD, 10, .inr (.inr (.inr (.inl (fun _ => FP.dconst0)))))), (hav, .inl (cD, 10, .inr (.inr (.inr (.inl (fun _ => FP.dconst0)))))), (ham, .inl (cD, 10, .inr (.inr (.inr (.inl (fun _ => FP.dconst0)))))), (has, .inl (cI, 10, .inl (fun _ => 0))), (hak, .inl (cZ, 10, .inl (fun _ => 0)))]) [0, 1, 2, 3, 4, 5, 6, 7] rfl
  have hD9 := hD.sub (ws' := [(ha, .inr (0, [.ref hax, .ref hay, .ref hau, .ref hav, .ref ham, .ref has, .ref hak, .int z0])), (hax, .inl (cD, 10, .inr (.inr (.inr (.inl (fun _ => FP.dconst0)))))), (hay, .inl (cD, 10, .inr (.inr (.inr (.inl (fun _ => FP.dconst0)))))), (hau, .inl (cD, 10, .inr (.inr (.inr (.inl (fun _ => FP.dconst0)))))), (hav, .inl (cD, 10, .inr (.inr (.inr (.inl (fun _ => FP.dconst0)))))), (ham, .inl (cD, 10, .inr (.inr (.inr (.inl (fun _ => FP.dconst0)))))), (has, .inl (cI, 10, .inl (fun _ => 0))), (hak, .inl (cZ, 10, .inl (fun _ => 0)))]) [0, 1, 2, 3, 4, 5, 6, 7] (by decide) rfl
  refine W.widen (k := 7) (n := 70) (by omega) (by omega) ?_
  exact W.vret hx hb hr (fun tt9 ht9 hW9 => ⟨⟨(hax, hay, hau, hav, ham, has, hak), rfl, trivial, by rw [ht9]; exact hP9, va_K.moved hW9.alike hK, hD9⟩, hS.F ht9⟩) hS.2.2 d_Atoms_init_60
set_option maxHeartbeats 4000000 in
set_option maxRecDepth 100000 in
/-- new Samples -/
theorem c_Samples_init (l : Launch) (dC : Nat → ClassId) (dI : Nat → Nat → Nat) (cI cD cZ : ClassId) (sz : Nat) (hsm : Nat) (z0 : Int32) : Met l y_Samples_init w_Samples_init ({ frames := 1, cells := 1, slots := 144, locals := 12 }) (va_Pc [.ref hsm] (gx_B (dC, dI) classes (gx_T cI cD cZ) [(hsm, .inr (5, [.null, .int z0]))] sz)) (va_Qv (fun (hsb : Nat) => True) (fun (hsb : Nat) t => gx_E (dC, dI) classes (gx_T cI cD cZ) (va_A [(hsm, .inr (5, [.null, .int z0]))] sz) [(hsm, .inr (5, [.ref hsb, .int z0])), (hsb, .inl (cI, 144, .inl (fun _ => 0)))] t) (va_A [(hsm, .inr (5, [.null, .int z0]))] sz)) 1 144 (va_A [(hsm, .inr (5, [.null, .int z0]))] sz) := by
  refine Met.ofW (cc := b_Samples_init) (maxL := 1) (ret := none) (by decide) rfl ?_
  intro p e s m args below meth c s₁ B hml hv
  obtain ⟨rfl, hsz, hP, hK, hD0, hN⟩ := hv
  have hx := B.exec
  have hb := B.bytes
  have hr := B.returns
  have hts := atoms_spec (ws := w_Samples_init) B.pre
  have hown : s.vm.findClass R_Samples = some m.cls := findClass_of_methodNamed B.named
  have hlocks := B.notSynchronized
  have hin : meth.name = "<init>" := (name_of_methodNamed B.named B.method).1
  subst hsz
  have hD := hD0.self (sz := s.heap.size)
  generalize hAe : va_A [(hsm, .inr (5, [.null, .int z0]))] s.heap.size = A at hD ⊢
  have hA : ∀ q : Nat, s.heap.size ≤ q → A q := fun q h => by rw [← hAe]; exact Or.inr h
  have hS : va_S A s.heap s.heap [] := va_S.rf
  have hl := lv_entry ([.ref hsm]) (n := 1) (Nat.le_of_ble_eq_true rfl)
  rw [lg_entry_eq]
  generalize (lg_sl ([.ref hsm]) ++ List.replicate (1 - (lg_sl ([.ref hsm])).length) Slot.unset).toArray = ls at hl ⊢
  have hl : lv_has ls 1 [(0, .ref hsm)] := hl
  obtain ⟨H, hH⟩ : ∃ H, H = s.heap := ⟨_, rfl⟩
  rw [← hH] at hP
  have hS : va_S A s.heap H [] := by rw [hH]; exact hS
  refine gx_start hH ?_
  refine lv_aload_n hx hb d_Samples_init_0 rfl (lv_at hl 0 rfl) ?_
  refine W.objInit hx hb hown (hts (.methodLink R_Samples 3 objectInit) (by decide +kernel)) (hts (.instanceMethod objectInit) (by decide +kernel)) (hts _ (List.mem_cons_of_mem _ kw_69)) rfl (by rw [hml]; exact hl.1) rfl d_Samples_init_1 (Nat.le_of_ble_eq_true rfl) (Nat.le_of_ble_eq_true rfl) ?_
  refine W.eq (g2 := F0 m 4 ls []) rfl ?_
  refine lv_aload_n hx hb d_Samples_init_4 rfl (lv_at hl 0 rfl) ?_
  refine lv_sipush (v := nI 144) hx hb d_Samples_init_5 (by decide) ?_
  refine gx_newi hx hb (hts _ (List.mem_cons_of_mem _ kw_161)) hK hP hD hS hA 144 (by omega) (Nat.le_of_ble_eq_true rfl) (Nat.le_of_ble_eq_true rfl) d_Samples_init_8 (fun hsb H hP hD hS => ?_)
  have hP : va_P (dC, dI) classes [(hsm, .inr (5, [.null, .int z0])), (hsb, .inl (cI, 144, .inl (fun _ => 0)))] H := hP
  have hD : va_D A [(hsm, .inr (5, [.null, .int z0])), (hsb, .inl (cI, 144, .inl (fun _ => 0)))] := hD
  refine va_putF (D := (dC, dI)) (ci := 5) (v := .ref hsb) (ty := (.array .int)) (C := R_Samples) (T := F_Samples) (N := 2) hx hb hts (fun w h => List.mem_cons_of_mem _ (i_Samples w h)) t_Samples t_Samples_ok n_Samples hown hK hP hD hS 0 rfl rfl 0 (by decide) (hts _ (List.mem_cons_of_mem _ kw_327)) (fun _ h9 => h9) rfl hin rfl (by decide +kernel) rfl rfl (Nat.le_of_ble_eq_true rfl) d_Samples_init_10 (fun H locs hP hD hS => ?_)
  have hP : va_P (dC, dI) classes [(hsm, .inr (5, [.ref hsb, .int z0])), (hsb, .inl (cI, 144, .inl (fun _ => 0)))] H := hP
  have hD : va_D A [(hsm, .inr (5, [.ref hsb, .int z0])), (hsb, .inl (cI, 144, .inl (fun _ => 0)))] := hD
  have hP9 := hP.sub (ws' := [(hsm, .inr (5, [.ref hsb, .int z0])), (hsb, .inl (cI, 144, .inl (fun _ => 0)))]) [0, 1] rfl
  have hD9 := hD.sub (ws' := [(hsm, .inr (5, [.ref hsb, .int z0])), (hsb, .inl (cI, 144, .inl (fun _ => 0)))]) [0, 1] (by decide) rfl
  refine W.widen (k := 1) (n := 144) (by omega) (by omega) ?_
  exact W.vret hx hb hr (fun tt9 ht9 hW9 => ⟨⟨hsb, rfl, trivial, by rw [ht9]; exact hP9, va_K.moved hW9.alike hK, hD9⟩, hS.F ht9⟩) hS.2.2 d_Samples_init_13
set_option maxHeartbeats 4000000 in
set_option maxRecDepth 100000 in
/-- new Links -/
theorem c_Links_init (l : Launch) (dC : Nat → ClassId) (dI : Nat → Nat → Nat) (cI cD cZ : ClassId) (sz : Nat) (hl0 : Nat) (z0 : Int32) (most : Nat) (hmost : most ≤ 8) : Met l y_Links_init w_Links_init ({ frames := 1, cells := 4, slots := 32, locals := 12 }) (va_Pc [.ref hl0, .int (nI most)] (gx_B (dC, dI) classes (gx_T cI cD cZ) [(hl0, .inr (1, [.null, .null, .null, .null, .int z0]))] sz)) (va_Qv (fun (uu : Nat × Nat × Nat × Nat) => match uu with | (hlf, hls, hlk, hll) => True) (fun (uu : Nat × Nat × Nat × Nat) t => gx_E (dC, dI) classes (gx_T cI cD cZ) (va_A [(hl0, .inr (1, [.null, .null, .null, .null, .int z0]))] sz) (match uu with | (hlf, hls, hlk, hll) => [(hl0, .inr (1, [.ref hlf, .ref hls, .ref hlk, .ref hll, .int z0])), (hlf, .inl (cI, most, .inl (fun _ => 0))), (hls, .inl (cI, most, .inl (fun _ => 0))), (hlk, .inl (cD, most, .inr (.inr (.inr (.inl (fun _ => FP.dconst0)))))), (hll, .inl (cD, most, .inr (.inr (.inr (.inl (fun _ => FP.dconst0))))))]) t) (va_A [(hl0, .inr (1, [.null, .null, .null, .null, .int z0]))] sz)) 4 32 (va_A [(hl0, .inr (1, [.null, .null, .null, .null, .int z0]))] sz) := by
  refine Met.ofW (cc := b_Links_init) (maxL := 2) (ret := none) (by decide) rfl ?_
  intro p e s m args below meth c s₁ B hml hv
  obtain ⟨rfl, hsz, hP, hK, hD0, hN⟩ := hv
  have hx := B.exec
  have hb := B.bytes
  have hr := B.returns
  have hts := atoms_spec (ws := w_Links_init) B.pre
  have hown : s.vm.findClass R_Links = some m.cls := findClass_of_methodNamed B.named
  have hlocks := B.notSynchronized
  have hin : meth.name = "<init>" := (name_of_methodNamed B.named B.method).1
  subst hsz
  have hD := hD0.self (sz := s.heap.size)
  generalize hAe : va_A [(hl0, .inr (1, [.null, .null, .null, .null, .int z0]))] s.heap.size = A at hD ⊢
  have hA : ∀ q : Nat, s.heap.size ≤ q → A q := fun q h => by rw [← hAe]; exact Or.inr h
  have hS : va_S A s.heap s.heap [] := va_S.rf
  have hl := lv_entry ([.ref hl0, .int (nI most)]) (n := 2) (Nat.le_of_ble_eq_true rfl)
  rw [lg_entry_eq]
  generalize (lg_sl ([.ref hl0, .int (nI most)]) ++ List.replicate (2 - (lg_sl ([.ref hl0, .int (nI most)])).length) Slot.unset).toArray = ls at hl ⊢
  have hl : lv_has ls 2 [(0, .ref hl0), (1, .int (nI most))] := hl
  obtain ⟨H, hH⟩ : ∃ H, H = s.heap := ⟨_, rfl⟩
  rw [← hH] at hP
  have hS : va_S A s.heap H [] := by rw [hH]; exact hS
  refine gx_start hH ?_
  refine lv_aload_n hx hb d_Links_init_0 rfl (lv_at hl 0 rfl) ?_
  refine W.objInit hx hb hown (hts (.methodLink R_Links 1 objectInit) (by decide +kernel)) (hts (.instanceMethod objectInit) (by decide +kernel)) (hts _ (List.mem_cons_of_mem _ kw_69)) rfl (by rw [hml]; exact hl.1) rfl d_Links_init_1 (Nat.le_of_ble_eq_true rfl) (Nat.le_of_ble_eq_true rfl) ?_
  refine W.eq (g2 := F0 m 4 ls []) rfl ?_
  refine lv_aload_n hx hb d_Links_init_4 rfl (lv_at hl 0 rfl) ?_
  refine lv_iload_n hx hb d_Links_init_5 rfl (lv_at hl 1 rfl) ?_
  refine gx_newi hx hb (hts _ (List.mem_cons_of_mem _ kw_161)) hK hP hD hS hA most (by omega) (by show _ ≤ _; first | exact Nat.le_of_ble_eq_true rfl | (dsimp only [headSpec]; omega)) (by show _ ≤ _; first | exact Nat.le_of_ble_eq_true rfl | (dsimp only [headSpec]; omega)) d_Links_init_6 (fun hlf H hP hD hS => ?_)
  have hP : va_P (dC, dI) classes [(hl0, .inr (1, [.null, .null, .null, .null, .int z0])), (hlf, .inl (cI, most, .inl (fun _ => 0)))] H := hP
  have hD : va_D A [(hl0, .inr (1, [.null, .null, .null, .null, .int z0])), (hlf, .inl (cI, most, .inl (fun _ => 0)))] := hD
  refine va_putF (D := (dC, dI)) (ci := 1) (v := .ref hlf) (ty := (.array .int)) (C := R_Links) (T := F_Links) (N := 5) hx hb hts (fun w h => List.mem_cons_of_mem _ (i_Links w h)) t_Links t_Links_ok n_Links hown hK hP hD hS 0 rfl rfl 0 (by decide) (hts _ (List.mem_cons_of_mem _ kw_191)) (fun _ h9 => h9) rfl hin rfl (by decide +kernel) rfl rfl (Nat.le_of_ble_eq_true rfl) d_Links_init_8 (fun H locs hP hD hS => ?_)
  have hP : va_P (dC, dI) classes [(hl0, .inr (1, [.ref hlf, .null, .null, .null, .int z0])), (hlf, .inl (cI, most, .inl (fun _ => 0)))] H := hP
  have hD : va_D A [(hl0, .inr (1, [.ref hlf, .null, .null, .null, .int z0])), (hlf, .inl (cI, most, .inl (fun _ => 0)))] := hD
  refine lv_aload_n hx hb d_Links_init_11 rfl (lv_at hl 0 rfl) ?_
  refine lv_iload_n hx hb d_Links_init_12 rfl (lv_at hl 1 rfl) ?_
  refine gx_newi hx hb (hts _ (List.mem_cons_of_mem _ kw_161)) hK hP hD hS hA most (by omega) (by show _ ≤ _; first | exact Nat.le_of_ble_eq_true rfl | (dsimp only [headSpec]; omega)) (by show _ ≤ _; first | exact Nat.le_of_ble_eq_true rfl | (dsimp only [headSpec]; omega)) d_Links_init_13 (fun hls H hP hD hS => ?_)
  have hP : va_P (dC, dI) classes [(hl0, .inr (1, [.ref hlf, .null, .null, .null, .int z0])), (hlf, .inl (cI, most, .inl (fun _ => 0))), (hls, .inl (cI, most, .inl (fun _ => 0)))] H := hP
  have hD : va_D A [(hl0, .inr (1, [.ref hlf, .null, .null, .null, .int z0])), (hlf, .inl (cI, most, .inl (fun _ => 0))), (hls, .inl (cI, most, .inl (fun _ => 0)))] := hD
  refine va_putF (D := (dC, dI)) (ci := 1) (v := .ref hls) (ty := (.array .int)) (C := R_Links) (T := F_Links) (N := 5) hx hb hts (fun w h => List.mem_cons_of_mem _ (i_Links w h)) t_Links t_Links_ok n_Links hown hK hP hD hS 0 rfl rfl 1 (by decide) (hts _ (List.mem_cons_of_mem _ kw_194)) (fun _ h9 => h9) rfl hin rfl (by decide +kernel) rfl rfl (Nat.le_of_ble_eq_true rfl) d_Links_init_15 (fun H locs hP hD hS => ?_)
  have hP : va_P (dC, dI) classes [(hl0, .inr (1, [.ref hlf, .ref hls, .null, .null, .int z0])), (hlf, .inl (cI, most, .inl (fun _ => 0))), (hls, .inl (cI, most, .inl (fun _ => 0)))] H := hP
  have hD : va_D A [(hl0, .inr (1, [.ref hlf, .ref hls, .null, .null, .int z0])), (hlf, .inl (cI, most, .inl (fun _ => 0))), (hls, .inl (cI, most, .inl (fun _ => 0)))] := hD
  refine lv_aload_n hx hb d_Links_init_18 rfl (lv_at hl 0 rfl) ?_
  refine lv_iload_n hx hb d_Links_init_19 rfl (lv_at hl 1 rfl) ?_
  refine gx_newd hx hb (hts _ (List.mem_cons_of_mem _ kw_160)) hK hP hD hS hA most (by omega) (by show _ ≤ _; first | exact Nat.le_of_ble_eq_true rfl | (dsimp only [headSpec]; omega)) (by show _ ≤ _; first | exact Nat.le_of_ble_eq_true rfl | (dsimp only [headSpec]; omega)) d_Links_init_20 (fun hlk H hP hD hS => ?_)
  have hP : va_P (dC, dI) classes [(hl0, .inr (1, [.ref hlf, .ref hls, .null, .null, .int z0])), (hlf, .inl (cI, most, .inl (fun _ => 0))), (hls, .inl (cI, most, .inl (fun _ => 0))), (hlk, .inl (cD, most, .inr (.inr (.inr (.inl (fun _ => FP.dconst0))))))] H := hP
  have hD : va_D A [(hl0, .inr (1, [.ref hlf, .ref hls, .null, .null, .int z0])), (hlf, .inl (cI, most, .inl (fun _ => 0))), (hls, .inl (cI, most, .inl (fun _ => 0))), (hlk, .inl (cD, most, .inr (.inr (.inr (.inl (fun _ => FP.dconst0))))))] := hD
  refine va_putF (D := (dC, dI)) (ci := 1) (v := .ref hlk) (ty := (.array .double)) (C := R_Links) (T := F_Links) (N := 5) hx hb hts (fun w h => List.mem_cons_of_mem _ (i_Links w h)) t_Links t_Links_ok n_Links hown hK hP hD hS 0 rfl rfl 2 (by decide) (hts _ (List.mem_cons_of_mem _ kw_197)) (fun _ h9 => h9) rfl hin rfl (by decide +kernel) rfl rfl (Nat.le_of_ble_eq_true rfl) d_Links_init_22 (fun H locs hP hD hS => ?_)
  have hP : va_P (dC, dI) classes [(hl0, .inr (1, [.ref hlf, .ref hls, .ref hlk, .null, .int z0])), (hlf, .inl (cI, most, .inl (fun _ => 0))), (hls, .inl (cI, most, .inl (fun _ => 0))), (hlk, .inl (cD, most, .inr (.inr (.inr (.inl (fun _ => FP.dconst0))))))] H := hP
  have hD : va_D A [(hl0, .inr (1, [.ref hlf, .ref hls, .ref hlk, .null, .int z0])), (hlf, .inl (cI, most, .inl (fun _ => 0))), (hls, .inl (cI, most, .inl (fun _ => 0))), (hlk, .inl (cD, most, .inr (.inr (.inr (.inl (fun _ => FP.dconst0))))))] := hD
  refine lv_aload_n hx hb d_Links_init_25 rfl (lv_at hl 0 rfl) ?_
  refine lv_iload_n hx hb d_Links_init_26 rfl (lv_at hl 1 rfl) ?_
  refine gx_newd hx hb (hts _ (List.mem_cons_of_mem _ kw_160)) hK hP hD hS hA most (by omega) (by show _ ≤ _; first | exact Nat.le_of_ble_eq_true rfl | (dsimp only [headSpec]; omega)) (by show _ ≤ _; first | exact Nat.le_of_ble_eq_true rfl | (dsimp only [headSpec]; omega)) d_Links_init_27 (fun hll H hP hD hS => ?_)
  have hP : va_P (dC, dI) classes [(hl0, .inr (1, [.ref hlf, .ref hls, .ref hlk, .null, .int z0])), (hlf, .inl (cI, most, .inl (fun _ => 0))), (hls, .inl (cI, most, .inl (fun _ => 0))), (hlk, .inl (cD, most, .inr (.inr (.inr (.inl (fun _ => FP.dconst0)))))), (hll, .inl (cD, most, .inr (.inr (.inr (.inl (fun _ => FP.dconst0))))))] H := hP
  have hD : va_D A [(hl0, .inr (1, [.ref hlf, .ref hls, .ref hlk, .null, .int z0])), (hlf, .inl (cI, most, .inl (fun _ => 0))), (hls, .inl (cI, most, .inl (fun _ => 0))), (hlk, .inl (cD, most, .inr (.inr (.inr (.inl (fun _ => FP.dconst0)))))), (hll, .inl (cD, most, .inr (.inr (.inr (.inl (fun _ => FP.dconst0))))))] := hD
  refine va_putF (D := (dC, dI)) (ci := 1) (v := .ref hll) (ty := (.array .double)) (C := R_Links) (T := F_Links) (N := 5) hx hb hts (fun w h => List.mem_cons_of_mem _ (i_Links w h)) t_Links t_Links_ok n_Links hown hK hP hD hS 0 rfl rfl 3 (by decide) (hts _ (List.mem_cons_of_mem _ kw_199)) (fun _ h9 => h9) rfl hin rfl (by decide +kernel) rfl rfl (Nat.le_of_ble_eq_true rfl) d_Links_init_29 (fun H locs hP hD hS => ?_)
  have hP : va_P (dC, dI) classes [(hl0, .inr (1, [.ref hlf, .ref hls, .ref hlk, .ref hll, .int z0])), (hlf, .inl (cI, most, .inl (fun _ => 0))), (hls, .inl (cI, most, .inl (fun _ => 0))), (hlk, .inl (cD, most, .inr (.inr (.inr (.inl (fun _ => FP.dconst0)))))), (hll, .inl (cD, most, .inr (.inr (.inr (.inl (fun _ => FP.dconst0))))))] H := hP
  have hD : va_D A [(hl0, .inr (1, [.ref hlf, .ref hls, .ref hlk, .ref hll, .int z0])), (hlf, .inl (cI, most, .inl (fun _ => 0))), (hls, .inl (cI, most, .inl (fun _ => 0))), (hlk, .inl (cD, most, .inr (.inr (.inr (.inl (fun _ => FP.dconst0)))))), (hll, .inl (cD, most, .inr (.inr (.inr (.inl (fun _ => FP.dconst0))))))] := hD
  have hP9 := hP.sub (ws' := [(hl0, .inr (1, [.ref hlf, .ref hls, .ref hlk, .ref hll, .int z0])), (hlf, .inl (cI, most, .inl (fun _ => 0))), (hls, .inl (cI, most, .inl (fun _ => 0))), (hlk, .inl (cD, most, .inr (.inr (.inr (.inl (fun _ => FP.dconst0)))))), (hll, .inl (cD, most, .inr (.inr (.inr (.inl (fun _ => FP.dconst0))))))]) [0, 1, 2, 3, 4] rfl
  have hD9 := hD.sub (ws' := [(hl0, .inr (1, [.ref hlf, .ref hls, .ref hlk, .ref hll, .int z0])), (hlf, .inl (cI, most, .inl (fun _ => 0))), (hls, .inl (cI, most, .inl (fun _ => 0))), (hlk, .inl (cD, most, .inr (.inr (.inr (.inl (fun _ => FP.dconst0)))))), (hll, .inl (cD, most, .inr (.inr (.inr (.inl (fun _ => FP.dconst0))))))]) [0, 1, 2, 3, 4] (by decide) rfl
  refine W.widen (k := 4) (n := 32) (by omega) (by omega) ?_
  exact W.vret hx hb hr (fun tt9 ht9 hW9 => ⟨⟨(hlf, hls, hlk, hll), rfl, trivial, by rw [ht9]; exact hP9, va_K.moved hW9.alike hK, hD9⟩, hS.F ht9⟩) hS.2.2 d_Links_init_32
set_option maxHeartbeats 4000000 in
set_option maxRecDepth 100000 in
/-- new Sorts -/
theorem c_Sorts_init (l : Launch) (dC : Nat → ClassId) (dI : Nat → Nat → Nat) (cI cD cZ : ClassId) (sz : Nat) (hso0 : Nat) : Met l y_Sorts_init w_Sorts_init ({ frames := 1, cells := 3, slots := 9, locals := 12 }) (va_Pc [.ref hso0] (gx_B (dC, dI) classes (gx_T cI cD cZ) [(hso0, .inr (6, [.null, .null, .null]))] sz)) (va_Qv (fun (uu : Nat × Nat × Nat) => match uu with | (hsw, hsd, hsc) => True) (fun (uu : Nat × Nat × Nat) t => gx_E (dC, dI) classes (gx_T cI cD cZ) (va_A [(hso0, .inr (6, [.null, .null, .null]))] sz) (match uu with | (hsw, hsd, hsc) => [(hso0, .inr (6, [.ref hsw, .ref hsd, .ref hsc])), (hsw, .inl (cD, 3, .inr (.inr (.inr (.inl (pb_ones 3)))))), (hsd, .inl (cD, 3, .inr (.inr (.inr (.inl (pb_ones 3)))))), (hsc, .inl (cD, 3, .inr (.inr (.inr (.inl (fun _ => FP.dconst0))))))]) t) (va_A [(hso0, .inr (6, [.null, .null, .null]))] sz)) 3 9 (va_A [(hso0, .inr (6, [.null, .null, .null]))] sz) := by
  refine Met.ofW (cc := b_Sorts_init) (maxL := 2) (ret := none) (by decide) rfl ?_
  intro p e s m args below meth c s₁ B hml hv
  obtain ⟨rfl, hsz, hP, hK, hD0, hN⟩ := hv
  have hx := B.exec
  have hb := B.bytes
  have hr := B.returns
  have hts := atoms_spec (ws := w_Sorts_init) B.pre
  have hown : s.vm.findClass R_Sorts = some m.cls := findClass_of_methodNamed B.named
  have hlocks := B.notSynchronized
  have hin : meth.name = "<init>" := (name_of_methodNamed B.named B.method).1
  subst hsz
  have hD := hD0.self (sz := s.heap.size)
  generalize hAe : va_A [(hso0, .inr (6, [.null, .null, .null]))] s.heap.size = A at hD ⊢
  have hA : ∀ q : Nat, s.heap.size ≤ q → A q := fun q h => by rw [← hAe]; exact Or.inr h
  have hS : va_S A s.heap s.heap [] := va_S.rf
  have hl := lv_entry ([.ref hso0]) (n := 2) (Nat.le_of_ble_eq_true rfl)
  rw [lg_entry_eq]
  generalize (lg_sl ([.ref hso0]) ++ List.replicate (2 - (lg_sl ([.ref hso0])).length) Slot.unset).toArray = ls at hl ⊢
  have hl : lv_has ls 2 [(0, .ref hso0)] := hl
  obtain ⟨H, hH⟩ : ∃ H, H = s.heap := ⟨_, rfl⟩
  rw [← hH] at hP
  have hS : va_S A s.heap H [] := by rw [hH]; exact hS
  refine gx_start hH ?_
  refine lv_aload_n hx hb d_Sorts_init_0 rfl (lv_at hl 0 rfl) ?_
  refine W.objInit hx hb hown (hts (.methodLink R_Sorts 3 objectInit) (by decide +kernel)) (hts (.instanceMethod objectInit) (by decide +kernel)) (hts _ (List.mem_cons_of_mem _ kw_69)) rfl (by rw [hml]; exact hl.1) rfl d_Sorts_init_1 (Nat.le_of_ble_eq_true rfl) (Nat.le_of_ble_eq_true rfl) ?_
  refine W.eq (g2 := F0 m 4 ls []) rfl ?_
  refine lv_aload_n hx hb d_Sorts_init_4 rfl (lv_at hl 0 rfl) ?_
  refine lv_iconst (v := nI 3) hx hb d_Sorts_init_5 (by decide) ?_
  refine gx_newd hx hb (hts _ (List.mem_cons_of_mem _ kw_160)) hK hP hD hS hA 3 (by omega) (Nat.le_of_ble_eq_true rfl) (Nat.le_of_ble_eq_true rfl) d_Sorts_init_6 (fun hsw H hP hD hS => ?_)
  have hP : va_P (dC, dI) classes [(hso0, .inr (6, [.null, .null, .null])), (hsw, .inl (cD, 3, .inr (.inr (.inr (.inl (fun _ => FP.dconst0))))))] H := hP
  have hD : va_D A [(hso0, .inr (6, [.null, .null, .null])), (hsw, .inl (cD, 3, .inr (.inr (.inr (.inl (fun _ => FP.dconst0))))))] := hD
  refine va_putF (D := (dC, dI)) (ci := 6) (v := .ref hsw) (ty := (.array .double)) (C := R_Sorts) (T := F_Sorts) (N := 3) hx hb hts (fun w h => List.mem_cons_of_mem _ (i_Sorts w h)) t_Sorts t_Sorts_ok n_Sorts hown hK hP hD hS 0 rfl rfl 0 (by decide) (hts _ (List.mem_cons_of_mem _ kw_169)) (fun _ h9 => h9) rfl hin rfl (by decide +kernel) rfl rfl (Nat.le_of_ble_eq_true rfl) d_Sorts_init_8 (fun H locs hP hD hS => ?_)
  have hP : va_P (dC, dI) classes [(hso0, .inr (6, [.ref hsw, .null, .null])), (hsw, .inl (cD, 3, .inr (.inr (.inr (.inl (fun _ => FP.dconst0))))))] H := hP
  have hD : va_D A [(hso0, .inr (6, [.ref hsw, .null, .null])), (hsw, .inl (cD, 3, .inr (.inr (.inr (.inl (fun _ => FP.dconst0))))))] := hD
  refine lv_aload_n hx hb d_Sorts_init_11 rfl (lv_at hl 0 rfl) ?_
  refine lv_iconst (v := nI 3) hx hb d_Sorts_init_12 (by decide) ?_
  refine gx_newd hx hb (hts _ (List.mem_cons_of_mem _ kw_160)) hK hP hD hS hA 3 (by omega) (Nat.le_of_ble_eq_true rfl) (Nat.le_of_ble_eq_true rfl) d_Sorts_init_13 (fun hsd H hP hD hS => ?_)
  have hP : va_P (dC, dI) classes [(hso0, .inr (6, [.ref hsw, .null, .null])), (hsw, .inl (cD, 3, .inr (.inr (.inr (.inl (fun _ => FP.dconst0)))))), (hsd, .inl (cD, 3, .inr (.inr (.inr (.inl (fun _ => FP.dconst0))))))] H := hP
  have hD : va_D A [(hso0, .inr (6, [.ref hsw, .null, .null])), (hsw, .inl (cD, 3, .inr (.inr (.inr (.inl (fun _ => FP.dconst0)))))), (hsd, .inl (cD, 3, .inr (.inr (.inr (.inl (fun _ => FP.dconst0))))))] := hD
  refine va_putF (D := (dC, dI)) (ci := 6) (v := .ref hsd) (ty := (.array .double)) (C := R_Sorts) (T := F_Sorts) (N := 3) hx hb hts (fun w h => List.mem_cons_of_mem _ (i_Sorts w h)) t_Sorts t_Sorts_ok n_Sorts hown hK hP hD hS 0 rfl rfl 1 (by decide) (hts _ (List.mem_cons_of_mem _ kw_172)) (fun _ h9 => h9) rfl hin rfl (by decide +kernel) rfl rfl (Nat.le_of_ble_eq_true rfl) d_Sorts_init_15 (fun H locs hP hD hS => ?_)
  have hP : va_P (dC, dI) classes [(hso0, .inr (6, [.ref hsw, .ref hsd, .null])), (hsw, .inl (cD, 3, .inr (.inr (.inr (.inl (fun _ => FP.dconst0)))))), (hsd, .inl (cD, 3, .inr (.inr (.inr (.inl (fun _ => FP.dconst0))))))] H := hP
  have hD : va_D A [(hso0, .inr (6, [.ref hsw, .ref hsd, .null])), (hsw, .inl (cD, 3, .inr (.inr (.inr (.inl (fun _ => FP.dconst0)))))), (hsd, .inl (cD, 3, .inr (.inr (.inr (.inl (fun _ => FP.dconst0))))))] := hD
  refine lv_aload_n hx hb d_Sorts_init_18 rfl (lv_at hl 0 rfl) ?_
  refine lv_iconst (v := nI 3) hx hb d_Sorts_init_19 (by decide) ?_
  refine gx_newd hx hb (hts _ (List.mem_cons_of_mem _ kw_160)) hK hP hD hS hA 3 (by omega) (Nat.le_of_ble_eq_true rfl) (Nat.le_of_ble_eq_true rfl) d_Sorts_init_20 (fun hsc H hP hD hS => ?_)
  have hP : va_P (dC, dI) classes [(hso0, .inr (6, [.ref hsw, .ref hsd, .null])), (hsw, .inl (cD, 3, .inr (.inr (.inr (.inl (fun _ => FP.dconst0)))))), (hsd, .inl (cD, 3, .inr (.inr (.inr (.inl (fun _ => FP.dconst0)))))), (hsc, .inl (cD, 3, .inr (.inr (.inr (.inl (fun _ => FP.dconst0))))))] H := hP
  have hD : va_D A [(hso0, .inr (6, [.ref hsw, .ref hsd, .null])), (hsw, .inl (cD, 3, .inr (.inr (.inr (.inl (fun _ => FP.dconst0)))))), (hsd, .inl (cD, 3, .inr (.inr (.inr (.inl (fun _ => FP.dconst0)))))), (hsc, .inl (cD, 3, .inr (.inr (.inr (.inl (fun _ => FP.dconst0))))))] := hD
  refine va_putF (D := (dC, dI)) (ci := 6) (v := .ref hsc) (ty := (.array .double)) (C := R_Sorts) (T := F_Sorts) (N := 3) hx hb hts (fun w h => List.mem_cons_of_mem _ (i_Sorts w h)) t_Sorts t_Sorts_ok n_Sorts hown hK hP hD hS 0 rfl rfl 2 (by decide) (hts _ (List.mem_cons_of_mem _ kw_175)) (fun _ h9 => h9) rfl hin rfl (by decide +kernel) rfl rfl (Nat.le_of_ble_eq_true rfl) d_Sorts_init_22 (fun H locs hP hD hS => ?_)
  have hP : va_P (dC, dI) classes [(hso0, .inr (6, [.ref hsw, .ref hsd, .ref hsc])), (hsw, .inl (cD, 3, .inr (.inr (.inr (.inl (fun _ => FP.dconst0)))))), (hsd, .inl (cD, 3, .inr (.inr (.inr (.inl (fun _ => FP.dconst0)))))), (hsc, .inl (cD, 3, .inr (.inr (.inr (.inl (fun _ => FP.dconst0))))))] H := hP
  have hD : va_D A [(hso0, .inr (6, [.ref hsw, .ref hsd, .ref hsc])), (hsw, .inl (cD, 3, .inr (.inr (.inr (.inl (fun _ => FP.dconst0)))))), (hsd, .inl (cD, 3, .inr (.inr (.inr (.inl (fun _ => FP.dconst0)))))), (hsc, .inl (cD, 3, .inr (.inr (.inr (.inl (fun _ => FP.dconst0))))))] := hD
  refine lv_iconst (v := nI 0) hx hb d_Sorts_init_25 (by decide) ?_
  refine lv_istore_n (lv' := [(1, .int (nI 0)), (0, .ref hso0)]) hx hb d_Sorts_init_26 rfl hl (by decide) rfl (fun ls hl => ?_)
  have hP : va_P (dC, dI) classes [(hso0, .inr (6, [.ref hsw, .ref hsd, .ref hsc])), (hsw, .inl (cD, 3, .inr (.inr (.inr (.inl (pb_ones 0)))))), (hsd, .inl (cD, 3, .inr (.inr (.inr (.inl (pb_ones 0)))))), (hsc, .inl (cD, 3, .inr (.inr (.inr (.inl (fun _ => FP.dconst0))))))] H := by rw [pb_ones_0]; exact hP
  have hD : va_D A [(hso0, .inr (6, [.ref hsw, .ref hsd, .ref hsc])), (hsw, .inl (cD, 3, .inr (.inr (.inr (.inl (pb_ones 0)))))), (hsd, .inl (cD, 3, .inr (.inr (.inr (.inl (pb_ones 0)))))), (hsc, .inl (cD, 3, .inr (.inr (.inr (.inl (fun _ => FP.dconst0))))))] := by rw [pb_ones_0]; exact hD
  refine gx_loop (fun (i : Nat) (H : Heap) (locs : List Loc) (ls : Array Slot) => va_P (dC, dI) classes [(hso0, .inr (6, [.ref hsw, .ref hsd, .ref hsc])), (hsw, .inl (cD, 3, .inr (.inr (.inr (.inl (pb_ones i)))))), (hsd, .inl (cD, 3, .inr (.inr (.inr (.inl (pb_ones i)))))), (hsc, .inl (cD, 3, .inr (.inr (.inr (.inl (fun _ => FP.dconst0))))))] H ∧ va_D A [(hso0, .inr (6, [.ref hsw, .ref hsd, .ref hsc])), (hsw, .inl (cD, 3, .inr (.inr (.inr (.inl (pb_ones i)))))), (hsd, .inl (cD, 3, .inr (.inr (.inr (.inl (pb_ones i)))))), (hsc, .inl (cD, 3, .inr (.inr (.inr (.inl (fun _ => FP.dconst0))))))] ∧ va_S A s.heap H locs ∧ lv_has ls 2 [(1, .int (nI i)), (0, .ref hso0)] ∧ (i ≤ 3)) (fun (i : Nat) => 3 - i) (fun N K27 xx H locs ls hI hmu => ?_) 0 ?_
  rotate_left
  · skip
    refine ⟨hP.sub [0, 1, 2, 3] rfl, hD.sub [0, 1, 2, 3] (by decide) rfl, hS, lv_sub hl [0, 1] rfl, (by omega)⟩
  obtain ⟨i, rfl⟩ : ∃ zz, zz = xx := ⟨_, rfl⟩
  obtain ⟨hP, hD, hS, hl, hi⟩ := hI
  try dsimp only at hmu
  refine lv_iload_n hx hb d_Sorts_init_27 rfl (lv_at hl 0 rfl) ?_
  refine lv_iconst (v := nI 3) hx hb d_Sorts_init_28 (by decide) ?_
  refine lv_icmp_ge (tgt := 52) hx hb d_Sorts_init_29 (by decide) (fun c29 => ?_) (fun c29 => ?_)
  · skip
    have c29 : 3 ≤ i := (nI_leI (a := 3) (b := i) (by omega) (by omega)).mp c29
    have hi3 : i = 3 := by omega
    subst hi3
    have hP9 := hP.sub (ws' := [(hso0, .inr (6, [.ref hsw, .ref hsd, .ref hsc])), (hsw, .inl (cD, 3, .inr (.inr (.inr (.inl (pb_ones 3)))))), (hsd, .inl (cD, 3, .inr (.inr (.inr (.inl (pb_ones 3)))))), (hsc, .inl (cD, 3, .inr (.inr (.inr (.inl (fun _ => FP.dconst0))))))]) [0, 1, 2, 3] rfl
    have hD9 := hD.sub (ws' := [(hso0, .inr (6, [.ref hsw, .ref hsd, .ref hsc])), (hsw, .inl (cD, 3, .inr (.inr (.inr (.inl (pb_ones 3)))))), (hsd, .inl (cD, 3, .inr (.inr (.inr (.inl (pb_ones 3)))))), (hsc, .inl (cD, 3, .inr (.inr (.inr (.inl (fun _ => FP.dconst0))))))]) [0, 1, 2, 3] (by decide) rfl
    refine W.widen (k := 3) (n := 9) (by omega) (by omega) ?_
    exact W.vret hx hb hr (fun tt9 ht9 hW9 => ⟨⟨(hsw, hsd, hsc), rfl, trivial, by rw [ht9]; exact hP9, va_K.moved hW9.alike hK, hD9⟩, hS.F ht9⟩) hS.2.2 d_Sorts_init_52
  · skip
    have c29 : ¬ 3 ≤ i := fun h => c29 ((nI_leI (a := 3) (b := i) (by omega) (by omega)).mpr h)
    refine lv_aload_n hx hb d_Sorts_init_32 rfl (lv_at hl 1 rfl) ?_
    refine va_get (D := (dC, dI)) (ci := 6) (v := .ref hsw) (C := R_Sorts) (T := F_Sorts) (N := 3) hx hb hts (fun w h => List.mem_cons_of_mem _ (i_Sorts w h)) hown hK hP 0 rfl rfl 0 (by decide) (hts _ (List.mem_cons_of_mem _ kw_169)) (fun _ h9 => h9) rfl d_Sorts_init_33 ?_
    refine lv_iload_n hx hb d_Sorts_init_36 rfl (lv_at hl 0 rfl) ?_
    refine lv_dconst1 hx hb d_Sorts_init_37 ?_
    refine gx_dast hx hb hK hP hD hS 1 1 rfl rfl (by omega) (by decide) d_Sorts_init_38 (fun H locs hP hD hS => ?_)
    have hP : va_P (dC, dI) classes [(hso0, .inr (6, [.ref hsw, .ref hsd, .ref hsc])), (hsw, .inl (cD, 3, .inr (.inr (.inr (.inl (vf_upd (pb_ones i) i FP.dconst1)))))), (hsd, .inl (cD, 3, .inr (.inr (.inr (.inl (pb_ones i)))))), (hsc, .inl (cD, 3, .inr (.inr (.inr (.inl (fun _ => FP.dconst0))))))] H := hP
    have hD : va_D A [(hso0, .inr (6, [.ref hsw, .ref hsd, .ref hsc])), (hsw, .inl (cD, 3, .inr (.inr (.inr (.inl (vf_upd (pb_ones i) i FP.dconst1)))))), (hsd, .inl (cD, 3, .inr (.inr (.inr (.inl (pb_ones i)))))), (hsc, .inl (cD, 3, .inr (.inr (.inr (.inl (fun _ => FP.dconst0))))))] := hD
    refine lv_aload_n hx hb d_Sorts_init_39 rfl (lv_at hl 1 rfl) ?_
    refine va_get (D := (dC, dI)) (ci := 6) (v := .ref hsd) (C := R_Sorts) (T := F_Sorts) (N := 3) hx hb hts (fun w h => List.mem_cons_of_mem _ (i_Sorts w h)) hown hK hP 0 rfl rfl 1 (by decide) (hts _ (List.mem_cons_of_mem _ kw_172)) (fun _ h9 => h9) rfl d_Sorts_init_40 ?_
    refine lv_iload_n hx hb d_Sorts_init_43 rfl (lv_at hl 0 rfl) ?_
    refine lv_dconst1 hx hb d_Sorts_init_44 ?_
    refine gx_dast hx hb hK hP hD hS 2 1 rfl rfl (by omega) (by decide) d_Sorts_init_45 (fun H locs hP hD hS => ?_)
    have hP : va_P (dC, dI) classes [(hso0, .inr (6, [.ref hsw, .ref hsd, .ref hsc])), (hsw, .inl (cD, 3, .inr (.inr (.inr (.inl (vf_upd (pb_ones i) i FP.dconst1)))))), (hsd, .inl (cD, 3, .inr (.inr (.inr (.inl (vf_upd (pb_ones i) i FP.dconst1)))))), (hsc, .inl (cD, 3, .inr (.inr (.inr (.inl (fun _ => FP.dconst0))))))] H := hP
    have hD : va_D A [(hso0, .inr (6, [.ref hsw, .ref hsd, .ref hsc])), (hsw, .inl (cD, 3, .inr (.inr (.inr (.inl (vf_upd (pb_ones i) i FP.dconst1)))))), (hsd, .inl (cD, 3, .inr (.inr (.inr (.inl (vf_upd (pb_ones i) i FP.dconst1)))))), (hsc, .inl (cD, 3, .inr (.inr (.inr (.inl (fun _ => FP.dconst0))))))] := hD
    have hP : va_P (dC, dI) classes [(hso0, .inr (6, [.ref hsw, .ref hsd, .ref hsc])), (hsw, .inl (cD, 3, .inr (.inr (.inr (.inl (pb_ones (i + 1))))))), (hsd, .inl (cD, 3, .inr (.inr (.inr (.inl (pb_ones (i + 1))))))), (hsc, .inl (cD, 3, .inr (.inr (.inr (.inl (fun _ => FP.dconst0))))))] H := by rw [pb_ones_s]; exact hP
    have hD : va_D A [(hso0, .inr (6, [.ref hsw, .ref hsd, .ref hsc])), (hsw, .inl (cD, 3, .inr (.inr (.inr (.inl (pb_ones (i + 1))))))), (hsd, .inl (cD, 3, .inr (.inr (.inr (.inl (pb_ones (i + 1))))))), (hsc, .inl (cD, 3, .inr (.inr (.inr (.inl (fun _ => FP.dconst0))))))] := by rw [pb_ones_s]; exact hD
    refine lv_iinc (v := nI (i + 1)) (lv' := [(1, .int (nI (i + 1))), (0, .ref hso0)]) hx hb d_Sorts_init_46 hl (k := 0) rfl (nI_1 i) (by decide) rfl (fun ls hl => ?_)
    refine lv_goto (tgt := 27) hx hb d_Sorts_init_49 (by decide) ?_
    exact K27 (i + 1) _ _ _ ⟨hP.sub [0, 1, 2, 3] rfl, hD.sub [0, 1, 2, 3] (by decide) rfl, hS, lv_sub hl [0, 1] rfl, (by omega)⟩ (by omega)
set_option maxHeartbeats 4000000 in
set_option maxRecDepth 100000 in
/-- new Neighbours -/
theorem c_Neighbours_init (l : Launch) (dC : Nat → ClassId) (dI : Nat → Nat → Nat) (cI cD cZ : ClassId) (sz : Nat) (hn0 : Nat) (hq : Nat) (ha : Nat) (z0 : Int32) (z1 : UInt64) (z2 : Int32) : Met l y_Neighbours_init w_Neighbours_init ({ frames := 1, cells := 2, slots := 20, locals := 12 }) (va_Pc [.ref hn0, .ref hq, .ref ha] (gx_B (dC, dI) classes (gx_T cI cD cZ) [(hn0, .inr (3, [.null, .null, .null, .null, .int z0, .double z1, .int z2]))] sz)) (va_Qv (fun (uu : Nat × Nat) => match uu with | (hmx, hmy) => True) (fun (uu : Nat × Nat) t => gx_E (dC, dI) classes (gx_T cI cD cZ) (va_A [(hn0, .inr (3, [.null, .null, .null, .null, .int z0, .double z1, .int z2]))] sz) (match uu with | (hmx, hmy) => [(hn0, .inr (3, [.ref hq, .ref ha, .ref hmx, .ref hmy, .int z0, .double 4602678819172646912, .int z2])), (hmx, .inl (cD, 10, .inr (.inr (.inr (.inl (fun _ => FP.dconst0)))))), (hmy, .inl (cD, 10, .inr (.inr (.inr (.inl (fun _ => FP.dconst0))))))]) t) (va_A [(hn0, .inr (3, [.null, .null, .null, .null, .int z0, .double z1, .int z2]))] sz)) 2 20 (va_A [(hn0, .inr (3, [.null, .null, .null, .null, .int z0, .double z1, .int z2]))] sz) := by
  refine Met.ofW (cc := b_Neighbours_init) (maxL := 3) (ret := none) (by decide) rfl ?_
  intro p e s m args below meth c s₁ B hml hv
  obtain ⟨rfl, hsz, hP, hK, hD0, hN⟩ := hv
  have hx := B.exec
  have hb := B.bytes
  have hr := B.returns
  have hts := atoms_spec (ws := w_Neighbours_init) B.pre
  have hown : s.vm.findClass R_Neighbours = some m.cls := findClass_of_methodNamed B.named
  have hlocks := B.notSynchronized
  have hin : meth.name = "<init>" := (name_of_methodNamed B.named B.method).1
  subst hsz
  have hD := hD0.self (sz := s.heap.size)
  generalize hAe : va_A [(hn0, .inr (3, [.null, .null, .null, .null, .int z0, .double z1, .int z2]))] s.heap.size = A at hD ⊢
  have hA : ∀ q : Nat, s.heap.size ≤ q → A q := fun q h => by rw [← hAe]; exact Or.inr h
  have hS : va_S A s.heap s.heap [] := va_S.rf
  have hl := lv_entry ([.ref hn0, .ref hq, .ref ha]) (n := 3) (Nat.le_of_ble_eq_true rfl)
  rw [lg_entry_eq]
  generalize (lg_sl ([.ref hn0, .ref hq, .ref ha]) ++ List.replicate (3 - (lg_sl ([.ref hn0, .ref hq, .ref ha])).length) Slot.unset).toArray = ls at hl ⊢
  have hl : lv_has ls 3 [(0, .ref hn0), (1, .ref hq), (2, .ref ha)] := hl
  obtain ⟨H, hH⟩ : ∃ H, H = s.heap := ⟨_, rfl⟩
  rw [← hH] at hP
  have hS : va_S A s.heap H [] := by rw [hH]; exact hS
  refine gx_start hH ?_
  refine lv_aload_n hx hb d_Neighbours_init_0 rfl (lv_at hl 0 rfl) ?_
  refine W.objInit hx hb hown (hts (.methodLink R_Neighbours 3 objectInit) (by decide +kernel)) (hts (.instanceMethod objectInit) (by decide +kernel)) (hts _ (List.mem_cons_of_mem _ kw_69)) rfl (by rw [hml]; exact hl.1) rfl d_Neighbours_init_1 (Nat.le_of_ble_eq_true rfl) (Nat.le_of_ble_eq_true rfl) ?_
  refine W.eq (g2 := F0 m 4 ls []) rfl ?_
  refine lv_aload_n hx hb d_Neighbours_init_4 rfl (lv_at hl 0 rfl) ?_
  refine lv_bipush (v := nI 10) hx hb d_Neighbours_init_5 (by decide) ?_
  refine gx_newd hx hb (hts _ (List.mem_cons_of_mem _ kw_160)) hK hP hD hS hA 10 (by omega) (Nat.le_of_ble_eq_true rfl) (Nat.le_of_ble_eq_true rfl) d_Neighbours_init_7 (fun hmx H hP hD hS => ?_)
  have hP : va_P (dC, dI) classes [(hn0, .inr (3, [.null, .null, .null, .null, .int z0, .double z1, .int z2])), (hmx, .inl (cD, 10, .inr (.inr (.inr (.inl (fun _ => FP.dconst0))))))] H := hP
  have hD : va_D A [(hn0, .inr (3, [.null, .null, .null, .null, .int z0, .double z1, .int z2])), (hmx, .inl (cD, 10, .inr (.inr (.inr (.inl (fun _ => FP.dconst0))))))] := hD
  refine va_putF (D := (dC, dI)) (ci := 3) (v := .ref hmx) (ty := (.array .double)) (C := R_Neighbours) (T := F_Neighbours) (N := 7) hx hb hts (fun w h => List.mem_cons_of_mem _ (i_Neighbours w h)) t_Neighbours t_Neighbours_ok n_Neighbours hown hK hP hD hS 0 rfl rfl 2 (by decide) (hts _ (List.mem_cons_of_mem _ kw_261)) (fun _ h9 => h9) rfl hin rfl (by decide +kernel) rfl rfl (Nat.le_of_ble_eq_true rfl) d_Neighbours_init_9 (fun H locs hP hD hS => ?_)
  have hP : va_P (dC, dI) classes [(hn0, .inr (3, [.null, .null, .ref hmx, .null, .int z0, .double z1, .int z2])), (hmx, .inl (cD, 10, .inr (.inr (.inr (.inl (fun _ => FP.dconst0))))))] H := hP
  have hD : va_D A [(hn0, .inr (3, [.null, .null, .ref hmx, .null, .int z0, .double z1, .int z2])), (hmx, .inl (cD, 10, .inr (.inr (.inr (.inl (fun _ => FP.dconst0))))))] := hD
  refine lv_aload_n hx hb d_Neighbours_init_12 rfl (lv_at hl 0 rfl) ?_
  refine lv_bipush (v := nI 10) hx hb d_Neighbours_init_13 (by decide) ?_
  refine gx_newd hx hb (hts _ (List.mem_cons_of_mem _ kw_160)) hK hP hD hS hA 10 (by omega) (Nat.le_of_ble_eq_true rfl) (Nat.le_of_ble_eq_true rfl) d_Neighbours_init_15 (fun hmy H hP hD hS => ?_)
  have hP : va_P (dC, dI) classes [(hn0, .inr (3, [.null, .null, .ref hmx, .null, .int z0, .double z1, .int z2])), (hmx, .inl (cD, 10, .inr (.inr (.inr (.inl (fun _ => FP.dconst0)))))), (hmy, .inl (cD, 10, .inr (.inr (.inr (.inl (fun _ => FP.dconst0))))))] H := hP
  have hD : va_D A [(hn0, .inr (3, [.null, .null, .ref hmx, .null, .int z0, .double z1, .int z2])), (hmx, .inl (cD, 10, .inr (.inr (.inr (.inl (fun _ => FP.dconst0)))))), (hmy, .inl (cD, 10, .inr (.inr (.inr (.inl (fun _ => FP.dconst0))))))] := hD
  refine va_putF (D := (dC, dI)) (ci := 3) (v := .ref hmy) (ty := (.array .double)) (C := R_Neighbours) (T := F_Neighbours) (N := 7) hx hb hts (fun w h => List.mem_cons_of_mem _ (i_Neighbours w h)) t_Neighbours t_Neighbours_ok n_Neighbours hown hK hP hD hS 0 rfl rfl 3 (by decide) (hts _ (List.mem_cons_of_mem _ kw_262)) (fun _ h9 => h9) rfl hin rfl (by decide +kernel) rfl rfl (Nat.le_of_ble_eq_true rfl) d_Neighbours_init_17 (fun H locs hP hD hS => ?_)
  have hP : va_P (dC, dI) classes [(hn0, .inr (3, [.null, .null, .ref hmx, .ref hmy, .int z0, .double z1, .int z2])), (hmx, .inl (cD, 10, .inr (.inr (.inr (.inl (fun _ => FP.dconst0)))))), (hmy, .inl (cD, 10, .inr (.inr (.inr (.inl (fun _ => FP.dconst0))))))] H := hP
  have hD : va_D A [(hn0, .inr (3, [.null, .null, .ref hmx, .ref hmy, .int z0, .double z1, .int z2])), (hmx, .inl (cD, 10, .inr (.inr (.inr (.inl (fun _ => FP.dconst0)))))), (hmy, .inl (cD, 10, .inr (.inr (.inr (.inl (fun _ => FP.dconst0))))))] := hD
  refine lv_aload_n hx hb d_Neighbours_init_20 rfl (lv_at hl 0 rfl) ?_
  refine lv_ldc2d (v := 4602678819172646912) hx hb hown (hts (.constantDouble R_Neighbours 18 4602678819172646912) (by decide +kernel)) d_Neighbours_init_21 ?_
  refine va_put (D := (dC, dI)) (ci := 3) (v := .double 4602678819172646912) (ty := .double) (C := R_Neighbours) (T := F_Neighbours) (N := 7) hx hb hts (fun w h => List.mem_cons_of_mem _ (i_Neighbours w h)) t_Neighbours t_Neighbours_ok n_Neighbours hown hK hP hD hS 0 rfl rfl 5 (by decide) (hts _ (List.mem_cons_of_mem _ kw_264)) (fun _ h9 => h9) rfl (by decide +kernel) rfl rfl (Nat.le_of_ble_eq_true rfl) d_Neighbours_init_24 (fun H locs hP hD hS => ?_)
  have hP : va_P (dC, dI) classes [(hn0, .inr (3, [.null, .null, .ref hmx, .ref hmy, .int z0, .double 4602678819172646912, .int z2])), (hmx, .inl (cD, 10, .inr (.inr (.inr (.inl (fun _ => FP.dconst0)))))), (hmy, .inl (cD, 10, .inr (.inr (.inr (.inl (fun _ => FP.dconst0))))))] H := hP
  have hD : va_D A [(hn0, .inr (3, [.null, .null, .ref hmx, .ref hmy, .int z0, .double 4602678819172646912, .int z2])), (hmx, .inl (cD, 10, .inr (.inr (.inr (.inl (fun _ => FP.dconst0)))))), (hmy, .inl (cD, 10, .inr (.inr (.inr (.inl (fun _ => FP.dconst0))))))] := hD
  refine lv_aload_n hx hb d_Neighbours_init_27 rfl (lv_at hl 0 rfl) ?_
  refine lv_aload_n hx hb d_Neighbours_init_28 rfl (lv_at hl 1 rfl) ?_
  refine va_putF (D := (dC, dI)) (ci := 3) (v := .ref hq) (ty := (.object "ParticleBox$Square")) (C := R_Neighbours) (T := F_Neighbours) (N := 7) hx hb hts (fun w h => List.mem_cons_of_mem _ (i_Neighbours w h)) t_Neighbours t_Neighbours_ok n_Neighbours hown hK hP hD hS 0 rfl rfl 0 (by decide) (hts _ (List.mem_cons_of_mem _ kw_259)) (fun _ h9 => h9) rfl hin rfl (by decide +kernel) rfl rfl (Nat.le_of_ble_eq_true rfl) d_Neighbours_init_29 (fun H locs hP hD hS => ?_)
  have hP : va_P (dC, dI) classes [(hn0, .inr (3, [.ref hq, .null, .ref hmx, .ref hmy, .int z0, .double 4602678819172646912, .int z2])), (hmx, .inl (cD, 10, .inr (.inr (.inr (.inl (fun _ => FP.dconst0)))))), (hmy, .inl (cD, 10, .inr (.inr (.inr (.inl (fun _ => FP.dconst0))))))] H := hP
  have hD : va_D A [(hn0, .inr (3, [.ref hq, .null, .ref hmx, .ref hmy, .int z0, .double 4602678819172646912, .int z2])), (hmx, .inl (cD, 10, .inr (.inr (.inr (.inl (fun _ => FP.dconst0)))))), (hmy, .inl (cD, 10, .inr (.inr (.inr (.inl (fun _ => FP.dconst0))))))] := hD
  refine lv_aload_n hx hb d_Neighbours_init_32 rfl (lv_at hl 0 rfl) ?_
  refine lv_aload_n hx hb d_Neighbours_init_33 rfl (lv_at hl 2 rfl) ?_
  refine va_putF (D := (dC, dI)) (ci := 3) (v := .ref ha) (ty := (.object "ParticleBox$Atoms")) (C := R_Neighbours) (T := F_Neighbours) (N := 7) hx hb hts (fun w h => List.mem_cons_of_mem _ (i_Neighbours w h)) t_Neighbours t_Neighbours_ok n_Neighbours hown hK hP hD hS 0 rfl rfl 1 (by decide) (hts _ (List.mem_cons_of_mem _ kw_260)) (fun _ h9 => h9) rfl hin rfl (by decide +kernel) rfl rfl (Nat.le_of_ble_eq_true rfl) d_Neighbours_init_34 (fun H locs hP hD hS => ?_)
  have hP : va_P (dC, dI) classes [(hn0, .inr (3, [.ref hq, .ref ha, .ref hmx, .ref hmy, .int z0, .double 4602678819172646912, .int z2])), (hmx, .inl (cD, 10, .inr (.inr (.inr (.inl (fun _ => FP.dconst0)))))), (hmy, .inl (cD, 10, .inr (.inr (.inr (.inl (fun _ => FP.dconst0))))))] H := hP
  have hD : va_D A [(hn0, .inr (3, [.ref hq, .ref ha, .ref hmx, .ref hmy, .int z0, .double 4602678819172646912, .int z2])), (hmx, .inl (cD, 10, .inr (.inr (.inr (.inl (fun _ => FP.dconst0)))))), (hmy, .inl (cD, 10, .inr (.inr (.inr (.inl (fun _ => FP.dconst0))))))] := hD
  have hP9 := hP.sub (ws' := [(hn0, .inr (3, [.ref hq, .ref ha, .ref hmx, .ref hmy, .int z0, .double 4602678819172646912, .int z2])), (hmx, .inl (cD, 10, .inr (.inr (.inr (.inl (fun _ => FP.dconst0)))))), (hmy, .inl (cD, 10, .inr (.inr (.inr (.inl (fun _ => FP.dconst0))))))]) [0, 1, 2] rfl
  have hD9 := hD.sub (ws' := [(hn0, .inr (3, [.ref hq, .ref ha, .ref hmx, .ref hmy, .int z0, .double 4602678819172646912, .int z2])), (hmx, .inl (cD, 10, .inr (.inr (.inr (.inl (fun _ => FP.dconst0)))))), (hmy, .inl (cD, 10, .inr (.inr (.inr (.inl (fun _ => FP.dconst0))))))]) [0, 1, 2] (by decide) rfl
  refine W.widen (k := 2) (n := 20) (by omega) (by omega) ?_
  exact W.vret hx hb hr (fun tt9 ht9 hW9 => ⟨⟨(hmx, hmy), rfl, trivial, by rw [ht9]; exact hP9, va_K.moved hW9.alike hK, hD9⟩, hS.F ht9⟩) hS.2.2 d_Neighbours_init_37
set_option maxHeartbeats 4000000 in
set_option maxRecDepth 100000 in
/-- new Pulls -/
theorem c_Pulls_init (l : Launch) (dC : Nat → ClassId) (dI : Nat → Nat → Nat) (cI cD cZ : ClassId) (sz : Nat) (hp : Nat) (hq : Nat) (ha : Nat) (hso0 : Nat) (hb0 : Nat) (z0 : UInt64) (side : UInt64) (qa : UInt64) (qb : UInt64) (qr : UInt64) (k : Int) (hs : pb_S side k) : Met l y_Pulls_init w_Pulls_init ({ frames := 1, cells := 2, slots := 20, locals := 12 }) (va_Pc [.ref hp, .ref hq, .ref ha, .ref hso0, .ref hb0] (gx_B (dC, dI) classes (gx_T cI cD cZ) [(hp, .inr (4, [.null, .null, .null, .null, .null, .null, .double z0])), (hq, .inr (7, [.double side, .double qa, .double qb, .double qr]))] sz)) (va_Qv (fun (uu : Nat × Nat) => match uu with | (hfx, hfy) => True) (fun (uu : Nat × Nat) t => gx_E (dC, dI) classes (gx_T cI cD cZ) (va_A [(hp, .inr (4, [.null, .null, .null, .null, .null, .null, .double z0])), (hq, .inr (7, [.double side, .double qa, .double qb, .double qr]))] sz) (match uu with | (hfx, hfy) => [(hp, .inr (4, [.ref hq, .ref ha, .ref hso0, .ref hb0, .ref hfx, .ref hfy, .double (FP.dmul side 4598175219545276416)])), (hq, .inr (7, [.double side, .double qa, .double qb, .double qr])), (hfx, .inl (cD, 10, .inr (.inr (.inr (.inl (fun _ => FP.dconst0)))))), (hfy, .inl (cD, 10, .inr (.inr (.inr (.inl (fun _ => FP.dconst0))))))]) t) (va_A [(hp, .inr (4, [.null, .null, .null, .null, .null, .null, .double z0])), (hq, .inr (7, [.double side, .double qa, .double qb, .double qr]))] sz)) 2 20 (va_A [(hp, .inr (4, [.null, .null, .null, .null, .null, .null, .double z0])), (hq, .inr (7, [.double side, .double qa, .double qb, .double qr]))] sz) := by
  refine Met.ofW (cc := b_Pulls_init) (maxL := 5) (ret := none) (by decide) rfl ?_
  intro p e s m args below meth c s₁ B hml hv
  obtain ⟨rfl, hsz, hP, hK, hD0, hN⟩ := hv
  have hx := B.exec
  have hb := B.bytes
  have hr := B.returns
  have hts := atoms_spec (ws := w_Pulls_init) B.pre
  have hown : s.vm.findClass R_Pulls = some m.cls := findClass_of_methodNamed B.named
  have hlocks := B.notSynchronized
  have hin : meth.name = "<init>" := (name_of_methodNamed B.named B.method).1
  subst hsz
  have hD := hD0.self (sz := s.heap.size)
  generalize hAe : va_A [(hp, .inr (4, [.null, .null, .null, .null, .null, .null, .double z0])), (hq, .inr (7, [.double side, .double qa, .double qb, .double qr]))] s.heap.size = A at hD ⊢
  have hA : ∀ q : Nat, s.heap.size ≤ q → A q := fun q h => by rw [← hAe]; exact Or.inr h
  have hS : va_S A s.heap s.heap [] := va_S.rf
  have hl := lv_entry ([.ref hp, .ref hq, .ref ha, .ref hso0, .ref hb0]) (n := 5) (Nat.le_of_ble_eq_true rfl)
  rw [lg_entry_eq]
  generalize (lg_sl ([.ref hp, .ref hq, .ref ha, .ref hso0, .ref hb0]) ++ List.replicate (5 - (lg_sl ([.ref hp, .ref hq, .ref ha, .ref hso0, .ref hb0])).length) Slot.unset).toArray = ls at hl ⊢
  have hl : lv_has ls 5 [(0, .ref hp), (1, .ref hq), (2, .ref ha), (3, .ref hso0), (4, .ref hb0)] := hl
  obtain ⟨H, hH⟩ : ∃ H, H = s.heap := ⟨_, rfl⟩
  rw [← hH] at hP
  have hS : va_S A s.heap H [] := by rw [hH]; exact hS
  refine gx_start hH ?_
  refine lv_aload_n hx hb d_Pulls_init_0 rfl (lv_at hl 0 rfl) ?_
  refine W.objInit hx hb hown (hts (.methodLink R_Pulls 3 objectInit) (by decide +kernel)) (hts (.instanceMethod objectInit) (by decide +kernel)) (hts _ (List.mem_cons_of_mem _ kw_69)) rfl (by rw [hml]; exact hl.1) rfl d_Pulls_init_1 (Nat.le_of_ble_eq_true rfl) (Nat.le_of_ble_eq_true rfl) ?_
  refine W.eq (g2 := F0 m 4 ls []) rfl ?_
  refine lv_aload_n hx hb d_Pulls_init_4 rfl (lv_at hl 0 rfl) ?_
  refine lv_bipush (v := nI 10) hx hb d_Pulls_init_5 (by decide) ?_
  refine gx_newd hx hb (hts _ (List.mem_cons_of_mem _ kw_160)) hK hP hD hS hA 10 (by omega) (Nat.le_of_ble_eq_true rfl) (Nat.le_of_ble_eq_true rfl) d_Pulls_init_7 (fun hfx H hP hD hS => ?_)
  have hP : va_P (dC, dI) classes [(hp, .inr (4, [.null, .null, .null, .null, .null, .null, .double z0])), (hq, .inr (7, [.double side, .double qa, .double qb, .double qr])), (hfx, .inl (cD, 10, .inr (.inr (.inr (.inl (fun _ => FP.dconst0))))))] H := hP
  have hD : va_D A [(hp, .inr (4, [.null, .null, .null, .null, .null, .null, .double z0])), (hq, .inr (7, [.double side, .double qa, .double qb, .double qr])), (hfx, .inl (cD, 10, .inr (.inr (.inr (.inl (fun _ => FP.dconst0))))))] := hD
  refine va_putF (D := (dC, dI)) (ci := 4) (v := .ref hfx) (ty := (.array .double)) (C := R_Pulls) (T := F_Pulls) (N := 7) hx hb hts (fun w h => List.mem_cons_of_mem _ (i_Pulls w h)) t_Pulls t_Pulls_ok n_Pulls hown hK hP hD hS 0 rfl rfl 4 (by decide) (hts _ (List.mem_cons_of_mem _ kw_228)) (fun _ h9 => h9) rfl hin rfl (by decide +kernel) rfl rfl (Nat.le_of_ble_eq_true rfl) d_Pulls_init_9 (fun H locs hP hD hS => ?_)
  have hP : va_P (dC, dI) classes [(hp, .inr (4, [.null, .null, .null, .null, .ref hfx, .null, .double z0])), (hq, .inr (7, [.double side, .double qa, .double qb, .double qr])), (hfx, .inl (cD, 10, .inr (.inr (.inr (.inl (fun _ => FP.dconst0))))))] H := hP
  have hD : va_D A [(hp, .inr (4, [.null, .null, .null, .null, .ref hfx, .null, .double z0])), (hq, .inr (7, [.double side, .double qa, .double qb, .double qr])), (hfx, .inl (cD, 10, .inr (.inr (.inr (.inl (fun _ => FP.dconst0))))))] := hD
  refine lv_aload_n hx hb d_Pulls_init_12 rfl (lv_at hl 0 rfl) ?_
  refine lv_bipush (v := nI 10) hx hb d_Pulls_init_13 (by decide) ?_
  refine gx_newd hx hb (hts _ (List.mem_cons_of_mem _ kw_160)) hK hP hD hS hA 10 (by omega) (Nat.le_of_ble_eq_true rfl) (Nat.le_of_ble_eq_true rfl) d_Pulls_init_15 (fun hfy H hP hD hS => ?_)
  have hP : va_P (dC, dI) classes [(hp, .inr (4, [.null, .null, .null, .null, .ref hfx, .null, .double z0])), (hq, .inr (7, [.double side, .double qa, .double qb, .double qr])), (hfx, .inl (cD, 10, .inr (.inr (.inr (.inl (fun _ => FP.dconst0)))))), (hfy, .inl (cD, 10, .inr (.inr (.inr (.inl (fun _ => FP.dconst0))))))] H := hP
  have hD : va_D A [(hp, .inr (4, [.null, .null, .null, .null, .ref hfx, .null, .double z0])), (hq, .inr (7, [.double side, .double qa, .double qb, .double qr])), (hfx, .inl (cD, 10, .inr (.inr (.inr (.inl (fun _ => FP.dconst0)))))), (hfy, .inl (cD, 10, .inr (.inr (.inr (.inl (fun _ => FP.dconst0))))))] := hD
  refine va_putF (D := (dC, dI)) (ci := 4) (v := .ref hfy) (ty := (.array .double)) (C := R_Pulls) (T := F_Pulls) (N := 7) hx hb hts (fun w h => List.mem_cons_of_mem _ (i_Pulls w h)) t_Pulls t_Pulls_ok n_Pulls hown hK hP hD hS 0 rfl rfl 5 (by decide) (hts _ (List.mem_cons_of_mem _ kw_231)) (fun _ h9 => h9) rfl hin rfl (by decide +kernel) rfl rfl (Nat.le_of_ble_eq_true rfl) d_Pulls_init_17 (fun H locs hP hD hS => ?_)
  have hP : va_P (dC, dI) classes [(hp, .inr (4, [.null, .null, .null, .null, .ref hfx, .ref hfy, .double z0])), (hq, .inr (7, [.double side, .double qa, .double qb, .double qr])), (hfx, .inl (cD, 10, .inr (.inr (.inr (.inl (fun _ => FP.dconst0)))))), (hfy, .inl (cD, 10, .inr (.inr (.inr (.inl (fun _ => FP.dconst0))))))] H := hP
  have hD : va_D A [(hp, .inr (4, [.null, .null, .null, .null, .ref hfx, .ref hfy, .double z0])), (hq, .inr (7, [.double side, .double qa, .double qb, .double qr])), (hfx, .inl (cD, 10, .inr (.inr (.inr (.inl (fun _ => FP.dconst0)))))), (hfy, .inl (cD, 10, .inr (.inr (.inr (.inl (fun _ => FP.dconst0))))))] := hD
  refine lv_aload_n hx hb d_Pulls_init_20 rfl (lv_at hl 0 rfl) ?_
  refine lv_aload_n hx hb d_Pulls_init_21 rfl (lv_at hl 1 rfl) ?_
  refine va_putF (D := (dC, dI)) (ci := 4) (v := .ref hq) (ty := (.object "ParticleBox$Square")) (C := R_Pulls) (T := F_Pulls) (N := 7) hx hb hts (fun w h => List.mem_cons_of_mem _ (i_Pulls w h)) t_Pulls t_Pulls_ok n_Pulls hown hK hP hD hS 0 rfl rfl 0 (by decide) (hts _ (List.mem_cons_of_mem _ kw_224)) (fun _ h9 => h9) rfl hin rfl (by decide +kernel) rfl rfl (Nat.le_of_ble_eq_true rfl) d_Pulls_init_22 (fun H locs hP hD hS => ?_)
  have hP : va_P (dC, dI) classes [(hp, .inr (4, [.ref hq, .null, .null, .null, .ref hfx, .ref hfy, .double z0])), (hq, .inr (7, [.double side, .double qa, .double qb, .double qr])), (hfx, .inl (cD, 10, .inr (.inr (.inr (.inl (fun _ => FP.dconst0)))))), (hfy, .inl (cD, 10, .inr (.inr (.inr (.inl (fun _ => FP.dconst0))))))] H := hP
  have hD : va_D A [(hp, .inr (4, [.ref hq, .null, .null, .null, .ref hfx, .ref hfy, .double z0])), (hq, .inr (7, [.double side, .double qa, .double qb, .double qr])), (hfx, .inl (cD, 10, .inr (.inr (.inr (.inl (fun _ => FP.dconst0)))))), (hfy, .inl (cD, 10, .inr (.inr (.inr (.inl (fun _ => FP.dconst0))))))] := hD
  refine lv_aload_n hx hb d_Pulls_init_25 rfl (lv_at hl 0 rfl) ?_
  refine lv_aload_n hx hb d_Pulls_init_26 rfl (lv_at hl 2 rfl) ?_
  refine va_putF (D := (dC, dI)) (ci := 4) (v := .ref ha) (ty := (.object "ParticleBox$Atoms")) (C := R_Pulls) (T := F_Pulls) (N := 7) hx hb hts (fun w h => List.mem_cons_of_mem _ (i_Pulls w h)) t_Pulls t_Pulls_ok n_Pulls hown hK hP hD hS 0 rfl rfl 1 (by decide) (hts _ (List.mem_cons_of_mem _ kw_225)) (fun _ h9 => h9) rfl hin rfl (by decide +kernel) rfl rfl (Nat.le_of_ble_eq_true rfl) d_Pulls_init_27 (fun H locs hP hD hS => ?_)
  have hP : va_P (dC, dI) classes [(hp, .inr (4, [.ref hq, .ref ha, .null, .null, .ref hfx, .ref hfy, .double z0])), (hq, .inr (7, [.double side, .double qa, .double qb, .double qr])), (hfx, .inl (cD, 10, .inr (.inr (.inr (.inl (fun _ => FP.dconst0)))))), (hfy, .inl (cD, 10, .inr (.inr (.inr (.inl (fun _ => FP.dconst0))))))] H := hP
  have hD : va_D A [(hp, .inr (4, [.ref hq, .ref ha, .null, .null, .ref hfx, .ref hfy, .double z0])), (hq, .inr (7, [.double side, .double qa, .double qb, .double qr])), (hfx, .inl (cD, 10, .inr (.inr (.inr (.inl (fun _ => FP.dconst0)))))), (hfy, .inl (cD, 10, .inr (.inr (.inr (.inl (fun _ => FP.dconst0))))))] := hD
  refine lv_aload_n hx hb d_Pulls_init_30 rfl (lv_at hl 0 rfl) ?_
  refine lv_aload_n hx hb d_Pulls_init_31 rfl (lv_at hl 3 rfl) ?_
  refine va_putF (D := (dC, dI)) (ci := 4) (v := .ref hso0) (ty := (.object "ParticleBox$Sorts")) (C := R_Pulls) (T := F_Pulls) (N := 7) hx hb hts (fun w h => List.mem_cons_of_mem _ (i_Pulls w h)) t_Pulls t_Pulls_ok n_Pulls hown hK hP hD hS 0 rfl rfl 2 (by decide) (hts _ (List.mem_cons_of_mem _ kw_226)) (fun _ h9 => h9) rfl hin rfl (by decide +kernel) rfl rfl (Nat.le_of_ble_eq_true rfl) d_Pulls_init_32 (fun H locs hP hD hS => ?_)
  have hP : va_P (dC, dI) classes [(hp, .inr (4, [.ref hq, .ref ha, .ref hso0, .null, .ref hfx, .ref hfy, .double z0])), (hq, .inr (7, [.double side, .double qa, .double qb, .double qr])), (hfx, .inl (cD, 10, .inr (.inr (.inr (.inl (fun _ => FP.dconst0)))))), (hfy, .inl (cD, 10, .inr (.inr (.inr (.inl (fun _ => FP.dconst0))))))] H := hP
  have hD : va_D A [(hp, .inr (4, [.ref hq, .ref ha, .ref hso0, .null, .ref hfx, .ref hfy, .double z0])), (hq, .inr (7, [.double side, .double qa, .double qb, .double qr])), (hfx, .inl (cD, 10, .inr (.inr (.inr (.inl (fun _ => FP.dconst0)))))), (hfy, .inl (cD, 10, .inr (.inr (.inr (.inl (fun _ => FP.dconst0))))))] := hD
  refine lv_aload_n hx hb d_Pulls_init_35 rfl (lv_at hl 0 rfl) ?_
  refine lv_aload hx hb d_Pulls_init_36 (lv_at hl 4 rfl) ?_
  refine va_putF (D := (dC, dI)) (ci := 4) (v := .ref hb0) (ty := (.object "ParticleBox$Links")) (C := R_Pulls) (T := F_Pulls) (N := 7) hx hb hts (fun w h => List.mem_cons_of_mem _ (i_Pulls w h)) t_Pulls t_Pulls_ok n_Pulls hown hK hP hD hS 0 rfl rfl 3 (by decide) (hts _ (List.mem_cons_of_mem _ kw_227)) (fun _ h9 => h9) rfl hin rfl (by decide +kernel) rfl rfl (Nat.le_of_ble_eq_true rfl) d_Pulls_init_38 (fun H locs hP hD hS => ?_)
  have hP : va_P (dC, dI) classes [(hp, .inr (4, [.ref hq, .ref ha, .ref hso0, .ref hb0, .ref hfx, .ref hfy, .double z0])), (hq, .inr (7, [.double side, .double qa, .double qb, .double qr])), (hfx, .inl (cD, 10, .inr (.inr (.inr (.inl (fun _ => FP.dconst0)))))), (hfy, .inl (cD, 10, .inr (.inr (.inr (.inl (fun _ => FP.dconst0))))))] H := hP
  have hD : va_D A [(hp, .inr (4, [.ref hq, .ref ha, .ref hso0, .ref hb0, .ref hfx, .ref hfy, .double z0])), (hq, .inr (7, [.double side, .double qa, .double qb, .double qr])), (hfx, .inl (cD, 10, .inr (.inr (.inr (.inl (fun _ => FP.dconst0)))))), (hfy, .inl (cD, 10, .inr (.inr (.inr (.inl (fun _ => FP.dconst0))))))] := hD
  refine lv_aload_n hx hb d_Pulls_init_41 rfl (lv_at hl 0 rfl) ?_
  refine lv_aload_n hx hb d_Pulls_init_42 rfl (lv_at hl 1 rfl) ?_
  refine va_get (D := (dC, dI)) (ci := 7) (v := .double side) (C := R_Square) (T := F_Square) (N := 4) hx hb hts (fun w h => List.mem_cons_of_mem _ (i_Square w h)) hown hK hP 1 rfl rfl 0 (by decide) (hts _ (List.mem_cons_of_mem _ kw_84)) (fun _ h9 => h9) rfl d_Pulls_init_43 ?_
  refine lv_ldc2d (v := 4598175219545276416) hx hb hown (hts (.constantDouble R_Pulls 40 4598175219545276416) (by decide +kernel)) d_Pulls_init_46 ?_
  have g_1 := fp_const (a := 4598175219545276416) (T := (fp_d 1 1072)) (by decide +kernel)
  have g_2 := fp_I_mul (fp_d 1 1074) (fp_d 1 1077) hs.I g_1 (by decide +kernel)
  refine lv_dmul hx hb d_Pulls_init_49 g_2.n ?_
  refine va_put (D := (dC, dI)) (ci := 4) (v := .double (FP.dmul side 4598175219545276416)) (ty := .double) (C := R_Pulls) (T := F_Pulls) (N := 7) hx hb hts (fun w h => List.mem_cons_of_mem _ (i_Pulls w h)) t_Pulls t_Pulls_ok n_Pulls hown hK hP hD hS 0 rfl rfl 6 (by decide) (hts _ (List.mem_cons_of_mem _ kw_234)) (fun _ h9 => h9) rfl (by decide +kernel) rfl rfl (Nat.le_of_ble_eq_true rfl) d_Pulls_init_50 (fun H locs hP hD hS => ?_)
  have hP : va_P (dC, dI) classes [(hp, .inr (4, [.ref hq, .ref ha, .ref hso0, .ref hb0, .ref hfx, .ref hfy, .double (FP.dmul side 4598175219545276416)])), (hq, .inr (7, [.double side, .double qa, .double qb, .double qr])), (hfx, .inl (cD, 10, .inr (.inr (.inr (.inl (fun _ => FP.dconst0)))))), (hfy, .inl (cD, 10, .inr (.inr (.inr (.inl (fun _ => FP.dconst0))))))] H := hP
  have hD : va_D A [(hp, .inr (4, [.ref hq, .ref ha, .ref hso0, .ref hb0, .ref hfx, .ref hfy, .double (FP.dmul side 4598175219545276416)])), (hq, .inr (7, [.double side, .double qa, .double qb, .double qr])), (hfx, .inl (cD, 10, .inr (.inr (.inr (.inl (fun _ => FP.dconst0)))))), (hfy, .inl (cD, 10, .inr (.inr (.inr (.inl (fun _ => FP.dconst0))))))] := hD
  have hP9 := hP.sub (ws' := [(hp, .inr (4, [.ref hq, .ref ha, .ref hso0, .ref hb0, .ref hfx, .ref hfy, .double (FP.dmul side 4598175219545276416)])), (hq, .inr (7, [.double side, .double qa, .double qb, .double qr])), (hfx, .inl (cD, 10, .inr (.inr (.inr (.inl (fun _ => FP.dconst0)))))), (hfy, .inl (cD, 10, .inr (.inr (.inr (.inl (fun _ => FP.dconst0))))))]) [0, 1, 2, 3] rfl
  have hD9 := hD.sub (ws' := [(hp, .inr (4, [.ref hq, .ref ha, .ref hso0, .ref hb0, .ref hfx, .ref hfy, .double (FP.dmul side 4598175219545276416)])), (hq, .inr (7, [.double side, .double qa, .double qb, .double qr])), (hfx, .inl (cD, 10, .inr (.inr (.inr (.inl (fun _ => FP.dconst0)))))), (hfy, .inl (cD, 10, .inr (.inr (.inr (.inl (fun _ => FP.dconst0))))))]) [0, 1, 2, 3] (by decide) rfl
  refine W.widen (k := 2) (n := 20) (by omega) (by omega) ?_
  exact W.vret hx hb hr (fun tt9 ht9 hW9 => ⟨⟨(hfx, hfy), rfl, trivial, by rw [ht9]; exact hP9, va_K.moved hW9.alike hK, hD9⟩, hS.F ht9⟩) hS.2.2 d_Pulls_init_53
set_option maxHeartbeats 4000000 in
set_option maxRecDepth 100000 in
/-- new Mover -/
theorem c_Mover_init (l : Launch) (dC : Nat → ClassId) (dI : Nat → Nat → Nat) (cI cD cZ : ClassId) (sz : Nat) (hmv : Nat) (hq : Nat) (ha : Nat) (hr0 : Nat) (hp : Nat) (hn0 : Nat) (z0 : Int32) : Met l y_Mover_init w_Mover_init ({ frames := 1, cells := 4, slots := 40, locals := 12 }) (va_Pc [.ref hmv, .ref hq, .ref ha, .ref hr0, .ref hp, .ref hn0] (gx_B (dC, dI) classes (gx_T cI cD cZ) [(hmv, .inr (2, [.null, .null, .null, .null, .null, .null, .null, .null, .null, .int z0]))] sz)) (va_Qv (fun (uu : Nat × Nat × Nat × Nat) => match uu with | (hox, hoy, hou, hov) => True) (fun (uu : Nat × Nat × Nat × Nat) t => gx_E (dC, dI) classes (gx_T cI cD cZ) (va_A [(hmv, .inr (2, [.null, .null, .null, .null, .null, .null, .null, .null, .null, .int z0]))] sz) (match uu with | (hox, hoy, hou, hov) => [(hmv, .inr (2, [.ref hq, .ref ha, .ref hr0, .ref hp, .ref hn0, .ref hox, .ref hoy, .ref hou, .ref hov, .int z0])), (hox, .inl (cD, 10, .inr (.inr (.inr (.inl (fun _ => FP.dconst0)))))), (hoy, .inl (cD, 10, .inr (.inr (.inr (.inl (fun _ => FP.dconst0)))))), (hou, .inl (cD, 10, .inr (.inr (.inr (.inl (fun _ => FP.dconst0)))))), (hov, .inl (cD, 10, .inr (.inr (.inr (.inl (fun _ => FP.dconst0))))))]) t) (va_A [(hmv, .inr (2, [.null, .null, .null, .null, .null, .null, .null, .null, .null, .int z0]))] sz)) 4 40 (va_A [(hmv, .inr (2, [.null, .null, .null, .null, .null, .null, .null, .null, .null, .int z0]))] sz) := by
  refine Met.ofW (cc := b_Mover_init) (maxL := 6) (ret := none) (by decide) rfl ?_
  intro p e s m args below meth c s₁ B hml hv
  obtain ⟨rfl, hsz, hP, hK, hD0, hN⟩ := hv
  have hx := B.exec
  have hb := B.bytes
  have hr := B.returns
  have hts := atoms_spec (ws := w_Mover_init) B.pre
  have hown : s.vm.findClass R_Mover = some m.cls := findClass_of_methodNamed B.named
  have hlocks := B.notSynchronized
  have hin : meth.name = "<init>" := (name_of_methodNamed B.named B.method).1
  subst hsz
  have hD := hD0.self (sz := s.heap.size)
  generalize hAe : va_A [(hmv, .inr (2, [.null, .null, .null, .null, .null, .null, .null, .null, .null, .int z0]))] s.heap.size = A at hD ⊢
  have hA : ∀ q : Nat, s.heap.size ≤ q → A q := fun q h => by rw [← hAe]; exact Or.inr h
  have hS : va_S A s.heap s.heap [] := va_S.rf
  have hl := lv_entry ([.ref hmv, .ref hq, .ref ha, .ref hr0, .ref hp, .ref hn0]) (n := 6) (Nat.le_of_ble_eq_true rfl)
  rw [lg_entry_eq]
  generalize (lg_sl ([.ref hmv, .ref hq, .ref ha, .ref hr0, .ref hp, .ref hn0]) ++ List.replicate (6 - (lg_sl ([.ref hmv, .ref hq, .ref ha, .ref hr0, .ref hp, .ref hn0])).length) Slot.unset).toArray = ls at hl ⊢
  have hl : lv_has ls 6 [(0, .ref hmv), (1, .ref hq), (2, .ref ha), (3, .ref hr0), (4, .ref hp), (5, .ref hn0)] := hl
  obtain ⟨H, hH⟩ : ∃ H, H = s.heap := ⟨_, rfl⟩
  rw [← hH] at hP
  have hS : va_S A s.heap H [] := by rw [hH]; exact hS
  refine gx_start hH ?_
  refine lv_aload_n hx hb d_Mover_init_0 rfl (lv_at hl 0 rfl) ?_
  refine W.objInit hx hb hown (hts (.methodLink R_Mover 3 objectInit) (by decide +kernel)) (hts (.instanceMethod objectInit) (by decide +kernel)) (hts _ (List.mem_cons_of_mem _ kw_69)) rfl (by rw [hml]; exact hl.1) rfl d_Mover_init_1 (Nat.le_of_ble_eq_true rfl) (Nat.le_of_ble_eq_true rfl) ?_
  refine W.eq (g2 := F0 m 4 ls []) rfl ?_
  refine lv_aload_n hx hb d_Mover_init_4 rfl (lv_at hl 0 rfl) ?_
  refine lv_bipush (v := nI 10) hx hb d_Mover_init_5 (by decide) ?_
  refine gx_newd hx hb (hts _ (List.mem_cons_of_mem _ kw_160)) hK hP hD hS hA 10 (by omega) (Nat.le_of_ble_eq_true rfl) (Nat.le_of_ble_eq_true rfl) d_Mover_init_7 (fun hox H hP hD hS => ?_)
  have hP : va_P (dC, dI) classes [(hmv, .inr (2, [.null, .null, .null, .null, .null, .null, .null, .null, .null, .int z0])), (hox, .inl (cD, 10, .inr (.inr (.inr (.inl (fun _ => FP.dconst0))))))] H := hP
  have hD : va_D A [(hmv, .inr (2, [.null, .null, .null, .null, .null, .null, .null, .null, .null, .int z0])), (hox, .inl (cD, 10, .inr (.inr (.inr (.inl (fun _ => FP.dconst0))))))] := hD
  refine va_putF (D := (dC, dI)) (ci := 2) (v := .ref hox) (ty := (.array .double)) (C := R_Mover) (T := F_Mover) (N := 10) hx hb hts (fun w h => List.mem_cons_of_mem _ (i_Mover w h)) t_Mover t_Mover_ok n_Mover hown hK hP hD hS 0 rfl rfl 5 (by decide) (hts _ (List.mem_cons_of_mem _ kw_294)) (fun _ h9 => h9) rfl hin rfl (by decide +kernel) rfl rfl (Nat.le_of_ble_eq_true rfl) d_Mover_init_9 (fun H locs hP hD hS => ?_)
  have hP : va_P (dC, dI) classes [(hmv, .inr (2, [.null, .null, .null, .null, .null, .ref hox, .null, .null, .null, .int z0])), (hox, .inl (cD, 10, .inr (.inr (.inr (.inl (fun _ => FP.dconst0))))))] H := hP
  have hD : va_D A [(hmv, .inr (2, [.null, .null, .null, .null, .null, .ref hox, .null, .null, .null, .int z0])), (hox, .inl (cD, 10, .inr (.inr (.inr (.inl (fun _ => FP.dconst0))))))] := hD
  refine lv_aload_n hx hb d_Mover_init_12 rfl (lv_at hl 0 rfl) ?_
  refine lv_bipush (v := nI 10) hx hb d_Mover_init_13 (by decide) ?_
  refine gx_newd hx hb (hts _ (List.mem_cons_of_mem _ kw_160)) hK hP hD hS hA 10 (by omega) (Nat.le_of_ble_eq_true rfl) (Nat.le_of_ble_eq_true rfl) d_Mover_init_15 (fun hoy H hP hD hS => ?_)
  have hP : va_P (dC, dI) classes [(hmv, .inr (2, [.null, .null, .null, .null, .null, .ref hox, .null, .null, .null, .int z0])), (hox, .inl (cD, 10, .inr (.inr (.inr (.inl (fun _ => FP.dconst0)))))), (hoy, .inl (cD, 10, .inr (.inr (.inr (.inl (fun _ => FP.dconst0))))))] H := hP
  have hD : va_D A [(hmv, .inr (2, [.null, .null, .null, .null, .null, .ref hox, .null, .null, .null, .int z0])), (hox, .inl (cD, 10, .inr (.inr (.inr (.inl (fun _ => FP.dconst0)))))), (hoy, .inl (cD, 10, .inr (.inr (.inr (.inl (fun _ => FP.dconst0))))))] := hD
  refine va_putF (D := (dC, dI)) (ci := 2) (v := .ref hoy) (ty := (.array .double)) (C := R_Mover) (T := F_Mover) (N := 10) hx hb hts (fun w h => List.mem_cons_of_mem _ (i_Mover w h)) t_Mover t_Mover_ok n_Mover hown hK hP hD hS 0 rfl rfl 6 (by decide) (hts _ (List.mem_cons_of_mem _ kw_295)) (fun _ h9 => h9) rfl hin rfl (by decide +kernel) rfl rfl (Nat.le_of_ble_eq_true rfl) d_Mover_init_17 (fun H locs hP hD hS => ?_)
  have hP : va_P (dC, dI) classes [(hmv, .inr (2, [.null, .null, .null, .null, .null, .ref hox, .ref hoy, .null, .null, .int z0])), (hox, .inl (cD, 10, .inr (.inr (.inr (.inl (fun _ => FP.dconst0)))))), (hoy, .inl (cD, 10, .inr (.inr (.inr (.inl (fun _ => FP.dconst0))))))] H := hP
  have hD : va_D A [(hmv, .inr (2, [.null, .null, .null, .null, .null, .ref hox, .ref hoy, .null, .null, .int z0])), (hox, .inl (cD, 10, .inr (.inr (.inr (.inl (fun _ => FP.dconst0)))))), (hoy, .inl (cD, 10, .inr (.inr (.inr (.inl (fun _ => FP.dconst0))))))] := hD
  refine lv_aload_n hx hb d_Mover_init_20 rfl (lv_at hl 0 rfl) ?_
  refine lv_bipush (v := nI 10) hx hb d_Mover_init_21 (by decide) ?_
  refine gx_newd hx hb (hts _ (List.mem_cons_of_mem _ kw_160)) hK hP hD hS hA 10 (by omega) (Nat.le_of_ble_eq_true rfl) (Nat.le_of_ble_eq_true rfl) d_Mover_init_23 (fun hou H hP hD hS => ?_)
  have hP : va_P (dC, dI) classes [(hmv, .inr (2, [.null, .null, .null, .null, .null, .ref hox, .ref hoy, .null, .null, .int z0])), (hox, .inl (cD, 10, .inr (.inr (.inr (.inl (fun _ => FP.dconst0)))))), (hoy, .inl (cD, 10, .inr (.inr (.inr (.inl (fun _ => FP.dconst0)))))), (hou, .inl (cD, 10, .inr (.inr (.inr (.inl (fun _ => FP.dconst0))))))] H := hP
  have hD : va_D A [(hmv, .inr (2, [.null, .null, .null, .null, .null, .ref hox, .ref hoy, .null, .null, .int z0])), (hox, .inl (cD, 10, .inr (.inr (.inr (.inl (fun _ => FP.dconst0)))))), (hoy, .inl (cD, 10, .inr (.inr (.inr (.inl (fun _ => FP.dconst0)))))), (hou, .inl (cD, 10, .inr (.inr (.inr (.inl (fun _ => FP.dconst0))))))] := hD
  refine va_putF (D := (dC, dI)) (ci := 2) (v := .ref hou) (ty := (.array .double)) (C := R_Mover) (T := F_Mover) (N := 10) hx hb hts (fun w h => List.mem_cons_of_mem _ (i_Mover w h)) t_Mover t_Mover_ok n_Mover hown hK hP hD hS 0 rfl rfl 7 (by decide) (hts _ (List.mem_cons_of_mem _ kw_296)) (fun _ h9 => h9) rfl hin rfl (by decide +kernel) rfl rfl (Nat.le_of_ble_eq_true rfl) d_Mover_init_25 (fun H locs hP hD hS => ?_)
  have hP : va_P (dC, dI) classes [(hmv, .inr (2, [.null, .null, .null, .null, .null, .ref hox, .ref hoy, .ref hou, .null, .int z0])), (hox, .inl (cD, 10, .inr (.inr (.inr (.inl (fun _ => FP.dconst0)))))), (hoy, .inl (cD, 10, .inr (.inr (.inr (.inl (fun _ => FP.dconst0)))))), (hou, .inl (cD, 10, .inr (.inr (.inr (.inl (fun _ => FP.dconst0))))))] H := hP
  have hD : va_D A [(hmv, .inr (2, [.null, .null, .null, .null, .null, .ref hox, .ref hoy, .ref hou, .null, .int z0])), (hox, .inl (cD, 10, .inr (.inr (.inr (.inl (fun _ => FP.dconst0)))))), (hoy, .inl (cD, 10, .inr (.inr (.inr (.inl (fun _ => FP.dconst0)))))), (hou, .inl (cD, 10, .inr (.inr (.inr (.inl (fun _ => FP.dconst0))))))] := hD
  refine lv_aload_n hx hb d_Mover_init_28 rfl (lv_at hl 0 rfl) ?_
  refine lv_bipush (v := nI 10) hx hb d_Mover_init_29 (by decide) ?_
  refine gx_newd hx hb (hts _ (List.mem_cons_of_mem _ kw_160)) hK hP hD hS hA 10 (by omega) (Nat.le_of_ble_eq_true rfl) (Nat.le_of_ble_eq_true rfl) d_Mover_init_31 (fun hov H hP hD hS => ?_)
  have hP : va_P (dC, dI) classes [(hmv, .inr (2, [.null, .null, .null, .null, .null, .ref hox, .ref hoy, .ref hou, .null, .int z0])), (hox, .inl (cD, 10, .inr (.inr (.inr (.inl (fun _ => FP.dconst0)))))), (hoy, .inl (cD, 10, .inr (.inr (.inr (.inl (fun _ => FP.dconst0)))))), (hou, .inl (cD, 10, .inr (.inr (.inr (.inl (fun _ => FP.dconst0)))))), (hov, .inl (cD, 10, .inr (.inr (.inr (.inl (fun _ => FP.dconst0))))))] H := hP
  have hD : va_D A [(hmv, .inr (2, [.null, .null, .null, .null, .null, .ref hox, .ref hoy, .ref hou, .null, .int z0])), (hox, .inl (cD, 10, .inr (.inr (.inr (.inl (fun _ => FP.dconst0)))))), (hoy, .inl (cD, 10, .inr (.inr (.inr (.inl (fun _ => FP.dconst0)))))), (hou, .inl (cD, 10, .inr (.inr (.inr (.inl (fun _ => FP.dconst0)))))), (hov, .inl (cD, 10, .inr (.inr (.inr (.inl (fun _ => FP.dconst0))))))] := hD
  refine va_putF (D := (dC, dI)) (ci := 2) (v := .ref hov) (ty := (.array .double)) (C := R_Mover) (T := F_Mover) (N := 10) hx hb hts (fun w h => List.mem_cons_of_mem _ (i_Mover w h)) t_Mover t_Mover_ok n_Mover hown hK hP hD hS 0 rfl rfl 8 (by decide) (hts _ (List.mem_cons_of_mem _ kw_297)) (fun _ h9 => h9) rfl hin rfl (by decide +kernel) rfl rfl (Nat.le_of_ble_eq_true rfl) d_Mover_init_33 (fun H locs hP hD hS => ?_)
  have hP : va_P (dC, dI) classes [(hmv, .inr (2, [.null, .null, .null, .null, .null, .ref hox, .ref hoy, .ref hou, .ref hov, .int z0])), (hox, .inl (cD, 10, .inr (.inr (.inr (.inl (fun _ => FP.dconst0)))))), (hoy, .inl (cD, 10, .inr (.inr (.inr (.inl (fun _ => FP.dconst0)))))), (hou, .inl (cD, 10, .inr (.inr (.inr (.inl (fun _ => FP.dconst0)))))), (hov, .inl (cD, 10, .inr (.inr (.inr (.inl (fun _ => FP.dconst0))))))] H := hP
  have hD : va_D A [(hmv, .inr (2, [.null, .null, .null, .null, .null, .ref hox, .ref hoy, .ref hou, .ref hov, .int z0])), (hox, .inl (cD, 10, .inr (.inr (.inr (.inl (fun _ => FP.dconst0)))))), (hoy, .inl (cD, 10, .inr (.inr (.inr (.inl (fun _ => FP.dconst0)))))), (hou, .inl (cD, 10, .inr (.inr (.inr (.inl (fun _ => FP.dconst0)))))), (hov, .inl (cD, 10, .inr (.inr (.inr (.inl (fun _ => FP.dconst0))))))] := hD
  refine lv_aload_n hx hb d_Mover_init_36 rfl (lv_at hl 0 rfl) ?_
  refine lv_aload_n hx hb d_Mover_init_37 rfl (lv_at hl 1 rfl) ?_
  refine va_putF (D := (dC, dI)) (ci := 2) (v := .ref hq) (ty := (.object "ParticleBox$Square")) (C := R_Mover) (T := F_Mover) (N := 10) hx hb hts (fun w h => List.mem_cons_of_mem _ (i_Mover w h)) t_Mover t_Mover_ok n_Mover hown hK hP hD hS 0 rfl rfl 0 (by decide) (hts _ (List.mem_cons_of_mem _ kw_289)) (fun _ h9 => h9) rfl hin rfl (by decide +kernel) rfl rfl (Nat.le_of_ble_eq_true rfl) d_Mover_init_38 (fun H locs hP hD hS => ?_)
  have hP : va_P (dC, dI) classes [(hmv, .inr (2, [.ref hq, .null, .null, .null, .null, .ref hox, .ref hoy, .ref hou, .ref hov, .int z0])), (hox, .inl (cD, 10, .inr (.inr (.inr (.inl (fun _ => FP.dconst0)))))), (hoy, .inl (cD, 10, .inr (.inr (.inr (.inl (fun _ => FP.dconst0)))))), (hou, .inl (cD, 10, .inr (.inr (.inr (.inl (fun _ => FP.dconst0)))))), (hov, .inl (cD, 10, .inr (.inr (.inr (.inl (fun _ => FP.dconst0))))))] H := hP
  have hD : va_D A [(hmv, .inr (2, [.ref hq, .null, .null, .null, .null, .ref hox, .ref hoy, .ref hou, .ref hov, .int z0])), (hox, .inl (cD, 10, .inr (.inr (.inr (.inl (fun _ => FP.dconst0)))))), (hoy, .inl (cD, 10, .inr (.inr (.inr (.inl (fun _ => FP.dconst0)))))), (hou, .inl (cD, 10, .inr (.inr (.inr (.inl (fun _ => FP.dconst0)))))), (hov, .inl (cD, 10, .inr (.inr (.inr (.inl (fun _ => FP.dconst0))))))] := hD
  refine lv_aload_n hx hb d_Mover_init_41 rfl (lv_at hl 0 rfl) ?_
  refine lv_aload_n hx hb d_Mover_init_42 rfl (lv_at hl 2 rfl) ?_
  refine va_putF (D := (dC, dI)) (ci := 2) (v := .ref ha) (ty := (.object "ParticleBox$Atoms")) (C := R_Mover) (T := F_Mover) (N := 10) hx hb hts (fun w h => List.mem_cons_of_mem _ (i_Mover w h)) t_Mover t_Mover_ok n_Mover hown hK hP hD hS 0 rfl rfl 1 (by decide) (hts _ (List.mem_cons_of_mem _ kw_290)) (fun _ h9 => h9) rfl hin rfl (by decide +kernel) rfl rfl (Nat.le_of_ble_eq_true rfl) d_Mover_init_43 (fun H locs hP hD hS => ?_)
  have hP : va_P (dC, dI) classes [(hmv, .inr (2, [.ref hq, .ref ha, .null, .null, .null, .ref hox, .ref hoy, .ref hou, .ref hov, .int z0])), (hox, .inl (cD, 10, .inr (.inr (.inr (.inl (fun _ => FP.dconst0)))))), (hoy, .inl (cD, 10, .inr (.inr (.inr (.inl (fun _ => FP.dconst0)))))), (hou, .inl (cD, 10, .inr (.inr (.inr (.inl (fun _ => FP.dconst0)))))), (hov, .inl (cD, 10, .inr (.inr (.inr (.inl (fun _ => FP.dconst0))))))] H := hP
  have hD : va_D A [(hmv, .inr (2, [.ref hq, .ref ha, .null, .null, .null, .ref hox, .ref hoy, .ref hou, .ref hov, .int z0])), (hox, .inl (cD, 10, .inr (.inr (.inr (.inl (fun _ => FP.dconst0)))))), (hoy, .inl (cD, 10, .inr (.inr (.inr (.inl (fun _ => FP.dconst0)))))), (hou, .inl (cD, 10, .inr (.inr (.inr (.inl (fun _ => FP.dconst0)))))), (hov, .inl (cD, 10, .inr (.inr (.inr (.inl (fun _ => FP.dconst0))))))] := hD
  refine lv_aload_n hx hb d_Mover_init_46 rfl (lv_at hl 0 rfl) ?_
  refine lv_aload_n hx hb d_Mover_init_47 rfl (lv_at hl 3 rfl) ?_
  refine va_putF (D := (dC, dI)) (ci := 2) (v := .ref hr0) (ty := (.object "ParticleBox$Links")) (C := R_Mover) (T := F_Mover) (N := 10) hx hb hts (fun w h => List.mem_cons_of_mem _ (i_Mover w h)) t_Mover t_Mover_ok n_Mover hown hK hP hD hS 0 rfl rfl 2 (by decide) (hts _ (List.mem_cons_of_mem _ kw_291)) (fun _ h9 => h9) rfl hin rfl (by decide +kernel) rfl rfl (Nat.le_of_ble_eq_true rfl) d_Mover_init_48 (fun H locs hP hD hS => ?_)
  have hP : va_P (dC, dI) classes [(hmv, .inr (2, [.ref hq, .ref ha, .ref hr0, .null, .null, .ref hox, .ref hoy, .ref hou, .ref hov, .int z0])), (hox, .inl (cD, 10, .inr (.inr (.inr (.inl (fun _ => FP.dconst0)))))), (hoy, .inl (cD, 10, .inr (.inr (.inr (.inl (fun _ => FP.dconst0)))))), (hou, .inl (cD, 10, .inr (.inr (.inr (.inl (fun _ => FP.dconst0)))))), (hov, .inl (cD, 10, .inr (.inr (.inr (.inl (fun _ => FP.dconst0))))))] H := hP
  have hD : va_D A [(hmv, .inr (2, [.ref hq, .ref ha, .ref hr0, .null, .null, .ref hox, .ref hoy, .ref hou, .ref hov, .int z0])), (hox, .inl (cD, 10, .inr (.inr (.inr (.inl (fun _ => FP.dconst0)))))), (hoy, .inl (cD, 10, .inr (.inr (.inr (.inl (fun _ => FP.dconst0)))))), (hou, .inl (cD, 10, .inr (.inr (.inr (.inl (fun _ => FP.dconst0)))))), (hov, .inl (cD, 10, .inr (.inr (.inr (.inl (fun _ => FP.dconst0))))))] := hD
  refine lv_aload_n hx hb d_Mover_init_51 rfl (lv_at hl 0 rfl) ?_
  refine lv_aload hx hb d_Mover_init_52 (lv_at hl 4 rfl) ?_
  refine va_putF (D := (dC, dI)) (ci := 2) (v := .ref hp) (ty := (.object "ParticleBox$Pulls")) (C := R_Mover) (T := F_Mover) (N := 10) hx hb hts (fun w h => List.mem_cons_of_mem _ (i_Mover w h)) t_Mover t_Mover_ok n_Mover hown hK hP hD hS 0 rfl rfl 3 (by decide) (hts _ (List.mem_cons_of_mem _ kw_292)) (fun _ h9 => h9) rfl hin rfl (by decide +kernel) rfl rfl (Nat.le_of_ble_eq_true rfl) d_Mover_init_54 (fun H locs hP hD hS => ?_)
  have hP : va_P (dC, dI) classes [(hmv, .inr (2, [.ref hq, .ref ha, .ref hr0, .ref hp, .null, .ref hox, .ref hoy, .ref hou, .ref hov, .int z0])), (hox, .inl (cD, 10, .inr (.inr (.inr (.inl (fun _ => FP.dconst0)))))), (hoy, .inl (cD, 10, .inr (.inr (.inr (.inl (fun _ => FP.dconst0)))))), (hou, .inl (cD, 10, .inr (.inr (.inr (.inl (fun _ => FP.dconst0)))))), (hov, .inl (cD, 10, .inr (.inr (.inr (.inl (fun _ => FP.dconst0))))))] H := hP
  have hD : va_D A [(hmv, .inr (2, [.ref hq, .ref ha, .ref hr0, .ref hp, .null, .ref hox, .ref hoy, .ref hou, .ref hov, .int z0])), (hox, .inl (cD, 10, .inr (.inr (.inr (.inl (fun _ => FP.dconst0)))))), (hoy, .inl (cD, 10, .inr (.inr (.inr (.inl (fun _ => FP.dconst0)))))), (hou, .inl (cD, 10, .inr (.inr (.inr (.inl (fun _ => FP.dconst0)))))), (hov, .inl (cD, 10, .inr (.inr (.inr (.inl (fun _ => FP.dconst0))))))] := hD
  refine lv_aload_n hx hb d_Mover_init_57 rfl (lv_at hl 0 rfl) ?_
  refine lv_aload hx hb d_Mover_init_58 (lv_at hl 5 rfl) ?_
  refine va_putF (D := (dC, dI)) (ci := 2) (v := .ref hn0) (ty := (.object "ParticleBox$Neighbours")) (C := R_Mover) (T := F_Mover) (N := 10) hx hb hts (fun w h => List.mem_cons_of_mem _ (i_Mover w h)) t_Mover t_Mover_ok n_Mover hown hK hP hD hS 0 rfl rfl 4 (by decide) (hts _ (List.mem_cons_of_mem _ kw_293)) (fun _ h9 => h9) rfl hin rfl (by decide +kernel) rfl rfl (Nat.le_of_ble_eq_true rfl) d_Mover_init_60 (fun H locs hP hD hS => ?_)
  have hP : va_P (dC, dI) classes [(hmv, .inr (2, [.ref hq, .ref ha, .ref hr0, .ref hp, .ref hn0, .ref hox, .ref hoy, .ref hou, .ref hov, .int z0])), (hox, .inl (cD, 10, .inr (.inr (.inr (.inl (fun _ => FP.dconst0)))))), (hoy, .inl (cD, 10, .inr (.inr (.inr (.inl (fun _ => FP.dconst0)))))), (hou, .inl (cD, 10, .inr (.inr (.inr (.inl (fun _ => FP.dconst0)))))), (hov, .inl (cD, 10, .inr (.inr (.inr (.inl (fun _ => FP.dconst0))))))] H := hP
  have hD : va_D A [(hmv, .inr (2, [.ref hq, .ref ha, .ref hr0, .ref hp, .ref hn0, .ref hox, .ref hoy, .ref hou, .ref hov, .int z0])), (hox, .inl (cD, 10, .inr (.inr (.inr (.inl (fun _ => FP.dconst0)))))), (hoy, .inl (cD, 10, .inr (.inr (.inr (.inl (fun _ => FP.dconst0)))))), (hou, .inl (cD, 10, .inr (.inr (.inr (.inl (fun _ => FP.dconst0)))))), (hov, .inl (cD, 10, .inr (.inr (.inr (.inl (fun _ => FP.dconst0))))))] := hD
  have hP9 := hP.sub (ws' := [(hmv, .inr (2, [.ref hq, .ref ha, .ref hr0, .ref hp, .ref hn0, .ref hox, .ref hoy, .ref hou, .ref hov, .int z0])), (hox, .inl (cD, 10, .inr (.inr (.inr (.inl (fun _ => FP.dconst0)))))), (hoy, .inl (cD, 10, .inr (.inr (.inr (.inl (fun _ => FP.dconst0)))))), (hou, .inl (cD, 10, .inr (.inr (.inr (.inl (fun _ => FP.dconst0)))))), (hov, .inl (cD, 10, .inr (.inr (.inr (.inl (fun _ => FP.dconst0))))))]) [0, 1, 2, 3, 4] rfl
  have hD9 := hD.sub (ws' := [(hmv, .inr (2, [.ref hq, .ref ha, .ref hr0, .ref hp, .ref hn0, .ref hox, .ref hoy, .ref hou, .ref hov, .int z0])), (hox, .inl (cD, 10, .inr (.inr (.inr (.inl (fun _ => FP.dconst0)))))), (hoy, .inl (cD, 10, .inr (.inr (.inr (.inl (fun _ => FP.dconst0)))))), (hou, .inl (cD, 10, .inr (.inr (.inr (.inl (fun _ => FP.dconst0)))))), (hov, .inl (cD, 10, .inr (.inr (.inr (.inl (fun _ => FP.dconst0))))))]) [0, 1, 2, 3, 4] (by decide) rfl
  refine W.widen (k := 4) (n := 40) (by omega) (by omega) ?_
  exact W.vret hx hb hr (fun tt9 ht9 hW9 => ⟨⟨(hox, hoy, hou, hov), rfl, trivial, by rw [ht9]; exact hP9, va_K.moved hW9.alike hK, hD9⟩, hS.F ht9⟩) hS.2.2 d_Mover_init_63
