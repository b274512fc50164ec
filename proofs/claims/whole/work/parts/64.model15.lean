theorem d_Model_classOf_0 : decode b_Model_classOf 0 = .ok (.iload_n 0, 1) := by decide +kernel
theorem d_Model_classOf_1 : decode b_Model_classOf 1 = .ok (.iload_n 1, 1) := by decide +kernel
theorem d_Model_classOf_2 : decode b_Model_classOf 2 = .ok (.if_icmp .ge 11, 3) := by decide +kernel
theorem d_Model_classOf_5 : decode b_Model_classOf 5 = .ok (.iload_n 0, 1) := by decide +kernel
theorem d_Model_classOf_6 : decode b_Model_classOf 6 = .ok (.iconst 3, 1) := by decide +kernel
theorem d_Model_classOf_7 : decode b_Model_classOf 7 = .ok (.imul, 1) := by decide +kernel
theorem d_Model_classOf_8 : decode b_Model_classOf 8 = .ok (.iload_n 1, 1) := by decide +kernel
theorem d_Model_classOf_9 : decode b_Model_classOf 9 = .ok (.iadd, 1) := by decide +kernel
theorem d_Model_classOf_10 : decode b_Model_classOf 10 = .ok (.goto 8, 3) := by decide +kernel
theorem d_Model_classOf_13 : decode b_Model_classOf 13 = .ok (.iload_n 1, 1) := by decide +kernel
theorem d_Model_classOf_14 : decode b_Model_classOf 14 = .ok (.iconst 3, 1) := by decide +kernel
theorem d_Model_classOf_15 : decode b_Model_classOf 15 = .ok (.imul, 1) := by decide +kernel
theorem d_Model_classOf_16 : decode b_Model_classOf 16 = .ok (.iload_n 0, 1) := by decide +kernel
theorem d_Model_classOf_17 : decode b_Model_classOf 17 = .ok (.iadd, 1) := by decide +kernel
theorem d_Model_classOf_18 : decode b_Model_classOf 18 = .ok (.ireturn, 1) := by decide +kernel
theorem d_Model_sample_0 : decode b_Model_sample 0 = .ok (.aload_n 0, 1) := by decide +kernel
theorem d_Model_sample_1 : decode b_Model_sample 1 = .ok (.iconst 0, 1) := by decide +kernel
theorem d_Model_sample_2 : decode b_Model_sample 2 = .ok (.putfield 115, 3) := by decide +kernel
theorem d_Model_sample_5 : decode b_Model_sample 5 = .ok (.iconst 0, 1) := by decide +kernel
theorem d_Model_sample_6 : decode b_Model_sample 6 = .ok (.istore_n 1, 1) := by decide +kernel
theorem d_Model_sample_7 : decode b_Model_sample 7 = .ok (.iconst 0, 1) := by decide +kernel
theorem d_Model_sample_8 : decode b_Model_sample 8 = .ok (.istore_n 2, 1) := by decide +kernel
theorem d_Model_sample_9 : decode b_Model_sample 9 = .ok (.iload_n 2, 1) := by decide +kernel
theorem d_Model_sample_10 : decode b_Model_sample 10 = .ok (.aload_n 0, 1) := by decide +kernel
theorem d_Model_sample_11 : decode b_Model_sample 11 = .ok (.getfield 119, 3) := by decide +kernel
theorem d_Model_sample_14 : decode b_Model_sample 14 = .ok (.if_icmp .ge 114, 3) := by decide +kernel
theorem d_Model_sample_17 : decode b_Model_sample 17 = .ok (.iload_n 2, 1) := by decide +kernel
theorem d_Model_sample_18 : decode b_Model_sample 18 = .ok (.iconst 1, 1) := by decide +kernel
theorem d_Model_sample_19 : decode b_Model_sample 19 = .ok (.iadd, 1) := by decide +kernel
theorem d_Model_sample_20 : decode b_Model_sample 20 = .ok (.istore_n 3, 1) := by decide +kernel
theorem d_Model_sample_21 : decode b_Model_sample 21 = .ok (.iload_n 3, 1) := by decide +kernel
theorem d_Model_sample_22 : decode b_Model_sample 22 = .ok (.aload_n 0, 1) := by decide +kernel
theorem d_Model_sample_23 : decode b_Model_sample 23 = .ok (.getfield 119, 3) := by decide +kernel
theorem d_Model_sample_26 : decode b_Model_sample 26 = .ok (.if_icmp .ge 96, 3) := by decide +kernel
theorem d_Model_sample_29 : decode b_Model_sample 29 = .ok (.aload_n 0, 1) := by decide +kernel
theorem d_Model_sample_30 : decode b_Model_sample 30 = .ok (.iload_n 2, 1) := by decide +kernel
theorem d_Model_sample_31 : decode b_Model_sample 31 = .ok (.iload_n 3, 1) := by decide +kernel
theorem d_Model_sample_32 : decode b_Model_sample 32 = .ok (.invokevirtual 187, 3) := by decide +kernel
theorem d_Model_sample_35 : decode b_Model_sample 35 = .ok (.ifCond .ne 6, 3) := by decide +kernel
theorem d_Model_sample_38 : decode b_Model_sample 38 = .ok (.goto 78, 3) := by decide +kernel
theorem d_Model_sample_41 : decode b_Model_sample 41 = .ok (.iinc 1 1, 3) := by decide +kernel
theorem d_Model_sample_44 : decode b_Model_sample 44 = .ok (.aload_n 0, 1) := by decide +kernel
theorem d_Model_sample_45 : decode b_Model_sample 45 = .ok (.getfield 135, 3) := by decide +kernel
theorem d_Model_sample_48 : decode b_Model_sample 48 = .ok (.aload_n 0, 1) := by decide +kernel
theorem d_Model_sample_49 : decode b_Model_sample 49 = .ok (.getfield 112, 3) := by decide +kernel
theorem d_Model_sample_52 : decode b_Model_sample 52 = .ok (.aload_n 0, 1) := by decide +kernel
theorem d_Model_sample_53 : decode b_Model_sample 53 = .ok (.getfield 112, 3) := by decide +kernel
theorem d_Model_sample_56 : decode b_Model_sample 56 = .ok (.dmul, 1) := by decide +kernel
theorem d_Model_sample_57 : decode b_Model_sample 57 = .ok (.ldc2_w 281, 3) := by decide +kernel
theorem d_Model_sample_60 : decode b_Model_sample 60 = .ok (.ddiv, 1) := by decide +kernel
theorem d_Model_sample_61 : decode b_Model_sample 61 = .ok (.ddiv, 1) := by decide +kernel
theorem d_Model_sample_62 : decode b_Model_sample 62 = .ok (.invokestatic 122, 3) := by decide +kernel
theorem d_Model_sample_65 : decode b_Model_sample 65 = .ok (.dstore 4, 2) := by decide +kernel
theorem d_Model_sample_67 : decode b_Model_sample 67 = .ok (.dload 4, 2) := by decide +kernel
theorem d_Model_sample_69 : decode b_Model_sample 69 = .ok (.ldc2_w 283, 3) := by decide +kernel
theorem d_Model_sample_72 : decode b_Model_sample 72 = .ok (.dcmp .l, 1) := by decide +kernel
theorem d_Model_sample_73 : decode b_Model_sample 73 = .ok (.ifCond .le 8, 3) := by decide +kernel
theorem d_Model_sample_76 : decode b_Model_sample 76 = .ok (.bipush 15, 2) := by decide +kernel
theorem d_Model_sample_78 : decode b_Model_sample 78 = .ok (.goto 6, 3) := by decide +kernel
theorem d_Model_sample_81 : decode b_Model_sample 81 = .ok (.dload 4, 2) := by decide +kernel
theorem d_Model_sample_83 : decode b_Model_sample 83 = .ok (.d2i, 1) := by decide +kernel
theorem d_Model_sample_84 : decode b_Model_sample 84 = .ok (.istore 6, 2) := by decide +kernel
theorem d_Model_sample_86 : decode b_Model_sample 86 = .ok (.aload_n 0, 1) := by decide +kernel
theorem d_Model_sample_87 : decode b_Model_sample 87 = .ok (.getfield 104, 3) := by decide +kernel
theorem d_Model_sample_90 : decode b_Model_sample 90 = .ok (.aload_n 0, 1) := by decide +kernel
theorem d_Model_sample_91 : decode b_Model_sample 91 = .ok (.getfield 36, 3) := by decide +kernel
theorem d_Model_sample_94 : decode b_Model_sample 94 = .ok (.iload_n 2, 1) := by decide +kernel
theorem d_Model_sample_95 : decode b_Model_sample 95 = .ok (.iaload, 1) := by decide +kernel
theorem d_Model_sample_96 : decode b_Model_sample 96 = .ok (.aload_n 0, 1) := by decide +kernel
theorem d_Model_sample_97 : decode b_Model_sample 97 = .ok (.getfield 36, 3) := by decide +kernel
theorem d_Model_sample_100 : decode b_Model_sample 100 = .ok (.iload_n 3, 1) := by decide +kernel
theorem d_Model_sample_101 : decode b_Model_sample 101 = .ok (.iaload, 1) := by decide +kernel
theorem d_Model_sample_102 : decode b_Model_sample 102 = .ok (.invokestatic 285, 3) := by decide +kernel
theorem d_Model_sample_105 : decode b_Model_sample 105 = .ok (.bipush 16, 2) := by decide +kernel
theorem d_Model_sample_107 : decode b_Model_sample 107 = .ok (.imul, 1) := by decide +kernel
theorem d_Model_sample_108 : decode b_Model_sample 108 = .ok (.iload 6, 2) := by decide +kernel
theorem d_Model_sample_110 : decode b_Model_sample 110 = .ok (.iadd, 1) := by decide +kernel
theorem d_Model_sample_111 : decode b_Model_sample 111 = .ok (.dup2, 1) := by decide +kernel
theorem d_Model_sample_112 : decode b_Model_sample 112 = .ok (.iaload, 1) := by decide +kernel
theorem d_Model_sample_113 : decode b_Model_sample 113 = .ok (.iconst 1, 1) := by decide +kernel
theorem d_Model_sample_114 : decode b_Model_sample 114 = .ok (.iadd, 1) := by decide +kernel
theorem d_Model_sample_115 : decode b_Model_sample 115 = .ok (.iastore, 1) := by decide +kernel
theorem d_Model_sample_116 : decode b_Model_sample 116 = .ok (.iinc 3 1, 3) := by decide +kernel
theorem d_Model_sample_119 : decode b_Model_sample 119 = .ok (.goto (-98), 3) := by decide +kernel
theorem d_Model_sample_122 : decode b_Model_sample 122 = .ok (.iinc 2 1, 3) := by decide +kernel
theorem d_Model_sample_125 : decode b_Model_sample 125 = .ok (.goto (-116), 3) := by decide +kernel
theorem d_Model_sample_128 : decode b_Model_sample 128 = .ok (.aload_n 0, 1) := by decide +kernel
theorem d_Model_sample_129 : decode b_Model_sample 129 = .ok (.dup, 1) := by decide +kernel
theorem d_Model_sample_130 : decode b_Model_sample 130 = .ok (.getfield 289, 3) := by decide +kernel
theorem d_Model_sample_133 : decode b_Model_sample 133 = .ok (.iconst 1, 1) := by decide +kernel
theorem d_Model_sample_134 : decode b_Model_sample 134 = .ok (.iadd, 1) := by decide +kernel
theorem d_Model_sample_135 : decode b_Model_sample 135 = .ok (.putfield 289, 3) := by decide +kernel
theorem d_Model_sample_138 : decode b_Model_sample 138 = .ok (.iload_n 1, 1) := by decide +kernel
theorem d_Model_sample_139 : decode b_Model_sample 139 = .ok (.ireturn, 1) := by decide +kernel
theorem d_Model_bin_0 : decode b_Model_bin 0 = .ok (.aload_n 0, 1) := by decide +kernel
theorem d_Model_bin_1 : decode b_Model_bin 1 = .ok (.iload_n 1, 1) := by decide +kernel
theorem d_Model_bin_2 : decode b_Model_bin 2 = .ok (.ifCond .lt 31, 3) := by decide +kernel
theorem d_Model_bin_5 : decode b_Model_bin 5 = .ok (.iload_n 1, 1) := by decide +kernel
theorem d_Model_bin_6 : decode b_Model_bin 6 = .ok (.iconst 3, 1) := by decide +kernel
theorem d_Model_bin_7 : decode b_Model_bin 7 = .ok (.if_icmp .ge 26, 3) := by decide +kernel
theorem d_Model_bin_10 : decode b_Model_bin 10 = .ok (.iload_n 2, 1) := by decide +kernel
theorem d_Model_bin_11 : decode b_Model_bin 11 = .ok (.ifCond .lt 22, 3) := by decide +kernel
theorem d_Model_bin_14 : decode b_Model_bin 14 = .ok (.iload_n 2, 1) := by decide +kernel
theorem d_Model_bin_15 : decode b_Model_bin 15 = .ok (.iconst 3, 1) := by decide +kernel
theorem d_Model_bin_16 : decode b_Model_bin 16 = .ok (.if_icmp .ge 17, 3) := by decide +kernel
theorem d_Model_bin_19 : decode b_Model_bin 19 = .ok (.iload_n 3, 1) := by decide +kernel
theorem d_Model_bin_20 : decode b_Model_bin 20 = .ok (.ifCond .lt 13, 3) := by decide +kernel
theorem d_Model_bin_23 : decode b_Model_bin 23 = .ok (.iload_n 3, 1) := by decide +kernel
theorem d_Model_bin_24 : decode b_Model_bin 24 = .ok (.bipush 16, 2) := by decide +kernel
theorem d_Model_bin_26 : decode b_Model_bin 26 = .ok (.if_icmp .ge 7, 3) := by decide +kernel
theorem d_Model_bin_29 : decode b_Model_bin 29 = .ok (.iconst 1, 1) := by decide +kernel
theorem d_Model_bin_30 : decode b_Model_bin 30 = .ok (.goto 4, 3) := by decide +kernel
theorem d_Model_bin_33 : decode b_Model_bin 33 = .ok (.iconst 0, 1) := by decide +kernel
theorem d_Model_bin_34 : decode b_Model_bin 34 = .ok (.invokevirtual 154, 3) := by decide +kernel
theorem d_Model_bin_37 : decode b_Model_bin 37 = .ok (.ifCond .eq 5, 3) := by decide +kernel
theorem d_Model_bin_40 : decode b_Model_bin 40 = .ok (.iconst 0, 1) := by decide +kernel
theorem d_Model_bin_41 : decode b_Model_bin 41 = .ok (.ireturn, 1) := by decide +kernel
theorem d_Model_bin_42 : decode b_Model_bin 42 = .ok (.aload_n 0, 1) := by decide +kernel
theorem d_Model_bin_43 : decode b_Model_bin 43 = .ok (.getfield 104, 3) := by decide +kernel
theorem d_Model_bin_46 : decode b_Model_bin 46 = .ok (.iload_n 1, 1) := by decide +kernel
theorem d_Model_bin_47 : decode b_Model_bin 47 = .ok (.iload_n 2, 1) := by decide +kernel
theorem d_Model_bin_48 : decode b_Model_bin 48 = .ok (.invokestatic 285, 3) := by decide +kernel
theorem d_Model_bin_51 : decode b_Model_bin 51 = .ok (.bipush 16, 2) := by decide +kernel
theorem d_Model_bin_53 : decode b_Model_bin 53 = .ok (.imul, 1) := by decide +kernel
theorem d_Model_bin_54 : decode b_Model_bin 54 = .ok (.iload_n 3, 1) := by decide +kernel
theorem d_Model_bin_55 : decode b_Model_bin 55 = .ok (.iadd, 1) := by decide +kernel
theorem d_Model_bin_56 : decode b_Model_bin 56 = .ok (.iaload, 1) := by decide +kernel
theorem d_Model_bin_57 : decode b_Model_bin 57 = .ok (.ireturn, 1) := by decide +kernel
theorem d_Model_count_0 : decode b_Model_count 0 = .ok (.aload_n 0, 1) := by decide +kernel
theorem d_Model_count_1 : decode b_Model_count 1 = .ok (.iconst 0, 1) := by decide +kernel
theorem d_Model_count_2 : decode b_Model_count 2 = .ok (.putfield 115, 3) := by decide +kernel
theorem d_Model_count_5 : decode b_Model_count 5 = .ok (.iload_n 1, 1) := by decide +kernel
theorem d_Model_count_6 : decode b_Model_count 6 = .ok (.tableswitch 104 0 9 #[54, 59, 64, 69, 74, 79, 84, 89, 94, 99], 54) := by decide +kernel
theorem d_Model_count_60 : decode b_Model_count 60 = .ok (.aload_n 0, 1) := by decide +kernel
theorem d_Model_count_61 : decode b_Model_count 61 = .ok (.getfield 119, 3) := by decide +kernel
theorem d_Model_count_64 : decode b_Model_count 64 = .ok (.ireturn, 1) := by decide +kernel
theorem d_Model_count_65 : decode b_Model_count 65 = .ok (.aload_n 0, 1) := by decide +kernel
theorem d_Model_count_66 : decode b_Model_count 66 = .ok (.getfield 175, 3) := by decide +kernel
theorem d_Model_count_69 : decode b_Model_count 69 = .ok (.ireturn, 1) := by decide +kernel
theorem d_Model_count_70 : decode b_Model_count 70 = .ok (.aload_n 0, 1) := by decide +kernel
theorem d_Model_count_71 : decode b_Model_count 71 = .ok (.getfield 178, 3) := by decide +kernel
theorem d_Model_count_74 : decode b_Model_count 74 = .ok (.ireturn, 1) := by decide +kernel
theorem d_Model_count_75 : decode b_Model_count 75 = .ok (.aload_n 0, 1) := by decide +kernel
theorem d_Model_count_76 : decode b_Model_count 76 = .ok (.getfield 268, 3) := by decide +kernel
theorem d_Model_count_79 : decode b_Model_count 79 = .ok (.ireturn, 1) := by decide +kernel
theorem d_Model_count_80 : decode b_Model_count 80 = .ok (.aload_n 0, 1) := by decide +kernel
theorem d_Model_count_81 : decode b_Model_count 81 = .ok (.getfield 205, 3) := by decide +kernel
theorem d_Model_count_84 : decode b_Model_count 84 = .ok (.ireturn, 1) := by decide +kernel
theorem d_Model_count_85 : decode b_Model_count 85 = .ok (.aload_n 0, 1) := by decide +kernel
theorem d_Model_count_86 : decode b_Model_count 86 = .ok (.getfield 271, 3) := by decide +kernel
theorem d_Model_count_89 : decode b_Model_count 89 = .ok (.ireturn, 1) := by decide +kernel
theorem d_Model_count_90 : decode b_Model_count 90 = .ok (.aload_n 0, 1) := by decide +kernel
theorem d_Model_count_91 : decode b_Model_count 91 = .ok (.getfield 289, 3) := by decide +kernel
theorem d_Model_count_94 : decode b_Model_count 94 = .ok (.ireturn, 1) := by decide +kernel
theorem d_Model_count_95 : decode b_Model_count 95 = .ok (.aload_n 0, 1) := by decide +kernel
theorem d_Model_count_96 : decode b_Model_count 96 = .ok (.getfield 256, 3) := by decide +kernel
theorem d_Model_count_99 : decode b_Model_count 99 = .ok (.ireturn, 1) := by decide +kernel
theorem d_Model_count_100 : decode b_Model_count 100 = .ok (.aload_n 0, 1) := by decide +kernel
theorem d_Model_count_101 : decode b_Model_count 101 = .ok (.getfield 259, 3) := by decide +kernel
theorem d_Model_count_104 : decode b_Model_count 104 = .ok (.ireturn, 1) := by decide +kernel
theorem d_Model_count_105 : decode b_Model_count 105 = .ok (.aload_n 0, 1) := by decide +kernel
theorem d_Model_count_106 : decode b_Model_count 106 = .ok (.getfield 262, 3) := by decide +kernel
theorem d_Model_count_109 : decode b_Model_count 109 = .ok (.ireturn, 1) := by decide +kernel
theorem d_Model_count_110 : decode b_Model_count 110 = .ok (.iconst (-1), 1) := by decide +kernel
theorem d_Model_count_111 : decode b_Model_count 111 = .ok (.ireturn, 1) := by decide +kernel
set_option maxHeartbeats 4000000 in
set_option maxRecDepth 100000 in
/-- classOf -/
theorem c_Model_classOf (l : Launch) (dC : Nat → ClassId) (dI : Nat → Nat → Nat) (cI cD cZ : ClassId) (sz : Nat) (a : Nat) (b : Nat) (ha3 : a < 3) (hb3 : b < 3) : Met l y_Model_classOf w_Model_classOf ({ frames := 0, cells := 0, slots := 0, locals := 0 }) (va_Pc [.int (nI a), .int (nI b)] (gx_B (dC, dI) classes (gx_T cI cD cZ) [] sz)) (va_Qi (fun (rr : Int32) (uu : Unit) => rr = nI (min a b * 3 + max a b)) (fun (uu : Unit) t => gx_E (dC, dI) classes (gx_T cI cD cZ) (va_A [] sz) [] t) (va_A [] sz)) 0 0 (va_A [] sz) := by
  refine Met.ofW (cc := b_Model_classOf) (maxL := 2) (ret := (some .int)) (by decide) rfl ?_
  intro p e s m args below meth c s₁ B hml hv
  obtain ⟨rfl, hsz, hP, hK, hD0, hN⟩ := hv
  have hx := B.exec
  have hb := B.bytes
  have hr := B.returns
  have hts := atoms_spec (ws := w_Model_classOf) B.pre
  have hown : s.vm.findClass R_Model = some m.cls := findClass_of_methodNamed B.named
  have hlocks := B.notSynchronized
  subst hsz
  have hD := hD0.self (sz := s.heap.size)
  generalize hAe : va_A [] s.heap.size = A at hD ⊢
  have hA : ∀ q : Nat, s.heap.size ≤ q → A q := fun q h => by rw [← hAe]; exact Or.inr h
  have hS : va_S A s.heap s.heap [] := va_S.rf
  have hl := lv_entry ([.int (nI a), .int (nI b)]) (n := 2) (Nat.le_of_ble_eq_true rfl)
  rw [lg_entry_eq]
  generalize (lg_sl ([.int (nI a), .int (nI b)]) ++ List.replicate (2 - (lg_sl ([.int (nI a), .int (nI b)])).length) Slot.unset).toArray = ls at hl ⊢
  have hl : lv_has ls 2 [(0, .int (nI a)), (1, .int (nI b))] := hl
  obtain ⟨H, hH⟩ : ∃ H, H = s.heap := ⟨_, rfl⟩
  rw [← hH] at hP
  have hS : va_S A s.heap H [] := by rw [hH]; exact hS
  refine gx_start hH ?_
  refine lv_iload_n hx hb d_Model_classOf_0 rfl (lv_at hl 0 rfl) ?_
  refine lv_iload_n hx hb d_Model_classOf_1 rfl (lv_at hl 1 rfl) ?_
  refine lv_icmp_ge (tgt := 13) hx hb d_Model_classOf_2 (by decide) (fun c2 => ?_) (fun c2 => ?_)
  · skip
    have c2 : b ≤ a := (nI_leI (a := b) (b := a) (by omega) (by omega)).mp c2
    refine lv_iload_n hx hb d_Model_classOf_13 rfl (lv_at hl 1 rfl) ?_
    refine lv_iconst (v := nI 3) hx hb d_Model_classOf_14 (by decide) ?_
    refine lv_imul hx hb d_Model_classOf_15 ?_
    rw [nI_mul]
    refine lv_iload_n hx hb d_Model_classOf_16 rfl (lv_at hl 0 rfl) ?_
    refine lv_iadd hx hb d_Model_classOf_17 ?_
    rw [nI_add]
    have hP9 := hP.sub (ws' := []) [] rfl
    have hD9 := hD.sub (ws' := []) [] (by decide) rfl
    exact W.iret (v := (nI ((b * 3) + a))) hx hb hr (fun tt9 ht9 hW9 => ⟨⟨(nI ((b * 3) + a)), (), rfl, (by rw [Nat.min_eq_right c2, Nat.max_eq_left c2]), by rw [ht9]; exact hP9, va_K.moved hW9.alike hK, hD9⟩, hS.F ht9⟩) hS.2.2 d_Model_classOf_18
  · skip
    have c2 : ¬ b ≤ a := fun h => c2 ((nI_leI (a := b) (b := a) (by omega) (by omega)).mpr h)
    refine lv_iload_n hx hb d_Model_classOf_5 rfl (lv_at hl 0 rfl) ?_
    refine lv_iconst (v := nI 3) hx hb d_Model_classOf_6 (by decide) ?_
    refine lv_imul hx hb d_Model_classOf_7 ?_
    rw [nI_mul]
    refine lv_iload_n hx hb d_Model_classOf_8 rfl (lv_at hl 1 rfl) ?_
    refine lv_iadd hx hb d_Model_classOf_9 ?_
    rw [nI_add]
    refine lv_goto (tgt := 18) hx hb d_Model_classOf_10 (by decide) ?_
    have hP9 := hP.sub (ws' := []) [] rfl
    have hD9 := hD.sub (ws' := []) [] (by decide) rfl
    exact W.iret (v := (nI ((a * 3) + b))) hx hb hr (fun tt9 ht9 hW9 => ⟨⟨(nI ((a * 3) + b)), (), rfl, (by rw [Nat.min_eq_left (by omega), Nat.max_eq_right (by omega)]), by rw [ht9]; exact hP9, va_K.moved hW9.alike hK, hD9⟩, hS.F ht9⟩) hS.2.2 d_Model_classOf_18
set_option maxHeartbeats 4000000 in
set_option maxRecDepth 100000 in
/-- sample -/
theorem c_Model_sample (l : Launch) (dC : Nat → ClassId) (dI : Nat → Nat → Nat) (cI cD cZ : ClassId) (sz : Nat) (pm : Nat) (pX : Nat) (pY : Nat) (pU : Nat) (pV : Nat) (pM : Nat) (pS : Nat) (pK : Nat) (pW : Nat) (pD : Nat) (pC : Nat) (pBI : Nat) (pBJ : Nat) (pRI : Nat) (pRJ : Nat) (pBK : Nat) (pBL : Nat) (pRL : Nat) (pLX : Nat) (pLY : Nat) (pOX : Nat) (pOY : Nat) (pOU : Nat) (pOV : Nat) (pNX : Nat) (pNY : Nat) (pFX : Nat) (pFY : Nat) (pBN : Nat) (side : UInt64) (cut : UInt64) (skin : UInt64) (heat : UInt64) (n : Nat) (nb : Nat) (nr : Nat) (isT : Int32) (stn : Int32) (tm : Int32) (rd : Int32) (tk : Int32) (ov1 : Int32) (st1 : Int32) (bl1 : Int32) (thw : Int32) (cg : Int32) (qa : UInt64) (qb : UInt64) (qr : UInt64) (x : Nat → UInt64) (y : Nat → UInt64) (so : Nat → Nat) (bn : Nat → Int32) (k : Int) (hs : pb_S side k) (hn : n ≤ 10) (hX : ∀ i, i < n → pb_Ip (x i)) (hY : ∀ i, i < n → pb_Ip (y i)) (hso : ∀ i, i < n → so i < 3) (hcut : pb_Icut cut) : Met l y_Model_sample w_Model_sample ({ frames := 5, cells := 0, slots := 0, locals := 117 }) (va_Pc [.ref pm] (gx_B (dC, dI) classes (gx_T cI cD cZ) [(pm, .inr (9, [.double side, .double cut, .double skin, .double heat, .ref pX, .ref pY, .ref pU, .ref pV, .ref pM, .ref pS, .ref pK, .ref pW, .ref pD, .ref pC, .int (nI n), .int (nI nb), .int (nI nr), .ref pBI, .ref pBJ, .ref pRI, .ref pRJ, .ref pBK, .ref pBL, .ref pRL, .ref pLX, .ref pLY, .int isT, .ref pOX, .ref pOY, .ref pOU, .ref pOV, .ref pNX, .ref pNY, .ref pFX, .ref pFY, .ref pBN, .int stn, .int tm, .int rd, .int tk, .int ov1, .int st1, .int bl1, .int thw, .int cg, .double qa, .double qb, .double qr])), (pX, .inl (cD, 10, .inr (.inr (.inr (.inl x))))), (pY, .inl (cD, 10, .inr (.inr (.inr (.inl y))))), (pS, .inl (cI, 10, .inl (pb_n so))), (pBN, .inl (cI, 144, .inl bn))] sz)) (va_Qi (fun (rr : Int32) (uu : UInt64 × UInt64 × UInt64) => match uu with | (oqa, oqb, oqr) => rr = nI (pb_sout side cut x y so n (0, bn) n).1) (fun (uu : UInt64 × UInt64 × UInt64) t => gx_E (dC, dI) classes (gx_T cI cD cZ) (va_A [(pm, .inr (9, [.double side, .double cut, .double skin, .double heat, .ref pX, .ref pY, .ref pU, .ref pV, .ref pM, .ref pS, .ref pK, .ref pW, .ref pD, .ref pC, .int (nI n), .int (nI nb), .int (nI nr), .ref pBI, .ref pBJ, .ref pRI, .ref pRJ, .ref pBK, .ref pBL, .ref pRL, .ref pLX, .ref pLY, .int isT, .ref pOX, .ref pOY, .ref pOU, .ref pOV, .ref pNX, .ref pNY, .ref pFX, .ref pFY, .ref pBN, .int stn, .int tm, .int rd, .int tk, .int ov1, .int st1, .int bl1, .int thw, .int cg, .double qa, .double qb, .double qr])), (pX, .inl (cD, 10, .inr (.inr (.inr (.inl x))))), (pY, .inl (cD, 10, .inr (.inr (.inr (.inl y))))), (pS, .inl (cI, 10, .inl (pb_n so))), (pBN, .inl (cI, 144, .inl bn))] sz) (match uu with | (oqa, oqb, oqr) => [(pm, .inr (9, [.double side, .double cut, .double skin, .double heat, .ref pX, .ref pY, .ref pU, .ref pV, .ref pM, .ref pS, .ref pK, .ref pW, .ref pD, .ref pC, .int (nI n), .int (nI nb), .int (nI nr), .ref pBI, .ref pBJ, .ref pRI, .ref pRJ, .ref pBK, .ref pBL, .ref pRL, .ref pLX, .ref pLY, .int isT, .ref pOX, .ref pOY, .ref pOU, .ref pOV, .ref pNX, .ref pNY, .ref pFX, .ref pFY, .ref pBN, .int stn, .int tm, .int rd, .int (tk + 1), .int ov1, .int st1, .int bl1, .int 0, .int cg, .double oqa, .double oqb, .double oqr])), (pX, .inl (cD, 10, .inr (.inr (.inr (.inl x))))), (pY, .inl (cD, 10, .inr (.inr (.inr (.inl y))))), (pS, .inl (cI, 10, .inl (pb_n so))), (pBN, .inl (cI, 144, .inl ((pb_sout side cut x y so n (0, bn) n).2)))]) t) (va_A [(pm, .inr (9, [.double side, .double cut, .double skin, .double heat, .ref pX, .ref pY, .ref pU, .ref pV, .ref pM, .ref pS, .ref pK, .ref pW, .ref pD, .ref pC, .int (nI n), .int (nI nb), .int (nI nr), .ref pBI, .ref pBJ, .ref pRI, .ref pRJ, .ref pBK, .ref pBL, .ref pRL, .ref pLX, .ref pLY, .int isT, .ref pOX, .ref pOY, .ref pOU, .ref pOV, .ref pNX, .ref pNY, .ref pFX, .ref pFY, .ref pBN, .int stn, .int tm, .int rd, .int tk, .int ov1, .int st1, .int bl1, .int thw, .int cg, .double qa, .double qb, .double qr])), (pX, .inl (cD, 10, .inr (.inr (.inr (.inl x))))), (pY, .inl (cD, 10, .inr (.inr (.inr (.inl y))))), (pS, .inl (cI, 10, .inl (pb_n so))), (pBN, .inl (cI, 144, .inl bn))] sz)) 0 0 (va_A [(pm, .inr (9, [.double side, .double cut, .double skin, .double heat, .ref pX, .ref pY, .ref pU, .ref pV, .ref pM, .ref pS, .ref pK, .ref pW, .ref pD, .ref pC, .int (nI n), .int (nI nb), .int (nI nr), .ref pBI, .ref pBJ, .ref pRI, .ref pRJ, .ref pBK, .ref pBL, .ref pRL, .ref pLX, .ref pLY, .int isT, .ref pOX, .ref pOY, .ref pOU, .ref pOV, .ref pNX, .ref pNY, .ref pFX, .ref pFY, .ref pBN, .int stn, .int tm, .int rd, .int tk, .int ov1, .int st1, .int bl1, .int thw, .int cg, .double qa, .double qb, .double qr])), (pX, .inl (cD, 10, .inr (.inr (.inr (.inl x))))), (pY, .inl (cD, 10, .inr (.inr (.inr (.inl y))))), (pS, .inl (cI, 10, .inl (pb_n so))), (pBN, .inl (cI, 144, .inl bn))] sz) := by
  refine Met.ofW (cc := b_Model_sample) (maxL := 7) (ret := (some .int)) (by decide) rfl ?_
  intro p e s m args below meth c s₁ B hml hv
  obtain ⟨rfl, hsz, hP, hK, hD0, hN⟩ := hv
  have hx := B.exec
  have hb := B.bytes
  have hr := B.returns
  have hts := atoms_spec (ws := w_Model_sample) B.pre
  have hown : s.vm.findClass R_Model = some m.cls := findClass_of_methodNamed B.named
  have hlocks := B.notSynchronized
  subst hsz
  have hD := hD0.self (sz := s.heap.size)
  generalize hAe : va_A [(pm, .inr (9, [.double side, .double cut, .double skin, .double heat, .ref pX, .ref pY, .ref pU, .ref pV, .ref pM, .ref pS, .ref pK, .ref pW, .ref pD, .ref pC, .int (nI n), .int (nI nb), .int (nI nr), .ref pBI, .ref pBJ, .ref pRI, .ref pRJ, .ref pBK, .ref pBL, .ref pRL, .ref pLX, .ref pLY, .int isT, .ref pOX, .ref pOY, .ref pOU, .ref pOV, .ref pNX, .ref pNY, .ref pFX, .ref pFY, .ref pBN, .int stn, .int tm, .int rd, .int tk, .int ov1, .int st1, .int bl1, .int thw, .int cg, .double qa, .double qb, .double qr])), (pX, .inl (cD, 10, .inr (.inr (.inr (.inl x))))), (pY, .inl (cD, 10, .inr (.inr (.inr (.inl y))))), (pS, .inl (cI, 10, .inl (pb_n so))), (pBN, .inl (cI, 144, .inl bn))] s.heap.size = A at hD ⊢
  have hA : ∀ q : Nat, s.heap.size ≤ q → A q := fun q h => by rw [← hAe]; exact Or.inr h
  have hS : va_S A s.heap s.heap [] := va_S.rf
  have hl := lv_entry ([.ref pm]) (n := 7) (Nat.le_of_ble_eq_true rfl)
  rw [lg_entry_eq]
  generalize (lg_sl ([.ref pm]) ++ List.replicate (7 - (lg_sl ([.ref pm])).length) Slot.unset).toArray = ls at hl ⊢
  have hl : lv_has ls 7 [(0, .ref pm)] := hl
  obtain ⟨H, hH⟩ : ∃ H, H = s.heap := ⟨_, rfl⟩
  rw [← hH] at hP
  have hS : va_S A s.heap H [] := by rw [hH]; exact hS
  refine gx_start hH ?_
  refine lv_aload_n hx hb d_Model_sample_0 rfl (lv_at hl 0 rfl) ?_
  refine lv_iconst (v := 0) hx hb d_Model_sample_1 (by decide) ?_
  refine va_put (D := (dC, dI)) (ci := 9) (v := .int 0) (ty := .int) (C := R_Model) (T := F_Model) (N := 48) hx hb hts (fun w h => List.mem_cons_of_mem _ (i_Model w h)) t_Model t_Model_ok n_Model hown hK hP hD hS 0 rfl rfl 43 (by decide) (hts _ (List.mem_cons_of_mem _ kw_884)) (fun _ h9 => h9) rfl (by decide +kernel) rfl rfl (Nat.le_of_ble_eq_true rfl) d_Model_sample_2 (fun H locs hP hD hS => ?_)
  have hP : va_P (dC, dI) classes [(pm, .inr (9, [.double side, .double cut, .double skin, .double heat, .ref pX, .ref pY, .ref pU, .ref pV, .ref pM, .ref pS, .ref pK, .ref pW, .ref pD, .ref pC, .int (nI n), .int (nI nb), .int (nI nr), .ref pBI, .ref pBJ, .ref pRI, .ref pRJ, .ref pBK, .ref pBL, .ref pRL, .ref pLX, .ref pLY, .int isT, .ref pOX, .ref pOY, .ref pOU, .ref pOV, .ref pNX, .ref pNY, .ref pFX, .ref pFY, .ref pBN, .int stn, .int tm, .int rd, .int tk, .int ov1, .int st1, .int bl1, .int 0, .int cg, .double qa, .double qb, .double qr])), (pX, .inl (cD, 10, .inr (.inr (.inr (.inl x))))), (pY, .inl (cD, 10, .inr (.inr (.inr (.inl y))))), (pS, .inl (cI, 10, .inl (pb_n so))), (pBN, .inl (cI, 144, .inl bn))] H := hP
  have hD : va_D A [(pm, .inr (9, [.double side, .double cut, .double skin, .double heat, .ref pX, .ref pY, .ref pU, .ref pV, .ref pM, .ref pS, .ref pK, .ref pW, .ref pD, .ref pC, .int (nI n), .int (nI nb), .int (nI nr), .ref pBI, .ref pBJ, .ref pRI, .ref pRJ, .ref pBK, .ref pBL, .ref pRL, .ref pLX, .ref pLY, .int isT, .ref pOX, .ref pOY, .ref pOU, .ref pOV, .ref pNX, .ref pNY, .ref pFX, .ref pFY, .ref pBN, .int stn, .int tm, .int rd, .int tk, .int ov1, .int st1, .int bl1, .int 0, .int cg, .double qa, .double qb, .double qr])), (pX, .inl (cD, 10, .inr (.inr (.inr (.inl x))))), (pY, .inl (cD, 10, .inr (.inr (.inr (.inl y))))), (pS, .inl (cI, 10, .inl (pb_n so))), (pBN, .inl (cI, 144, .inl bn))] := hD
  refine lv_iconst (v := nI 0) hx hb d_Model_sample_5 (by decide) ?_
  refine lv_istore_n (lv' := [(1, .int (nI 0)), (0, .ref pm)]) hx hb d_Model_sample_6 rfl hl (by decide) rfl (fun ls hl => ?_)
  refine lv_iconst (v := nI 0) hx hb d_Model_sample_7 (by decide) ?_
  refine lv_istore_n (lv' := [(2, .int (nI 0)), (1, .int (nI 0)), (0, .ref pm)]) hx hb d_Model_sample_8 rfl hl (by decide) rfl (fun ls hl => ?_)
  refine gx_loop (fun (xx : Nat × UInt64 × UInt64 × UInt64) (H : Heap) (locs : List Loc) (ls : Array Slot) => match xx with | (i, a1, b1, r1) => va_P (dC, dI) classes [(pm, .inr (9, [.double side, .double cut, .double skin, .double heat, .ref pX, .ref pY, .ref pU, .ref pV, .ref pM, .ref pS, .ref pK, .ref pW, .ref pD, .ref pC, .int (nI n), .int (nI nb), .int (nI nr), .ref pBI, .ref pBJ, .ref pRI, .ref pRJ, .ref pBK, .ref pBL, .ref pRL, .ref pLX, .ref pLY, .int isT, .ref pOX, .ref pOY, .ref pOU, .ref pOV, .ref pNX, .ref pNY, .ref pFX, .ref pFY, .ref pBN, .int stn, .int tm, .int rd, .int tk, .int ov1, .int st1, .int bl1, .int 0, .int cg, .double a1, .double b1, .double r1])), (pX, .inl (cD, 10, .inr (.inr (.inr (.inl x))))), (pY, .inl (cD, 10, .inr (.inr (.inr (.inl y))))), (pS, .inl (cI, 10, .inl (pb_n so))), (pBN, .inl (cI, 144, .inl ((pb_sout side cut x y so n (0, bn) i).2)))] H ∧ va_D A [(pm, .inr (9, [.double side, .double cut, .double skin, .double heat, .ref pX, .ref pY, .ref pU, .ref pV, .ref pM, .ref pS, .ref pK, .ref pW, .ref pD, .ref pC, .int (nI n), .int (nI nb), .int (nI nr), .ref pBI, .ref pBJ, .ref pRI, .ref pRJ, .ref pBK, .ref pBL, .ref pRL, .ref pLX, .ref pLY, .int isT, .ref pOX, .ref pOY, .ref pOU, .ref pOV, .ref pNX, .ref pNY, .ref pFX, .ref pFY, .ref pBN, .int stn, .int tm, .int rd, .int tk, .int ov1, .int st1, .int bl1, .int 0, .int cg, .double a1, .double b1, .double r1])), (pX, .inl (cD, 10, .inr (.inr (.inr (.inl x))))), (pY, .inl (cD, 10, .inr (.inr (.inr (.inl y))))), (pS, .inl (cI, 10, .inl (pb_n so))), (pBN, .inl (cI, 144, .inl ((pb_sout side cut x y so n (0, bn) i).2)))] ∧ va_S A s.heap H locs ∧ lv_has ls 7 [(2, .int (nI i)), (1, .int (nI (pb_sout side cut x y so n (0, bn) i).1)), (0, .ref pm)] ∧ (i ≤ n)) (fun xx => match xx with | (i, a1, b1, r1) => n - i) (fun N K9 xx H locs ls hI hmu => ?_) (0, qa, qb, qr) ?_
  rotate_left
  · skip
    refine ⟨hP.sub [0, 1, 2, 3, 4] rfl, hD.sub [0, 1, 2, 3, 4] (by decide) rfl, hS, lv_sub hl [0, 1, 2] rfl, (by omega)⟩
  obtain ⟨i, a1, b1, r1⟩ := xx
  obtain ⟨hP, hD, hS, hl, hi⟩ := hI
  try dsimp only at hmu
  refine lv_iload_n hx hb d_Model_sample_9 rfl (lv_at hl 0 rfl) ?_
  refine lv_aload_n hx hb d_Model_sample_10 rfl (lv_at hl 2 rfl) ?_
  refine va_get (D := (dC, dI)) (ci := 9) (v := .int (nI n)) (C := R_Model) (T := F_Model) (N := 48) hx hb hts (fun w h => List.mem_cons_of_mem _ (i_Model w h)) hown hK hP 0 rfl rfl 14 (by decide) (hts _ (List.mem_cons_of_mem _ kw_855)) (fun _ h9 => h9) rfl d_Model_sample_11 ?_
  refine lv_icmp_ge (tgt := 128) hx hb d_Model_sample_14 (by decide) (fun c14 => ?_) (fun c14 => ?_)
  · skip
    have c14 : n ≤ i := (nI_leI (a := n) (b := i) (by omega) (by omega)).mp c14
    obtain rfl : n = i := by omega
    refine lv_aload_n hx hb d_Model_sample_128 rfl (lv_at hl 2 rfl) ?_
    refine lv_dup hx hb d_Model_sample_129 rfl ?_
    refine va_get (D := (dC, dI)) (ci := 9) (v := .int tk) (C := R_Model) (T := F_Model) (N := 48) hx hb hts (fun w h => List.mem_cons_of_mem _ (i_Model w h)) hown hK hP 0 rfl rfl 39 (by decide) (hts _ (List.mem_cons_of_mem _ kw_880)) (fun _ h9 => h9) rfl d_Model_sample_130 ?_
    refine lv_iconst (v := 1) hx hb d_Model_sample_133 (by decide) ?_
    refine lv_iadd hx hb d_Model_sample_134 ?_
    refine va_put (D := (dC, dI)) (ci := 9) (v := .int (tk + 1)) (ty := .int) (C := R_Model) (T := F_Model) (N := 48) hx hb hts (fun w h => List.mem_cons_of_mem _ (i_Model w h)) t_Model t_Model_ok n_Model hown hK hP hD hS 0 rfl rfl 39 (by decide) (hts _ (List.mem_cons_of_mem _ kw_880)) (fun _ h9 => h9) rfl (by decide +kernel) rfl rfl (Nat.le_of_ble_eq_true rfl) d_Model_sample_135 (fun H locs hP hD hS => ?_)
    have hP : va_P (dC, dI) classes [(pm, .inr (9, [.double side, .double cut, .double skin, .double heat, .ref pX, .ref pY, .ref pU, .ref pV, .ref pM, .ref pS, .ref pK, .ref pW, .ref pD, .ref pC, .int (nI n), .int (nI nb), .int (nI nr), .ref pBI, .ref pBJ, .ref pRI, .ref pRJ, .ref pBK, .ref pBL, .ref pRL, .ref pLX, .ref pLY, .int isT, .ref pOX, .ref pOY, .ref pOU, .ref pOV, .ref pNX, .ref pNY, .ref pFX, .ref pFY, .ref pBN, .int stn, .int tm, .int rd, .int (tk + 1), .int ov1, .int st1, .int bl1, .int 0, .int cg, .double a1, .double b1, .double r1])), (pX, .inl (cD, 10, .inr (.inr (.inr (.inl x))))), (pY, .inl (cD, 10, .inr (.inr (.inr (.inl y))))), (pS, .inl (cI, 10, .inl (pb_n so))), (pBN, .inl (cI, 144, .inl ((pb_sout side cut x y so n (0, bn) n).2)))] H := hP
    have hD : va_D A [(pm, .inr (9, [.double side, .double cut, .double skin, .double heat, .ref pX, .ref pY, .ref pU, .ref pV, .ref pM, .ref pS, .ref pK, .ref pW, .ref pD, .ref pC, .int (nI n), .int (nI nb), .int (nI nr), .ref pBI, .ref pBJ, .ref pRI, .ref pRJ, .ref pBK, .ref pBL, .ref pRL, .ref pLX, .ref pLY, .int isT, .ref pOX, .ref pOY, .ref pOU, .ref pOV, .ref pNX, .ref pNY, .ref pFX, .ref pFY, .ref pBN, .int stn, .int tm, .int rd, .int (tk + 1), .int ov1, .int st1, .int bl1, .int 0, .int cg, .double a1, .double b1, .double r1])), (pX, .inl (cD, 10, .inr (.inr (.inr (.inl x))))), (pY, .inl (cD, 10, .inr (.inr (.inr (.inl y))))), (pS, .inl (cI, 10, .inl (pb_n so))), (pBN, .inl (cI, 144, .inl ((pb_sout side cut x y so n (0, bn) n).2)))] := hD
    refine lv_iload_n hx hb d_Model_sample_138 rfl (lv_at hl 1 rfl) ?_
    have hP9 := hP.sub (ws' := [(pm, .inr (9, [.double side, .double cut, .double skin, .double heat, .ref pX, .ref pY, .ref pU, .ref pV, .ref pM, .ref pS, .ref pK, .ref pW, .ref pD, .ref pC, .int (nI n), .int (nI nb), .int (nI nr), .ref pBI, .ref pBJ, .ref pRI, .ref pRJ, .ref pBK, .ref pBL, .ref pRL, .ref pLX, .ref pLY, .int isT, .ref pOX, .ref pOY, .ref pOU, .ref pOV, .ref pNX, .ref pNY, .ref pFX, .ref pFY, .ref pBN, .int stn, .int tm, .int rd, .int (tk + 1), .int ov1, .int st1, .int bl1, .int 0, .int cg, .double a1, .double b1, .double r1])), (pX, .inl (cD, 10, .inr (.inr (.inr (.inl x))))), (pY, .inl (cD, 10, .inr (.inr (.inr (.inl y))))), (pS, .inl (cI, 10, .inl (pb_n so))), (pBN, .inl (cI, 144, .inl ((pb_sout side cut x y so n (0, bn) n).2)))]) [0, 1, 2, 3, 4] rfl
    have hD9 := hD.sub (ws' := [(pm, .inr (9, [.double side, .double cut, .double skin, .double heat, .ref pX, .ref pY, .ref pU, .ref pV, .ref pM, .ref pS, .ref pK, .ref pW, .ref pD, .ref pC, .int (nI n), .int (nI nb), .int (nI nr), .ref pBI, .ref pBJ, .ref pRI, .ref pRJ, .ref pBK, .ref pBL, .ref pRL, .ref pLX, .ref pLY, .int isT, .ref pOX, .ref pOY, .ref pOU, .ref pOV, .ref pNX, .ref pNY, .ref pFX, .ref pFY, .ref pBN, .int stn, .int tm, .int rd, .int (tk + 1), .int ov1, .int st1, .int bl1, .int 0, .int cg, .double a1, .double b1, .double r1])), (pX, .inl (cD, 10, .inr (.inr (.inr (.inl x))))), (pY, .inl (cD, 10, .inr (.inr (.inr (.inl y))))), (pS, .inl (cI, 10, .inl (pb_n so))), (pBN, .inl (cI, 144, .inl ((pb_sout side cut x y so n (0, bn) n).2)))]) [0, 1, 2, 3, 4] (by decide) rfl
    exact W.iret (v := (nI (pb_sout side cut x y so n (0, bn) n).1)) hx hb hr (fun tt9 ht9 hW9 => ⟨⟨(nI (pb_sout side cut x y so n (0, bn) n).1), (a1, b1, r1), rfl, rfl, by rw [ht9]; exact hP9, va_K.moved hW9.alike hK, hD9⟩, hS.F ht9⟩) hS.2.2 d_Model_sample_139
  · skip
    have c14 : ¬ n ≤ i := fun h => c14 ((nI_leI (a := n) (b := i) (by omega) (by omega)).mpr h)
    refine lv_iload_n hx hb d_Model_sample_17 rfl (lv_at hl 0 rfl) ?_
    refine lv_iconst (v := 1) hx hb d_Model_sample_18 (by decide) ?_
    refine lv_iadd hx hb d_Model_sample_19 ?_
    rw [nI_1 i]
    refine lv_istore_n (lv' := [(3, .int (nI (i + 1))), (2, .int (nI i)), (1, .int (nI (pb_sout side cut x y so n (0, bn) i).1)), (0, .ref pm)]) hx hb d_Model_sample_20 rfl hl (by decide) rfl (fun ls hl => ?_)
    have e8 : pb_sin side cut x y so i (pb_sout side cut x y so n (0, bn) i) (i + 1) = pb_sout side cut x y so n (0, bn) i := pb_sin_start (i + 1) (Nat.le_refl _)
    have hl : lv_has ls 7 [(3, .int (nI (i + 1))), (2, .int (nI i)), (1, .int (nI (pb_sin side cut x y so i (pb_sout side cut x y so n (0, bn) i) (i + 1)).1)), (0, .ref pm)] := by rw [e8]; exact hl
    have hP : va_P (dC, dI) classes [(pm, .inr (9, [.double side, .double cut, .double skin, .double heat, .ref pX, .ref pY, .ref pU, .ref pV, .ref pM, .ref pS, .ref pK, .ref pW, .ref pD, .ref pC, .int (nI n), .int (nI nb), .int (nI nr), .ref pBI, .ref pBJ, .ref pRI, .ref pRJ, .ref pBK, .ref pBL, .ref pRL, .ref pLX, .ref pLY, .int isT, .ref pOX, .ref pOY, .ref pOU, .ref pOV, .ref pNX, .ref pNY, .ref pFX, .ref pFY, .ref pBN, .int stn, .int tm, .int rd, .int tk, .int ov1, .int st1, .int bl1, .int 0, .int cg, .double a1, .double b1, .double r1])), (pX, .inl (cD, 10, .inr (.inr (.inr (.inl x))))), (pY, .inl (cD, 10, .inr (.inr (.inr (.inl y))))), (pS, .inl (cI, 10, .inl (pb_n so))), (pBN, .inl (cI, 144, .inl ((pb_sin side cut x y so i (pb_sout side cut x y so n (0, bn) i) (i + 1)).2)))] H := by rw [e8]; exact hP
    have hD : va_D A [(pm, .inr (9, [.double side, .double cut, .double skin, .double heat, .ref pX, .ref pY, .ref pU, .ref pV, .ref pM, .ref pS, .ref pK, .ref pW, .ref pD, .ref pC, .int (nI n), .int (nI nb), .int (nI nr), .ref pBI, .ref pBJ, .ref pRI, .ref pRJ, .ref pBK, .ref pBL, .ref pRL, .ref pLX, .ref pLY, .int isT, .ref pOX, .ref pOY, .ref pOU, .ref pOV, .ref pNX, .ref pNY, .ref pFX, .ref pFY, .ref pBN, .int stn, .int tm, .int rd, .int tk, .int ov1, .int st1, .int bl1, .int 0, .int cg, .double a1, .double b1, .double r1])), (pX, .inl (cD, 10, .inr (.inr (.inr (.inl x))))), (pY, .inl (cD, 10, .inr (.inr (.inr (.inl y))))), (pS, .inl (cI, 10, .inl (pb_n so))), (pBN, .inl (cI, 144, .inl ((pb_sin side cut x y so i (pb_sout side cut x y so n (0, bn) i) (i + 1)).2)))] := by rw [e8]; exact hD
    refine gx_loop (fun (xx : Nat × UInt64 × UInt64 × UInt64) (H : Heap) (locs : List Loc) (ls : Array Slot) => match xx with | (j, a2, b2, r2) => va_P (dC, dI) classes [(pm, .inr (9, [.double side, .double cut, .double skin, .double heat, .ref pX, .ref pY, .ref pU, .ref pV, .ref pM, .ref pS, .ref pK, .ref pW, .ref pD, .ref pC, .int (nI n), .int (nI nb), .int (nI nr), .ref pBI, .ref pBJ, .ref pRI, .ref pRJ, .ref pBK, .ref pBL, .ref pRL, .ref pLX, .ref pLY, .int isT, .ref pOX, .ref pOY, .ref pOU, .ref pOV, .ref pNX, .ref pNY, .ref pFX, .ref pFY, .ref pBN, .int stn, .int tm, .int rd, .int tk, .int ov1, .int st1, .int bl1, .int 0, .int cg, .double a2, .double b2, .double r2])), (pX, .inl (cD, 10, .inr (.inr (.inr (.inl x))))), (pY, .inl (cD, 10, .inr (.inr (.inr (.inl y))))), (pS, .inl (cI, 10, .inl (pb_n so))), (pBN, .inl (cI, 144, .inl ((pb_sin side cut x y so i (pb_sout side cut x y so n (0, bn) i) j).2)))] H ∧ va_D A [(pm, .inr (9, [.double side, .double cut, .double skin, .double heat, .ref pX, .ref pY, .ref pU, .ref pV, .ref pM, .ref pS, .ref pK, .ref pW, .ref pD, .ref pC, .int (nI n), .int (nI nb), .int (nI nr), .ref pBI, .ref pBJ, .ref pRI, .ref pRJ, .ref pBK, .ref pBL, .ref pRL, .ref pLX, .ref pLY, .int isT, .ref pOX, .ref pOY, .ref pOU, .ref pOV, .ref pNX, .ref pNY, .ref pFX, .ref pFY, .ref pBN, .int stn, .int tm, .int rd, .int tk, .int ov1, .int st1, .int bl1, .int 0, .int cg, .double a2, .double b2, .double r2])), (pX, .inl (cD, 10, .inr (.inr (.inr (.inl x))))), (pY, .inl (cD, 10, .inr (.inr (.inr (.inl y))))), (pS, .inl (cI, 10, .inl (pb_n so))), (pBN, .inl (cI, 144, .inl ((pb_sin side cut x y so i (pb_sout side cut x y so n (0, bn) i) j).2)))] ∧ va_S A s.heap H locs ∧ lv_has ls 7 [(3, .int (nI j)), (2, .int (nI i)), (1, .int (nI (pb_sin side cut x y so i (pb_sout side cut x y so n (0, bn) i) j).1)), (0, .ref pm)] ∧ (j ≤ n) ∧ (i < j)) (fun xx => match xx with | (j, a2, b2, r2) => n - j) (fun N K21 xx H locs ls hI hmu => ?_) (i + 1, a1, b1, r1) ?_
    rotate_left
    · skip
      refine ⟨hP.sub [0, 1, 2, 3, 4] rfl, hD.sub [0, 1, 2, 3, 4] (by decide) rfl, hS, lv_sub hl [0, 1, 2, 3] rfl, (by omega), (by omega)⟩
    obtain ⟨j, a2, b2, r2⟩ := xx
    obtain ⟨hP, hD, hS, hl, hj, hij⟩ := hI
    try dsimp only at hmu
    refine lv_iload_n hx hb d_Model_sample_21 rfl (lv_at hl 0 rfl) ?_
    refine lv_aload_n hx hb d_Model_sample_22 rfl (lv_at hl 3 rfl) ?_
    refine va_get (D := (dC, dI)) (ci := 9) (v := .int (nI n)) (C := R_Model) (T := F_Model) (N := 48) hx hb hts (fun w h => List.mem_cons_of_mem _ (i_Model w h)) hown hK hP 0 rfl rfl 14 (by decide) (hts _ (List.mem_cons_of_mem _ kw_855)) (fun _ h9 => h9) rfl d_Model_sample_23 ?_
    refine lv_icmp_ge (tgt := 122) hx hb d_Model_sample_26 (by decide) (fun c26 => ?_) (fun c26 => ?_)
    · skip
      have c26 : n ≤ j := (nI_leI (a := n) (b := j) (by omega) (by omega)).mp c26
      obtain rfl : n = j := by omega
      refine lv_iinc (v := nI (i + 1)) (lv' := [(2, .int (nI (i + 1))), (3, .int (nI n)), (1, .int (nI (pb_sin side cut x y so i (pb_sout side cut x y so n (0, bn) i) n).1)), (0, .ref pm)]) hx hb d_Model_sample_122 hl (k := 1) rfl (nI_1 i) (by decide) rfl (fun ls hl => ?_)
      refine lv_goto (tgt := 9) hx hb d_Model_sample_125 (by decide) ?_
      exact K9 (i + 1, a2, b2, r2) _ _ _ ⟨hP.sub [0, 1, 2, 3, 4] rfl, hD.sub [0, 1, 2, 3, 4] (by decide) rfl, hS, lv_sub hl [0, 2, 3] rfl, (by omega)⟩ (by dsimp only; omega)
    · skip
      have c26 : ¬ n ≤ j := fun h => c26 ((nI_leI (a := n) (b := j) (by omega) (by omega)).mpr h)
      refine lv_aload_n hx hb d_Model_sample_29 rfl (lv_at hl 3 rfl) ?_
      refine lv_iload_n hx hb d_Model_sample_30 rfl (lv_at hl 1 rfl) ?_
      refine lv_iload_n hx hb d_Model_sample_31 rfl (lv_at hl 0 rfl) ?_
      refine gx_Vi (st0 := [.int (nI j), .int (nI i), .ref pm]) (As := [.int (nI i), .int (nI j)]) (rest := []) (wr := [(pS, .inl (cI, 10, .inl (pb_n so))), (pBN, .inl (cI, 144, .inl ((pb_sin side cut x y so i (pb_sout side cut x y so n (0, bn) i) j).2)))]) ⟨hx, hb, hml, hown, hts⟩ hN hK hP hD hS hA [0, 1, 2] [3, 4] rfl rfl (by decide) (c_Model_isPair l dC dI cI cD cZ H.size pm pX pY pU pV pM pS pK pW pD pC pBI pBJ pRI pRJ pBK pBL pRL pLX pLY pOX pOY pOU pOV pNX pNY pFX pFY pBN side cut skin heat n nb nr isT stn tm rd tk ov1 st1 bl1 0 cg a2 b2 r2 x y i j k hs (by omega) (by omega) (by omega) hX hY (hcut.w (by decide +kernel) (by decide +kernel))) (cwV 2 hts (gx_gV kw_1089 kw_1091 kw_32 kw_54 kw_1092) rfl rfl rfl (by decide +kernel) ⟨Nat.le_of_ble_eq_true rfl, Nat.le_of_ble_eq_true rfl⟩) 0 9 rfl rfl rfl hl.1 rfl (Nat.le_of_ble_eq_true rfl) d_Model_sample_32 ⟨Nat.le_of_ble_eq_true rfl, Nat.le_of_ble_eq_true rfl⟩ (fun r_1 u_2 H locs hw32 hP hD hS => ?_)
      try dsimp only at hw32 hP hD
      have hP : va_P (dC, dI) classes [(pS, .inl (cI, 10, .inl (pb_n so))), (pBN, .inl (cI, 144, .inl ((pb_sin side cut x y so i (pb_sout side cut x y so n (0, bn) i) j).2))), (pm, .inr (9, [.double side, .double cut, .double skin, .double heat, .ref pX, .ref pY, .ref pU, .ref pV, .ref pM, .ref pS, .ref pK, .ref pW, .ref pD, .ref pC, .int (nI n), .int (nI nb), .int (nI nr), .ref pBI, .ref pBJ, .ref pRI, .ref pRJ, .ref pBK, .ref pBL, .ref pRL, .ref pLX, .ref pLY, .int isT, .ref pOX, .ref pOY, .ref pOU, .ref pOV, .ref pNX, .ref pNY, .ref pFX, .ref pFY, .ref pBN, .int stn, .int tm, .int rd, .int tk, .int ov1, .int st1, .int bl1, .int 0, .int cg, .double (pb_near side (FP.dsub (x j) (x i))), .double (pb_near side (FP.dsub (y j) (y i))), .double (pb_rij side x y i j)])), (pX, .inl (cD, 10, .inr (.inr (.inr (.inl x))))), (pY, .inl (cD, 10, .inr (.inr (.inr (.inl y)))))] H := hP
      have hD : va_D A [(pS, .inl (cI, 10, .inl (pb_n so))), (pBN, .inl (cI, 144, .inl ((pb_sin side cut x y so i (pb_sout side cut x y so n (0, bn) i) j).2))), (pm, .inr (9, [.double side, .double cut, .double skin, .double heat, .ref pX, .ref pY, .ref pU, .ref pV, .ref pM, .ref pS, .ref pK, .ref pW, .ref pD, .ref pC, .int (nI n), .int (nI nb), .int (nI nr), .ref pBI, .ref pBJ, .ref pRI, .ref pRJ, .ref pBK, .ref pBL, .ref pRL, .ref pLX, .ref pLY, .int isT, .ref pOX, .ref pOY, .ref pOU, .ref pOV, .ref pNX, .ref pNY, .ref pFX, .ref pFY, .ref pBN, .int stn, .int tm, .int rd, .int tk, .int ov1, .int st1, .int bl1, .int 0, .int cg, .double (pb_near side (FP.dsub (x j) (x i))), .double (pb_near side (FP.dsub (y j) (y i))), .double (pb_rij side x y i j)])), (pX, .inl (cD, 10, .inr (.inr (.inr (.inl x))))), (pY, .inl (cD, 10, .inr (.inr (.inr (.inl y)))))] := hD
      obtain rfl : r_1 = pb_b (pb_prp side cut x y i j) := hw32
      have g_3 := pb_rij_I hs hX hY i j (by omega) (by omega)
      have g_4 := pb_near_I hs (pb_sub_p (hX j (by omega)) (hX i (by omega)))
      have g_5 := pb_near_I hs (pb_sub_p (hY j (by omega)) (hY i (by omega)))
      refine lv_if_ne (tgt := 41) hx hb d_Model_sample_35 (by decide) (fun c35 => ?_) (fun c35 => ?_)
      · skip
        refine lv_iinc (v := nI ((pb_sin side cut x y so i (pb_sout side cut x y so n (0, bn) i) j).1 + 1)) (lv' := [(1, .int (nI ((pb_sin side cut x y so i (pb_sout side cut x y so n (0, bn) i) j).1 + 1))), (3, .int (nI j)), (2, .int (nI i)), (0, .ref pm)]) hx hb d_Model_sample_41 hl (k := 2) rfl (nI_1 (pb_sin side cut x y so i (pb_sout side cut x y so n (0, bn) i) j).1) (by decide) rfl (fun ls hl => ?_)
        refine lv_aload_n hx hb d_Model_sample_44 rfl (lv_at hl 3 rfl) ?_
        refine va_get (D := (dC, dI)) (ci := 9) (v := .double (pb_rij side x y i j)) (C := R_Model) (T := F_Model) (N := 48) hx hb hts (fun w h => List.mem_cons_of_mem _ (i_Model w h)) hown hK hP 2 rfl rfl 47 (by decide) (hts _ (List.mem_cons_of_mem _ kw_888)) (fun _ h9 => h9) rfl d_Model_sample_45 ?_
        refine lv_aload_n hx hb d_Model_sample_48 rfl (lv_at hl 3 rfl) ?_
        refine va_get (D := (dC, dI)) (ci := 9) (v := .double cut) (C := R_Model) (T := F_Model) (N := 48) hx hb hts (fun w h => List.mem_cons_of_mem _ (i_Model w h)) hown hK hP 2 rfl rfl 1 (by decide) (hts _ (List.mem_cons_of_mem _ kw_842)) (fun _ h9 => h9) rfl d_Model_sample_49 ?_
        refine lv_aload_n hx hb d_Model_sample_52 rfl (lv_at hl 3 rfl) ?_
        refine va_get (D := (dC, dI)) (ci := 9) (v := .double cut) (C := R_Model) (T := F_Model) (N := 48) hx hb hts (fun w h => List.mem_cons_of_mem _ (i_Model w h)) hown hK hP 2 rfl rfl 1 (by decide) (hts _ (List.mem_cons_of_mem _ kw_842)) (fun _ h9 => h9) rfl d_Model_sample_53 ?_
        have g_6 := fp_I_mul (fp_d 1 1072) (fp_d 1 1082) hcut hcut (by decide +kernel)
        refine lv_dmul hx hb d_Model_sample_56 g_6.n ?_
        refine lv_ldc2d (v := 4625196817309499392) hx hb hown (hts (.constantDouble R_Model 281 4625196817309499392) (by decide +kernel)) d_Model_sample_57 ?_
        have g_7 := fp_const (a := 4625196817309499392) (T := (fp_d 1 1078)) (by decide +kernel)
        have g_8 := fp_I_div (fp_d 1 1068) (fp_d 1 1078) g_6 g_7 (by decide +kernel)
        refine lv_ddiv hx hb d_Model_sample_60 g_8.n ?_
        have g_9 := fp_I_div (fp_d 0 0) (fp_d 289 1081) g_3 g_8 (by decide +kernel)
        refine lv_ddiv hx hb d_Model_sample_61 g_9.n ?_
        refine gx_Sd (st0 := [.double (FP.ddiv (pb_rij side x y i j) (FP.ddiv (FP.dmul cut cut) 4625196817309499392))]) (As := [.double (FP.ddiv (pb_rij side x y i j) (FP.ddiv (FP.dmul cut cut) 4625196817309499392))]) (rest := []) (wr := [(pS, .inl (cI, 10, .inl (pb_n so))), (pBN, .inl (cI, 144, .inl ((pb_sin side cut x y so i (pb_sout side cut x y so n (0, bn) i) j).2))), (pm, .inr (9, [.double side, .double cut, .double skin, .double heat, .ref pX, .ref pY, .ref pU, .ref pV, .ref pM, .ref pS, .ref pK, .ref pW, .ref pD, .ref pC, .int (nI n), .int (nI nb), .int (nI nr), .ref pBI, .ref pBJ, .ref pRI, .ref pRJ, .ref pBK, .ref pBL, .ref pRL, .ref pLX, .ref pLY, .int isT, .ref pOX, .ref pOY, .ref pOU, .ref pOV, .ref pNX, .ref pNY, .ref pFX, .ref pFY, .ref pBN, .int stn, .int tm, .int rd, .int tk, .int ov1, .int st1, .int bl1, .int 0, .int cg, .double (pb_near side (FP.dsub (x j) (x i))), .double (pb_near side (FP.dsub (y j) (y i))), .double (pb_rij side x y i j)])), (pX, .inl (cD, 10, .inr (.inr (.inr (.inl x))))), (pY, .inl (cD, 10, .inr (.inr (.inr (.inl y)))))]) ⟨hx, hb, hml, hown, hts⟩ hN hK hP hD hS hA [] [0, 1, 2, 3, 4] rfl rfl (by decide) (c_Model_floor l dC dI cI cD cZ H.size (FP.ddiv (pb_rij side x y i j) (FP.ddiv (FP.dmul cut cut) 4625196817309499392)) (g_9.w (by decide +kernel) (by decide +kernel))) (va_cwS 1 hts (gx_gS kw_1009 kw_1010 kw_54 kw_1011) rfl rfl rfl (by decide +kernel) ⟨Nat.le_of_ble_eq_true rfl, Nat.le_of_ble_eq_true rfl⟩) rfl hl.1 rfl (Nat.le_of_ble_eq_true rfl) d_Model_sample_62 ⟨Nat.le_of_ble_eq_true rfl, Nat.le_of_ble_eq_true rfl⟩ (fun r_10 u_11 H locs hw62 hP hD hS => ?_)
        try dsimp only at hw62 hP hD
        have hP : va_P (dC, dI) classes [(pS, .inl (cI, 10, .inl (pb_n so))), (pBN, .inl (cI, 144, .inl ((pb_sin side cut x y so i (pb_sout side cut x y so n (0, bn) i) j).2))), (pm, .inr (9, [.double side, .double cut, .double skin, .double heat, .ref pX, .ref pY, .ref pU, .ref pV, .ref pM, .ref pS, .ref pK, .ref pW, .ref pD, .ref pC, .int (nI n), .int (nI nb), .int (nI nr), .ref pBI, .ref pBJ, .ref pRI, .ref pRJ, .ref pBK, .ref pBL, .ref pRL, .ref pLX, .ref pLY, .int isT, .ref pOX, .ref pOY, .ref pOU, .ref pOV, .ref pNX, .ref pNY, .ref pFX, .ref pFY, .ref pBN, .int stn, .int tm, .int rd, .int tk, .int ov1, .int st1, .int bl1, .int 0, .int cg, .double (pb_near side (FP.dsub (x j) (x i))), .double (pb_near side (FP.dsub (y j) (y i))), .double (pb_rij side x y i j)])), (pX, .inl (cD, 10, .inr (.inr (.inr (.inl x))))), (pY, .inl (cD, 10, .inr (.inr (.inr (.inl y)))))] H := hP
        have hD : va_D A [(pS, .inl (cI, 10, .inl (pb_n so))), (pBN, .inl (cI, 144, .inl ((pb_sin side cut x y so i (pb_sout side cut x y so n (0, bn) i) j).2))), (pm, .inr (9, [.double side, .double cut, .double skin, .double heat, .ref pX, .ref pY, .ref pU, .ref pV, .ref pM, .ref pS, .ref pK, .ref pW, .ref pD, .ref pC, .int (nI n), .int (nI nb), .int (nI nr), .ref pBI, .ref pBJ, .ref pRI, .ref pRJ, .ref pBK, .ref pBL, .ref pRL, .ref pLX, .ref pLY, .int isT, .ref pOX, .ref pOY, .ref pOU, .ref pOV, .ref pNX, .ref pNY, .ref pFX, .ref pFY, .ref pBN, .int stn, .int tm, .int rd, .int tk, .int ov1, .int st1, .int bl1, .int 0, .int cg, .double (pb_near side (FP.dsub (x j) (x i))), .double (pb_near side (FP.dsub (y j) (y i))), .double (pb_rij side x y i j)])), (pX, .inl (cD, 10, .inr (.inr (.inr (.inl x))))), (pY, .inl (cD, 10, .inr (.inr (.inr (.inl y)))))] := hD
        obtain rfl : r_10 = pb_floor (FP.ddiv (pb_rij side x y i j) (FP.ddiv (FP.dmul cut cut) 4625196817309499392)) := hw62
        have g_12 := pb_floor_I (g_9.w (by decide +kernel) (by decide +kernel))
        have hzq := pb_q_I hcut (pb_rij_I hs hX hY i j (by omega) (by omega))
        have hq9 := pb_bni_k hzq
        have hsl := pb_slot_lt (hso i (by omega)) (hso j (by omega)) hq9.2
        refine lv_dstore (lv' := [(4, .double (pb_floor (FP.ddiv (pb_rij side x y i j) (FP.ddiv (FP.dmul cut cut) 4625196817309499392)))), (1, .int (nI ((pb_sin side cut x y so i (pb_sout side cut x y so n (0, bn) i) j).1 + 1))), (3, .int (nI j)), (2, .int (nI i)), (0, .ref pm)]) hx hb d_Model_sample_65 hl (by decide) rfl (fun ls hl => ?_)
        refine lv_dload hx hb d_Model_sample_67 (lv_at hl 0 rfl) ?_
        refine lv_ldc2d (v := 4624633867356078080) hx hb hown (hts (.constantDouble R_Model 283 4624633867356078080) (by decide +kernel)) d_Model_sample_69 ?_
        refine gx_join 84 [.int (nI (pb_bnk (pb_q cut (pb_rij side x y i j))))] (fun H locs => va_P (dC, dI) classes [(pS, .inl (cI, 10, .inl (pb_n so))), (pBN, .inl (cI, 144, .inl ((pb_sin side cut x y so i (pb_sout side cut x y so n (0, bn) i) j).2))), (pm, .inr (9, [.double side, .double cut, .double skin, .double heat, .ref pX, .ref pY, .ref pU, .ref pV, .ref pM, .ref pS, .ref pK, .ref pW, .ref pD, .ref pC, .int (nI n), .int (nI nb), .int (nI nr), .ref pBI, .ref pBJ, .ref pRI, .ref pRJ, .ref pBK, .ref pBL, .ref pRL, .ref pLX, .ref pLY, .int isT, .ref pOX, .ref pOY, .ref pOU, .ref pOV, .ref pNX, .ref pNY, .ref pFX, .ref pFY, .ref pBN, .int stn, .int tm, .int rd, .int tk, .int ov1, .int st1, .int bl1, .int 0, .int cg, .double (pb_near side (FP.dsub (x j) (x i))), .double (pb_near side (FP.dsub (y j) (y i))), .double (pb_rij side x y i j)])), (pX, .inl (cD, 10, .inr (.inr (.inr (.inl x))))), (pY, .inl (cD, 10, .inr (.inr (.inr (.inl y)))))] H ∧ va_D A [(pS, .inl (cI, 10, .inl (pb_n so))), (pBN, .inl (cI, 144, .inl ((pb_sin side cut x y so i (pb_sout side cut x y so n (0, bn) i) j).2))), (pm, .inr (9, [.double side, .double cut, .double skin, .double heat, .ref pX, .ref pY, .ref pU, .ref pV, .ref pM, .ref pS, .ref pK, .ref pW, .ref pD, .ref pC, .int (nI n), .int (nI nb), .int (nI nr), .ref pBI, .ref pBJ, .ref pRI, .ref pRJ, .ref pBK, .ref pBL, .ref pRL, .ref pLX, .ref pLY, .int isT, .ref pOX, .ref pOY, .ref pOU, .ref pOV, .ref pNX, .ref pNY, .ref pFX, .ref pFY, .ref pBN, .int stn, .int tm, .int rd, .int tk, .int ov1, .int st1, .int bl1, .int 0, .int cg, .double (pb_near side (FP.dsub (x j) (x i))), .double (pb_near side (FP.dsub (y j) (y i))), .double (pb_rij side x y i j)])), (pX, .inl (cD, 10, .inr (.inr (.inr (.inl x))))), (pY, .inl (cD, 10, .inr (.inr (.inr (.inl y)))))] ∧ va_S A s.heap H locs) (fun H locs hI9 => ?_) (fun J72 => ?_)
        · skip
          obtain ⟨hP, hD, hS⟩ := hI9
          refine lv_istore (lv' := [(6, .int (nI (pb_bnk (pb_q cut (pb_rij side x y i j))))), (4, .double (pb_floor (FP.ddiv (pb_rij side x y i j) (FP.ddiv (FP.dmul cut cut) 4625196817309499392)))), (1, .int (nI ((pb_sin side cut x y so i (pb_sout side cut x y so n (0, bn) i) j).1 + 1))), (3, .int (nI j)), (2, .int (nI i)), (0, .ref pm)]) hx hb d_Model_sample_84 hl (by decide) rfl (fun ls hl => ?_)
          refine lv_aload_n hx hb d_Model_sample_86 rfl (lv_at hl 5 rfl) ?_
          refine va_get (D := (dC, dI)) (ci := 9) (v := .ref pBN) (C := R_Model) (T := F_Model) (N := 48) hx hb hts (fun w h => List.mem_cons_of_mem _ (i_Model w h)) hown hK hP 2 rfl rfl 35 (by decide) (hts _ (List.mem_cons_of_mem _ kw_876)) (fun _ h9 => h9) rfl d_Model_sample_87 ?_
          refine lv_aload_n hx hb d_Model_sample_90 rfl (lv_at hl 5 rfl) ?_
          refine va_get (D := (dC, dI)) (ci := 9) (v := .ref pS) (C := R_Model) (T := F_Model) (N := 48) hx hb hts (fun w h => List.mem_cons_of_mem _ (i_Model w h)) hown hK hP 2 rfl rfl 9 (by decide) (hts _ (List.mem_cons_of_mem _ kw_850)) (fun _ h9 => h9) rfl d_Model_sample_91 ?_
          refine lv_iload_n hx hb d_Model_sample_94 rfl (lv_at hl 4 rfl) ?_
          refine gx_iald hx hb hK hP 0 0 rfl rfl (by omega) (by decide) d_Model_sample_95 ?_
          refine lv_aload_n hx hb d_Model_sample_96 rfl (lv_at hl 5 rfl) ?_
          refine va_get (D := (dC, dI)) (ci := 9) (v := .ref pS) (C := R_Model) (T := F_Model) (N := 48) hx hb hts (fun w h => List.mem_cons_of_mem _ (i_Model w h)) hown hK hP 2 rfl rfl 9 (by decide) (hts _ (List.mem_cons_of_mem _ kw_850)) (fun _ h9 => h9) rfl d_Model_sample_97 ?_
          refine lv_iload_n hx hb d_Model_sample_100 rfl (lv_at hl 3 rfl) ?_
          refine gx_iald hx hb hK hP 0 0 rfl rfl (by omega) (by decide) d_Model_sample_101 ?_
          refine gx_Si (st0 := [.int (nI (so j)), .int (nI (so i)), .ref pBN]) (As := [.int (nI (so i)), .int (nI (so j))]) (rest := [.ref pBN]) (wr := [(pS, .inl (cI, 10, .inl (pb_n so))), (pBN, .inl (cI, 144, .inl ((pb_sin side cut x y so i (pb_sout side cut x y so n (0, bn) i) j).2))), (pm, .inr (9, [.double side, .double cut, .double skin, .double heat, .ref pX, .ref pY, .ref pU, .ref pV, .ref pM, .ref pS, .ref pK, .ref pW, .ref pD, .ref pC, .int (nI n), .int (nI nb), .int (nI nr), .ref pBI, .ref pBJ, .ref pRI, .ref pRJ, .ref pBK, .ref pBL, .ref pRL, .ref pLX, .ref pLY, .int isT, .ref pOX, .ref pOY, .ref pOU, .ref pOV, .ref pNX, .ref pNY, .ref pFX, .ref pFY, .ref pBN, .int stn, .int tm, .int rd, .int tk, .int ov1, .int st1, .int bl1, .int 0, .int cg, .double (pb_near side (FP.dsub (x j) (x i))), .double (pb_near side (FP.dsub (y j) (y i))), .double (pb_rij side x y i j)])), (pX, .inl (cD, 10, .inr (.inr (.inr (.inl x))))), (pY, .inl (cD, 10, .inr (.inr (.inr (.inl y)))))]) ⟨hx, hb, hml, hown, hts⟩ hN hK hP hD hS hA [] [0, 1, 2, 3, 4] rfl rfl (by decide) (c_Model_classOf l dC dI cI cD cZ H.size (so i) (so j) (hso i (by omega)) (hso j (by omega))) (va_cwS 2 hts (gx_gS kw_1168 kw_1169 kw_54 kw_1170) rfl rfl rfl (by decide +kernel) ⟨Nat.le_of_ble_eq_true rfl, Nat.le_of_ble_eq_true rfl⟩) rfl hl.1 rfl (Nat.le_of_ble_eq_true rfl) d_Model_sample_102 ⟨Nat.le_of_ble_eq_true rfl, Nat.le_of_ble_eq_true rfl⟩ (fun r_13 u_14 H locs hw102 hP hD hS => ?_)
          try dsimp only at hw102 hP hD
          have hP : va_P (dC, dI) classes [(pS, .inl (cI, 10, .inl (pb_n so))), (pBN, .inl (cI, 144, .inl ((pb_sin side cut x y so i (pb_sout side cut x y so n (0, bn) i) j).2))), (pm, .inr (9, [.double side, .double cut, .double skin, .double heat, .ref pX, .ref pY, .ref pU, .ref pV, .ref pM, .ref pS, .ref pK, .ref pW, .ref pD, .ref pC, .int (nI n), .int (nI nb), .int (nI nr), .ref pBI, .ref pBJ, .ref pRI, .ref pRJ, .ref pBK, .ref pBL, .ref pRL, .ref pLX, .ref pLY, .int isT, .ref pOX, .ref pOY, .ref pOU, .ref pOV, .ref pNX, .ref pNY, .ref pFX, .ref pFY, .ref pBN, .int stn, .int tm, .int rd, .int tk, .int ov1, .int st1, .int bl1, .int 0, .int cg, .double (pb_near side (FP.dsub (x j) (x i))), .double (pb_near side (FP.dsub (y j) (y i))), .double (pb_rij side x y i j)])), (pX, .inl (cD, 10, .inr (.inr (.inr (.inl x))))), (pY, .inl (cD, 10, .inr (.inr (.inr (.inl y)))))] H := hP
          have hD : va_D A [(pS, .inl (cI, 10, .inl (pb_n so))), (pBN, .inl (cI, 144, .inl ((pb_sin side cut x y so i (pb_sout side cut x y so n (0, bn) i) j).2))), (pm, .inr (9, [.double side, .double cut, .double skin, .double heat, .ref pX, .ref pY, .ref pU, .ref pV, .ref pM, .ref pS, .ref pK, .ref pW, .ref pD, .ref pC, .int (nI n), .int (nI nb), .int (nI nr), .ref pBI, .ref pBJ, .ref pRI, .ref pRJ, .ref pBK, .ref pBL, .ref pRL, .ref pLX, .ref pLY, .int isT, .ref pOX, .ref pOY, .ref pOU, .ref pOV, .ref pNX, .ref pNY, .ref pFX, .ref pFY, .ref pBN, .int stn, .int tm, .int rd, .int tk, .int ov1, .int st1, .int bl1, .int 0, .int cg, .double (pb_near side (FP.dsub (x j) (x i))), .double (pb_near side (FP.dsub (y j) (y i))), .double (pb_rij side x y i j)])), (pX, .inl (cD, 10, .inr (.inr (.inr (.inl x))))), (pY, .inl (cD, 10, .inr (.inr (.inr (.inl y)))))] := hD
          obtain rfl : r_13 = nI (min (so i) (so j) * 3 + max (so i) (so j)) := hw102
          refine lv_bipush (v := nI 16) hx hb d_Model_sample_105 (by decide) ?_
          refine lv_imul hx hb d_Model_sample_107 ?_
          rw [nI_mul]
          refine lv_iload hx hb d_Model_sample_108 (lv_at hl 0 rfl) ?_
          refine lv_iadd hx hb d_Model_sample_110 ?_
          rw [nI_add]
          refine lv_topi (fun av eav => ?_)
          obtain rfl : av = nI (pb_slot (so i) (so j) (pb_bnk (pb_q cut (pb_rij side x y i j)))) := eav
          refine lv_dup2_11 hx hb d_Model_sample_111 rfl rfl ?_
          refine gx_iald hx hb hK hP 1 0 rfl rfl (by omega) (by decide) d_Model_sample_112 ?_
          refine lv_iconst (v := 1) hx hb d_Model_sample_113 (by decide) ?_
          refine lv_iadd hx hb d_Model_sample_114 ?_
          refine gx_iast hx hb hK hP hD hS 1 0 rfl rfl (by omega) (by decide) d_Model_sample_115 (fun H locs hP hD hS => ?_)
          have hP : va_P (dC, dI) classes [(pS, .inl (cI, 10, .inl (pb_n so))), (pBN, .inl (cI, 144, .inl (upd ((pb_sin side cut x y so i (pb_sout side cut x y so n (0, bn) i) j).2) (pb_slot (so i) (so j) (pb_bnk (pb_q cut (pb_rij side x y i j)))) ((((pb_sin side cut x y so i (pb_sout side cut x y so n (0, bn) i) j).2) (pb_slot (so i) (so j) (pb_bnk (pb_q cut (pb_rij side x y i j))))) + 1)))), (pm, .inr (9, [.double side, .double cut, .double skin, .double heat, .ref pX, .ref pY, .ref pU, .ref pV, .ref pM, .ref pS, .ref pK, .ref pW, .ref pD, .ref pC, .int (nI n), .int (nI nb), .int (nI nr), .ref pBI, .ref pBJ, .ref pRI, .ref pRJ, .ref pBK, .ref pBL, .ref pRL, .ref pLX, .ref pLY, .int isT, .ref pOX, .ref pOY, .ref pOU, .ref pOV, .ref pNX, .ref pNY, .ref pFX, .ref pFY, .ref pBN, .int stn, .int tm, .int rd, .int tk, .int ov1, .int st1, .int bl1, .int 0, .int cg, .double (pb_near side (FP.dsub (x j) (x i))), .double (pb_near side (FP.dsub (y j) (y i))), .double (pb_rij side x y i j)])), (pX, .inl (cD, 10, .inr (.inr (.inr (.inl x))))), (pY, .inl (cD, 10, .inr (.inr (.inr (.inl y)))))] H := hP
          have hD : va_D A [(pS, .inl (cI, 10, .inl (pb_n so))), (pBN, .inl (cI, 144, .inl (upd ((pb_sin side cut x y so i (pb_sout side cut x y so n (0, bn) i) j).2) (pb_slot (so i) (so j) (pb_bnk (pb_q cut (pb_rij side x y i j)))) ((((pb_sin side cut x y so i (pb_sout side cut x y so n (0, bn) i) j).2) (pb_slot (so i) (so j) (pb_bnk (pb_q cut (pb_rij side x y i j))))) + 1)))), (pm, .inr (9, [.double side, .double cut, .double skin, .double heat, .ref pX, .ref pY, .ref pU, .ref pV, .ref pM, .ref pS, .ref pK, .ref pW, .ref pD, .ref pC, .int (nI n), .int (nI nb), .int (nI nr), .ref pBI, .ref pBJ, .ref pRI, .ref pRJ, .ref pBK, .ref pBL, .ref pRL, .ref pLX, .ref pLY, .int isT, .ref pOX, .ref pOY, .ref pOU, .ref pOV, .ref pNX, .ref pNY, .ref pFX, .ref pFY, .ref pBN, .int stn, .int tm, .int rd, .int tk, .int ov1, .int st1, .int bl1, .int 0, .int cg, .double (pb_near side (FP.dsub (x j) (x i))), .double (pb_near side (FP.dsub (y j) (y i))), .double (pb_rij side x y i j)])), (pX, .inl (cD, 10, .inr (.inr (.inr (.inl x))))), (pY, .inl (cD, 10, .inr (.inr (.inr (.inl y)))))] := hD
          have e9 : pb_sin side cut x y so i (pb_sout side cut x y so n (0, bn) i) (j + 1) = pb_s1 side cut x y so i j (pb_sin side cut x y so i (pb_sout side cut x y so n (0, bn) i) j) := if_pos ⟨hij, pb_b_n0 c35⟩
          have hl : lv_has ls 7 [(6, .int (nI (pb_bnk (pb_q cut (pb_rij side x y i j))))), (4, .double (pb_floor (FP.ddiv (pb_rij side x y i j) (FP.ddiv (FP.dmul cut cut) 4625196817309499392)))), (1, .int (nI (pb_sin side cut x y so i (pb_sout side cut x y so n (0, bn) i) (j + 1)).1)), (3, .int (nI j)), (2, .int (nI i)), (0, .ref pm)] := by rw [e9]; exact hl
          have hP : va_P (dC, dI) classes [(pS, .inl (cI, 10, .inl (pb_n so))), (pBN, .inl (cI, 144, .inl ((pb_sin side cut x y so i (pb_sout side cut x y so n (0, bn) i) (j + 1)).2))), (pm, .inr (9, [.double side, .double cut, .double skin, .double heat, .ref pX, .ref pY, .ref pU, .ref pV, .ref pM, .ref pS, .ref pK, .ref pW, .ref pD, .ref pC, .int (nI n), .int (nI nb), .int (nI nr), .ref pBI, .ref pBJ, .ref pRI, .ref pRJ, .ref pBK, .ref pBL, .ref pRL, .ref pLX, .ref pLY, .int isT, .ref pOX, .ref pOY, .ref pOU, .ref pOV, .ref pNX, .ref pNY, .ref pFX, .ref pFY, .ref pBN, .int stn, .int tm, .int rd, .int tk, .int ov1, .int st1, .int bl1, .int 0, .int cg, .double (pb_near side (FP.dsub (x j) (x i))), .double (pb_near side (FP.dsub (y j) (y i))), .double (pb_rij side x y i j)])), (pX, .inl (cD, 10, .inr (.inr (.inr (.inl x))))), (pY, .inl (cD, 10, .inr (.inr (.inr (.inl y)))))] H := by rw [e9]; exact hP
          have hD : va_D A [(pS, .inl (cI, 10, .inl (pb_n so))), (pBN, .inl (cI, 144, .inl ((pb_sin side cut x y so i (pb_sout side cut x y so n (0, bn) i) (j + 1)).2))), (pm, .inr (9, [.double side, .double cut, .double skin, .double heat, .ref pX, .ref pY, .ref pU, .ref pV, .ref pM, .ref pS, .ref pK, .ref pW, .ref pD, .ref pC, .int (nI n), .int (nI nb), .int (nI nr), .ref pBI, .ref pBJ, .ref pRI, .ref pRJ, .ref pBK, .ref pBL, .ref pRL, .ref pLX, .ref pLY, .int isT, .ref pOX, .ref pOY, .ref pOU, .ref pOV, .ref pNX, .ref pNY, .ref pFX, .ref pFY, .ref pBN, .int stn, .int tm, .int rd, .int tk, .int ov1, .int st1, .int bl1, .int 0, .int cg, .double (pb_near side (FP.dsub (x j) (x i))), .double (pb_near side (FP.dsub (y j) (y i))), .double (pb_rij side x y i j)])), (pX, .inl (cD, 10, .inr (.inr (.inr (.inl x))))), (pY, .inl (cD, 10, .inr (.inr (.inr (.inl y)))))] := by rw [e9]; exact hD
          refine lv_iinc (v := nI (j + 1)) (lv' := [(3, .int (nI (j + 1))), (6, .int (nI (pb_bnk (pb_q cut (pb_rij side x y i j))))), (4, .double (pb_floor (FP.ddiv (pb_rij side x y i j) (FP.ddiv (FP.dmul cut cut) 4625196817309499392)))), (1, .int (nI (pb_sin side cut x y so i (pb_sout side cut x y so n (0, bn) i) (j + 1)).1)), (2, .int (nI i)), (0, .ref pm)]) hx hb d_Model_sample_116 hl (k := 3) rfl (nI_1 j) (by decide) rfl (fun ls hl => ?_)
          refine lv_goto (tgt := 21) hx hb d_Model_sample_119 (by decide) ?_
          exact K21 (j + 1, (pb_near side (FP.dsub (x j) (x i))), (pb_near side (FP.dsub (y j) (y i))), (pb_rij side x y i j)) _ _ _ ⟨hP.sub [2, 3, 4, 0, 1] rfl, hD.sub [2, 3, 4, 0, 1] (by decide) rfl, hS, lv_sub hl [0, 4, 3, 5] rfl, (by omega), (by omega)⟩ (by dsimp only; omega)
        · skip
          refine gx_gt (tgt := 81) hx hb d_Model_sample_72 d_Model_sample_73 (by decide) (fun c72 => ?_) (fun c72 => ?_)
          · skip
            refine lv_dload hx hb d_Model_sample_81 (lv_at hl 0 rfl) ?_
            refine lv_d2i hx hb d_Model_sample_83 ?_
            refine W.eq (g2 := F0 m 84 ls [.int (nI (pb_bnk (pb_q cut (pb_rij side x y i j))))]) (congrArg (fun zz9 => F0 m 84 ls (.int zz9 :: [])) ((Eq.trans (if_neg c72).symm (Eq.trans (pb_bni_r hzq) hq9.1)))) ?_
            exact J72 _ _ ⟨hP.sub [0, 1, 2, 3, 4] rfl, hD.sub [0, 1, 2, 3, 4] (by decide) rfl, hS⟩
          · skip
            refine lv_bipush (v := 15) hx hb d_Model_sample_76 (by decide) ?_
            refine lv_goto (tgt := 84) hx hb d_Model_sample_78 (by decide) ?_
            refine W.eq (g2 := F0 m 84 ls [.int (nI (pb_bnk (pb_q cut (pb_rij side x y i j))))]) (congrArg (fun zz9 => F0 m 84 ls (.int zz9 :: [])) ((Eq.trans (if_pos c72).symm (Eq.trans (pb_bni_r hzq) hq9.1)))) ?_
            exact J72 _ _ ⟨hP.sub [0, 1, 2, 3, 4] rfl, hD.sub [0, 1, 2, 3, 4] (by decide) rfl, hS⟩
      · skip
        refine lv_goto (tgt := 116) hx hb d_Model_sample_38 (by decide) ?_
        have e9 : pb_sin side cut x y so i (pb_sout side cut x y so n (0, bn) i) (j + 1) = pb_sin side cut x y so i (pb_sout side cut x y so n (0, bn) i) j := if_neg (fun q => pb_b_0.mp c35 q.2)
        have hl : lv_has ls 7 [(3, .int (nI j)), (2, .int (nI i)), (1, .int (nI (pb_sin side cut x y so i (pb_sout side cut x y so n (0, bn) i) (j + 1)).1)), (0, .ref pm)] := by rw [e9]; exact hl
        have hP : va_P (dC, dI) classes [(pS, .inl (cI, 10, .inl (pb_n so))), (pBN, .inl (cI, 144, .inl ((pb_sin side cut x y so i (pb_sout side cut x y so n (0, bn) i) (j + 1)).2))), (pm, .inr (9, [.double side, .double cut, .double skin, .double heat, .ref pX, .ref pY, .ref pU, .ref pV, .ref pM, .ref pS, .ref pK, .ref pW, .ref pD, .ref pC, .int (nI n), .int (nI nb), .int (nI nr), .ref pBI, .ref pBJ, .ref pRI, .ref pRJ, .ref pBK, .ref pBL, .ref pRL, .ref pLX, .ref pLY, .int isT, .ref pOX, .ref pOY, .ref pOU, .ref pOV, .ref pNX, .ref pNY, .ref pFX, .ref pFY, .ref pBN, .int stn, .int tm, .int rd, .int tk, .int ov1, .int st1, .int bl1, .int 0, .int cg, .double (pb_near side (FP.dsub (x j) (x i))), .double (pb_near side (FP.dsub (y j) (y i))), .double (pb_rij side x y i j)])), (pX, .inl (cD, 10, .inr (.inr (.inr (.inl x))))), (pY, .inl (cD, 10, .inr (.inr (.inr (.inl y)))))] H := by rw [e9]; exact hP
        have hD : va_D A [(pS, .inl (cI, 10, .inl (pb_n so))), (pBN, .inl (cI, 144, .inl ((pb_sin side cut x y so i (pb_sout side cut x y so n (0, bn) i) (j + 1)).2))), (pm, .inr (9, [.double side, .double cut, .double skin, .double heat, .ref pX, .ref pY, .ref pU, .ref pV, .ref pM, .ref pS, .ref pK, .ref pW, .ref pD, .ref pC, .int (nI n), .int (nI nb), .int (nI nr), .ref pBI, .ref pBJ, .ref pRI, .ref pRJ, .ref pBK, .ref pBL, .ref pRL, .ref pLX, .ref pLY, .int isT, .ref pOX, .ref pOY, .ref pOU, .ref pOV, .ref pNX, .ref pNY, .ref pFX, .ref pFY, .ref pBN, .int stn, .int tm, .int rd, .int tk, .int ov1, .int st1, .int bl1, .int 0, .int cg, .double (pb_near side (FP.dsub (x j) (x i))), .double (pb_near side (FP.dsub (y j) (y i))), .double (pb_rij side x y i j)])), (pX, .inl (cD, 10, .inr (.inr (.inr (.inl x))))), (pY, .inl (cD, 10, .inr (.inr (.inr (.inl y)))))] := by rw [e9]; exact hD
        refine lv_iinc (v := nI (j + 1)) (lv' := [(3, .int (nI (j + 1))), (2, .int (nI i)), (1, .int (nI (pb_sin side cut x y so i (pb_sout side cut x y so n (0, bn) i) (j + 1)).1)), (0, .ref pm)]) hx hb d_Model_sample_116 hl (k := 0) rfl (nI_1 j) (by decide) rfl (fun ls hl => ?_)
        refine lv_goto (tgt := 21) hx hb d_Model_sample_119 (by decide) ?_
        exact K21 (j + 1, (pb_near side (FP.dsub (x j) (x i))), (pb_near side (FP.dsub (y j) (y i))), (pb_rij side x y i j)) _ _ _ ⟨hP.sub [2, 3, 4, 0, 1] rfl, hD.sub [2, 3, 4, 0, 1] (by decide) rfl, hS, lv_sub hl [0, 1, 2, 3] rfl, (by omega), (by omega)⟩ (by dsimp only; omega)
set_option maxHeartbeats 4000000 in
set_option maxRecDepth 100000 in
theorem c_Model_bin_bad (l : Launch) (dC : Nat → ClassId) (dI : Nat → Nat → Nat) (cI cD cZ : ClassId) (sz : Nat) (pm : Nat) (pX : Nat) (pY : Nat) (pU : Nat) (pV : Nat) (pM : Nat) (pS : Nat) (pK : Nat) (pW : Nat) (pD : Nat) (pC : Nat) (pBI : Nat) (pBJ : Nat) (pRI : Nat) (pRJ : Nat) (pBK : Nat) (pBL : Nat) (pRL : Nat) (pLX : Nat) (pLY : Nat) (pOX : Nat) (pOY : Nat) (pOU : Nat) (pOV : Nat) (pNX : Nat) (pNY : Nat) (pFX : Nat) (pFY : Nat) (pBN : Nat) (side : UInt64) (cut : UInt64) (skin : UInt64) (heat : UInt64) (n : Nat) (nb : Nat) (nr : Nat) (isT : Int32) (stn : Int32) (tm : Int32) (rd : Int32) (tk : Int32) (ov1 : Int32) (st1 : Int32) (bl1 : Int32) (thw : Int32) (cg : Int32) (qa : UInt64) (qb : UInt64) (qr : UInt64) (bn : Nat → Int32) (q1 : Int32) (q2 : Int32) (q3 : Int32) (hbd : ¬ (pb_has 3 q1 ∧ pb_has 3 q2 ∧ ¬ q3 < 0 ∧ ¬ 16 ≤ q3)) : Met l y_Model_bin w_Model_bin ({ frames := 1, cells := 0, slots := 0, locals := 21 }) (va_Pc [.ref pm, .int q1, .int q2, .int q3] (gx_B (dC, dI) classes (gx_T cI cD cZ) [(pm, .inr (9, [.double side, .double cut, .double skin, .double heat, .ref pX, .ref pY, .ref pU, .ref pV, .ref pM, .ref pS, .ref pK, .ref pW, .ref pD, .ref pC, .int (nI n), .int (nI nb), .int (nI nr), .ref pBI, .ref pBJ, .ref pRI, .ref pRJ, .ref pBK, .ref pBL, .ref pRL, .ref pLX, .ref pLY, .int isT, .ref pOX, .ref pOY, .ref pOU, .ref pOV, .ref pNX, .ref pNY, .ref pFX, .ref pFY, .ref pBN, .int stn, .int tm, .int rd, .int tk, .int ov1, .int st1, .int bl1, .int thw, .int cg, .double qa, .double qb, .double qr])), (pBN, .inl (cI, 144, .inl bn))] sz)) (va_Qi (fun (rr : Int32) (uu : Unit) => True) (fun (uu : Unit) t => gx_E (dC, dI) classes (gx_T cI cD cZ) (va_A [(pm, .inr (9, [.double side, .double cut, .double skin, .double heat, .ref pX, .ref pY, .ref pU, .ref pV, .ref pM, .ref pS, .ref pK, .ref pW, .ref pD, .ref pC, .int (nI n), .int (nI nb), .int (nI nr), .ref pBI, .ref pBJ, .ref pRI, .ref pRJ, .ref pBK, .ref pBL, .ref pRL, .ref pLX, .ref pLY, .int isT, .ref pOX, .ref pOY, .ref pOU, .ref pOV, .ref pNX, .ref pNY, .ref pFX, .ref pFY, .ref pBN, .int stn, .int tm, .int rd, .int tk, .int ov1, .int st1, .int bl1, .int thw, .int cg, .double qa, .double qb, .double qr])), (pBN, .inl (cI, 144, .inl bn))] sz) [(pm, .inr (9, [.double side, .double cut, .double skin, .double heat, .ref pX, .ref pY, .ref pU, .ref pV, .ref pM, .ref pS, .ref pK, .ref pW, .ref pD, .ref pC, .int (nI n), .int (nI nb), .int (nI nr), .ref pBI, .ref pBJ, .ref pRI, .ref pRJ, .ref pBK, .ref pBL, .ref pRL, .ref pLX, .ref pLY, .int isT, .ref pOX, .ref pOY, .ref pOU, .ref pOV, .ref pNX, .ref pNY, .ref pFX, .ref pFY, .ref pBN, .int stn, .int tm, .int rd, .int tk, .int ov1, .int st1, .int bl1, .int 1, .int cg, .double qa, .double qb, .double qr])), (pBN, .inl (cI, 144, .inl bn))] t) (va_A [(pm, .inr (9, [.double side, .double cut, .double skin, .double heat, .ref pX, .ref pY, .ref pU, .ref pV, .ref pM, .ref pS, .ref pK, .ref pW, .ref pD, .ref pC, .int (nI n), .int (nI nb), .int (nI nr), .ref pBI, .ref pBJ, .ref pRI, .ref pRJ, .ref pBK, .ref pBL, .ref pRL, .ref pLX, .ref pLY, .int isT, .ref pOX, .ref pOY, .ref pOU, .ref pOV, .ref pNX, .ref pNY, .ref pFX, .ref pFY, .ref pBN, .int stn, .int tm, .int rd, .int tk, .int ov1, .int st1, .int bl1, .int thw, .int cg, .double qa, .double qb, .double qr])), (pBN, .inl (cI, 144, .inl bn))] sz)) 0 0 (va_A [(pm, .inr (9, [.double side, .double cut, .double skin, .double heat, .ref pX, .ref pY, .ref pU, .ref pV, .ref pM, .ref pS, .ref pK, .ref pW, .ref pD, .ref pC, .int (nI n), .int (nI nb), .int (nI nr), .ref pBI, .ref pBJ, .ref pRI, .ref pRJ, .ref pBK, .ref pBL, .ref pRL, .ref pLX, .ref pLY, .int isT, .ref pOX, .ref pOY, .ref pOU, .ref pOV, .ref pNX, .ref pNY, .ref pFX, .ref pFY, .ref pBN, .int stn, .int tm, .int rd, .int tk, .int ov1, .int st1, .int bl1, .int thw, .int cg, .double qa, .double qb, .double qr])), (pBN, .inl (cI, 144, .inl bn))] sz) := by
  refine Met.ofW (cc := b_Model_bin) (maxL := 4) (ret := (some .int)) (by decide) rfl ?_
  intro p e s m args below meth c s₁ B hml hv
  obtain ⟨rfl, hsz, hP, hK, hD0, hN⟩ := hv
  have hx := B.exec
  have hb := B.bytes
  have hr := B.returns
  have hts := atoms_spec (ws := w_Model_bin) B.pre
  have hown : s.vm.findClass R_Model = some m.cls := findClass_of_methodNamed B.named
  have hlocks := B.notSynchronized
  subst hsz
  have hD := hD0.self (sz := s.heap.size)
  generalize hAe : va_A [(pm, .inr (9, [.double side, .double cut, .double skin, .double heat, .ref pX, .ref pY, .ref pU, .ref pV, .ref pM, .ref pS, .ref pK, .ref pW, .ref pD, .ref pC, .int (nI n), .int (nI nb), .int (nI nr), .ref pBI, .ref pBJ, .ref pRI, .ref pRJ, .ref pBK, .ref pBL, .ref pRL, .ref pLX, .ref pLY, .int isT, .ref pOX, .ref pOY, .ref pOU, .ref pOV, .ref pNX, .ref pNY, .ref pFX, .ref pFY, .ref pBN, .int stn, .int tm, .int rd, .int tk, .int ov1, .int st1, .int bl1, .int thw, .int cg, .double qa, .double qb, .double qr])), (pBN, .inl (cI, 144, .inl bn))] s.heap.size = A at hD ⊢
  have hA : ∀ q : Nat, s.heap.size ≤ q → A q := fun q h => by rw [← hAe]; exact Or.inr h
  have hS : va_S A s.heap s.heap [] := va_S.rf
  have hl := lv_entry ([.ref pm, .int q1, .int q2, .int q3]) (n := 4) (Nat.le_of_ble_eq_true rfl)
  rw [lg_entry_eq]
  generalize (lg_sl ([.ref pm, .int q1, .int q2, .int q3]) ++ List.replicate (4 - (lg_sl ([.ref pm, .int q1, .int q2, .int q3])).length) Slot.unset).toArray = ls at hl ⊢
  have hl : lv_has ls 4 [(0, .ref pm), (1, .int q1), (2, .int q2), (3, .int q3)] := hl
  obtain ⟨H, hH⟩ : ∃ H, H = s.heap := ⟨_, rfl⟩
  rw [← hH] at hP
  have hS : va_S A s.heap H [] := by rw [hH]; exact hS
  refine gx_start hH ?_
  refine lv_aload_n hx hb d_Model_bin_0 rfl (lv_at hl 0 rfl) ?_
  refine gx_join 34 [.int (pb_b (pb_has 3 q1 ∧ pb_has 3 q2 ∧ ¬ q3 < 0 ∧ ¬ 16 ≤ q3)), .ref pm] (fun H locs => va_P (dC, dI) classes [(pm, .inr (9, [.double side, .double cut, .double skin, .double heat, .ref pX, .ref pY, .ref pU, .ref pV, .ref pM, .ref pS, .ref pK, .ref pW, .ref pD, .ref pC, .int (nI n), .int (nI nb), .int (nI nr), .ref pBI, .ref pBJ, .ref pRI, .ref pRJ, .ref pBK, .ref pBL, .ref pRL, .ref pLX, .ref pLY, .int isT, .ref pOX, .ref pOY, .ref pOU, .ref pOV, .ref pNX, .ref pNY, .ref pFX, .ref pFY, .ref pBN, .int stn, .int tm, .int rd, .int tk, .int ov1, .int st1, .int bl1, .int thw, .int cg, .double qa, .double qb, .double qr])), (pBN, .inl (cI, 144, .inl bn))] H ∧ va_D A [(pm, .inr (9, [.double side, .double cut, .double skin, .double heat, .ref pX, .ref pY, .ref pU, .ref pV, .ref pM, .ref pS, .ref pK, .ref pW, .ref pD, .ref pC, .int (nI n), .int (nI nb), .int (nI nr), .ref pBI, .ref pBJ, .ref pRI, .ref pRJ, .ref pBK, .ref pBL, .ref pRL, .ref pLX, .ref pLY, .int isT, .ref pOX, .ref pOY, .ref pOU, .ref pOV, .ref pNX, .ref pNY, .ref pFX, .ref pFY, .ref pBN, .int stn, .int tm, .int rd, .int tk, .int ov1, .int st1, .int bl1, .int thw, .int cg, .double qa, .double qb, .double qr])), (pBN, .inl (cI, 144, .inl bn))] ∧ va_S A s.heap H locs) (fun H locs hI9 => ?_) (fun J1 => ?_)
  · skip
    obtain ⟨hP, hD, hS⟩ := hI9
    refine gx_Vi (st0 := [.int (pb_b (pb_has 3 q1 ∧ pb_has 3 q2 ∧ ¬ q3 < 0 ∧ ¬ 16 ≤ q3)), .ref pm]) (As := [.int (pb_b (pb_has 3 q1 ∧ pb_has 3 q2 ∧ ¬ q3 < 0 ∧ ¬ 16 ≤ q3))]) (rest := []) (wr := [(pBN, .inl (cI, 144, .inl bn))]) ⟨hx, hb, hml, hown, hts⟩ hN hK hP hD hS hA [0] [1] rfl rfl (by decide) (c_Model_bad l dC dI cI cD cZ H.size pm pX pY pU pV pM pS pK pW pD pC pBI pBJ pRI pRJ pBK pBL pRL pLX pLY pOX pOY pOU pOV pNX pNY pFX pFY pBN side cut skin heat n nb nr isT stn tm rd tk ov1 st1 bl1 thw cg qa qb qr (pb_b (pb_has 3 q1 ∧ pb_has 3 q2 ∧ ¬ q3 < 0 ∧ ¬ 16 ≤ q3))) (cwV 1 hts (gx_gV kw_1001 kw_1003 kw_21 kw_54 kw_1004) rfl rfl rfl (by decide +kernel) ⟨Nat.le_of_ble_eq_true rfl, Nat.le_of_ble_eq_true rfl⟩) 0 9 rfl rfl rfl hl.1 rfl (Nat.le_of_ble_eq_true rfl) d_Model_bin_34 ⟨Nat.le_of_ble_eq_true rfl, Nat.le_of_ble_eq_true rfl⟩ (fun r_1 u_2 H locs hw34 hP hD hS => ?_)
    try dsimp only at hw34 hP hD
    have hP : va_P (dC, dI) classes [(pBN, .inl (cI, 144, .inl bn)), (pm, .inr (9, [.double side, .double cut, .double skin, .double heat, .ref pX, .ref pY, .ref pU, .ref pV, .ref pM, .ref pS, .ref pK, .ref pW, .ref pD, .ref pC, .int (nI n), .int (nI nb), .int (nI nr), .ref pBI, .ref pBJ, .ref pRI, .ref pRJ, .ref pBK, .ref pBL, .ref pRL, .ref pLX, .ref pLY, .int isT, .ref pOX, .ref pOY, .ref pOU, .ref pOV, .ref pNX, .ref pNY, .ref pFX, .ref pFY, .ref pBN, .int stn, .int tm, .int rd, .int tk, .int ov1, .int st1, .int bl1, .int (pb_b ((pb_b (pb_has 3 q1 ∧ pb_has 3 q2 ∧ ¬ q3 < 0 ∧ ¬ 16 ≤ q3)) = 0)), .int cg, .double qa, .double qb, .double qr]))] H := hP
    have hD : va_D A [(pBN, .inl (cI, 144, .inl bn)), (pm, .inr (9, [.double side, .double cut, .double skin, .double heat, .ref pX, .ref pY, .ref pU, .ref pV, .ref pM, .ref pS, .ref pK, .ref pW, .ref pD, .ref pC, .int (nI n), .int (nI nb), .int (nI nr), .ref pBI, .ref pBJ, .ref pRI, .ref pRJ, .ref pBK, .ref pBL, .ref pRL, .ref pLX, .ref pLY, .int isT, .ref pOX, .ref pOY, .ref pOU, .ref pOV, .ref pNX, .ref pNY, .ref pFX, .ref pFY, .ref pBN, .int stn, .int tm, .int rd, .int tk, .int ov1, .int st1, .int bl1, .int (pb_b ((pb_b (pb_has 3 q1 ∧ pb_has 3 q2 ∧ ¬ q3 < 0 ∧ ¬ 16 ≤ q3)) = 0)), .int cg, .double qa, .double qb, .double qr]))] := hD
    obtain rfl : r_1 = pb_b ((pb_b (pb_has 3 q1 ∧ pb_has 3 q2 ∧ ¬ q3 < 0 ∧ ¬ 16 ≤ q3)) = 0) := hw34
    have et9 : pb_b ((pb_b (pb_has 3 q1 ∧ pb_has 3 q2 ∧ ¬ q3 < 0 ∧ ¬ 16 ≤ q3)) = 0) = 1 := pb_b_t (pb_b_f hbd)
    have h9 := hP
    have h8 := hD
    rw [et9] at h9 h8
    have hP : va_P (dC, dI) classes [(pBN, .inl (cI, 144, .inl bn)), (pm, .inr (9, [.double side, .double cut, .double skin, .double heat, .ref pX, .ref pY, .ref pU, .ref pV, .ref pM, .ref pS, .ref pK, .ref pW, .ref pD, .ref pC, .int (nI n), .int (nI nb), .int (nI nr), .ref pBI, .ref pBJ, .ref pRI, .ref pRJ, .ref pBK, .ref pBL, .ref pRL, .ref pLX, .ref pLY, .int isT, .ref pOX, .ref pOY, .ref pOU, .ref pOV, .ref pNX, .ref pNY, .ref pFX, .ref pFY, .ref pBN, .int stn, .int tm, .int rd, .int tk, .int ov1, .int st1, .int bl1, .int 1, .int cg, .double qa, .double qb, .double qr]))] H := h9
    have hD : va_D A [(pBN, .inl (cI, 144, .inl bn)), (pm, .inr (9, [.double side, .double cut, .double skin, .double heat, .ref pX, .ref pY, .ref pU, .ref pV, .ref pM, .ref pS, .ref pK, .ref pW, .ref pD, .ref pC, .int (nI n), .int (nI nb), .int (nI nr), .ref pBI, .ref pBJ, .ref pRI, .ref pRJ, .ref pBK, .ref pBL, .ref pRL, .ref pLX, .ref pLY, .int isT, .ref pOX, .ref pOY, .ref pOU, .ref pOV, .ref pNX, .ref pNY, .ref pFX, .ref pFY, .ref pBN, .int stn, .int tm, .int rd, .int tk, .int ov1, .int st1, .int bl1, .int 1, .int cg, .double qa, .double qb, .double qr]))] := h8
    refine lv_if_eq (tgt := 42) hx hb d_Model_bin_37 (by decide) (fun c37 => ?_) (fun c37 => ?_)
    · skip
      exact absurd c37 (by rw [et9]; decide)
    · skip
      refine lv_iconst (v := 0) hx hb d_Model_bin_40 (by decide) ?_
      have hP9 := hP.sub (ws' := [(pm, .inr (9, [.double side, .double cut, .double skin, .double heat, .ref pX, .ref pY, .ref pU, .ref pV, .ref pM, .ref pS, .ref pK, .ref pW, .ref pD, .ref pC, .int (nI n), .int (nI nb), .int (nI nr), .ref pBI, .ref pBJ, .ref pRI, .ref pRJ, .ref pBK, .ref pBL, .ref pRL, .ref pLX, .ref pLY, .int isT, .ref pOX, .ref pOY, .ref pOU, .ref pOV, .ref pNX, .ref pNY, .ref pFX, .ref pFY, .ref pBN, .int stn, .int tm, .int rd, .int tk, .int ov1, .int st1, .int bl1, .int 1, .int cg, .double qa, .double qb, .double qr])), (pBN, .inl (cI, 144, .inl bn))]) [1, 0] rfl
      have hD9 := hD.sub (ws' := [(pm, .inr (9, [.double side, .double cut, .double skin, .double heat, .ref pX, .ref pY, .ref pU, .ref pV, .ref pM, .ref pS, .ref pK, .ref pW, .ref pD, .ref pC, .int (nI n), .int (nI nb), .int (nI nr), .ref pBI, .ref pBJ, .ref pRI, .ref pRJ, .ref pBK, .ref pBL, .ref pRL, .ref pLX, .ref pLY, .int isT, .ref pOX, .ref pOY, .ref pOU, .ref pOV, .ref pNX, .ref pNY, .ref pFX, .ref pFY, .ref pBN, .int stn, .int tm, .int rd, .int tk, .int ov1, .int st1, .int bl1, .int 1, .int cg, .double qa, .double qb, .double qr])), (pBN, .inl (cI, 144, .inl bn))]) [1, 0] (by decide) rfl
      exact W.iret (v := 0) hx hb hr (fun tt9 ht9 hW9 => ⟨⟨0, (), rfl, trivial, by rw [ht9]; exact hP9, va_K.moved hW9.alike hK, hD9⟩, hS.F ht9⟩) hS.2.2 d_Model_bin_41
  · skip
    refine lv_iload_n hx hb d_Model_bin_1 rfl (lv_at hl 1 rfl) ?_
    refine lv_if_lt (tgt := 33) hx hb d_Model_bin_2 (by decide) (fun c2 => ?_) (fun c2 => ?_)
    · skip
      refine lv_iconst (v := 0) hx hb d_Model_bin_33 (by decide) ?_
      refine W.eq (g2 := F0 m 34 ls [.int (pb_b (pb_has 3 q1 ∧ pb_has 3 q2 ∧ ¬ q3 < 0 ∧ ¬ 16 ≤ q3)), .ref pm]) (congrArg (fun zz9 => F0 m 34 ls (.int zz9 :: [.ref pm])) ((pb_b_f (fun hg9 => hg9.1.1 c2)).symm)) ?_
      exact J1 _ _ ⟨hP.sub [0, 1] rfl, hD.sub [0, 1] (by decide) rfl, hS⟩
    · skip
      refine lv_iload_n hx hb d_Model_bin_5 rfl (lv_at hl 1 rfl) ?_
      refine lv_iconst (v := nI 3) hx hb d_Model_bin_6 (by decide) ?_
      refine lv_icmp_ge (tgt := 33) hx hb d_Model_bin_7 (by decide) (fun c7 => ?_) (fun c7 => ?_)
      · skip
        refine lv_iconst (v := 0) hx hb d_Model_bin_33 (by decide) ?_
        refine W.eq (g2 := F0 m 34 ls [.int (pb_b (pb_has 3 q1 ∧ pb_has 3 q2 ∧ ¬ q3 < 0 ∧ ¬ 16 ≤ q3)), .ref pm]) (congrArg (fun zz9 => F0 m 34 ls (.int zz9 :: [.ref pm])) ((pb_b_f (fun hg9 => hg9.1.2 c7)).symm)) ?_
        exact J1 _ _ ⟨hP.sub [0, 1] rfl, hD.sub [0, 1] (by decide) rfl, hS⟩
      · skip
        refine lv_iload_n hx hb d_Model_bin_10 rfl (lv_at hl 2 rfl) ?_
        refine lv_if_lt (tgt := 33) hx hb d_Model_bin_11 (by decide) (fun c11 => ?_) (fun c11 => ?_)
        · skip
          refine lv_iconst (v := 0) hx hb d_Model_bin_33 (by decide) ?_
          refine W.eq (g2 := F0 m 34 ls [.int (pb_b (pb_has 3 q1 ∧ pb_has 3 q2 ∧ ¬ q3 < 0 ∧ ¬ 16 ≤ q3)), .ref pm]) (congrArg (fun zz9 => F0 m 34 ls (.int zz9 :: [.ref pm])) ((pb_b_f (fun hg9 => hg9.2.1.1 c11)).symm)) ?_
          exact J1 _ _ ⟨hP.sub [0, 1] rfl, hD.sub [0, 1] (by decide) rfl, hS⟩
        · skip
          refine lv_iload_n hx hb d_Model_bin_14 rfl (lv_at hl 2 rfl) ?_
          refine lv_iconst (v := nI 3) hx hb d_Model_bin_15 (by decide) ?_
          refine lv_icmp_ge (tgt := 33) hx hb d_Model_bin_16 (by decide) (fun c16 => ?_) (fun c16 => ?_)
          · skip
            refine lv_iconst (v := 0) hx hb d_Model_bin_33 (by decide) ?_
            refine W.eq (g2 := F0 m 34 ls [.int (pb_b (pb_has 3 q1 ∧ pb_has 3 q2 ∧ ¬ q3 < 0 ∧ ¬ 16 ≤ q3)), .ref pm]) (congrArg (fun zz9 => F0 m 34 ls (.int zz9 :: [.ref pm])) ((pb_b_f (fun hg9 => hg9.2.1.2 c16)).symm)) ?_
            exact J1 _ _ ⟨hP.sub [0, 1] rfl, hD.sub [0, 1] (by decide) rfl, hS⟩
          · skip
            refine lv_iload_n hx hb d_Model_bin_19 rfl (lv_at hl 3 rfl) ?_
            refine lv_if_lt (tgt := 33) hx hb d_Model_bin_20 (by decide) (fun c20 => ?_) (fun c20 => ?_)
            · skip
              refine lv_iconst (v := 0) hx hb d_Model_bin_33 (by decide) ?_
              refine W.eq (g2 := F0 m 34 ls [.int (pb_b (pb_has 3 q1 ∧ pb_has 3 q2 ∧ ¬ q3 < 0 ∧ ¬ 16 ≤ q3)), .ref pm]) (congrArg (fun zz9 => F0 m 34 ls (.int zz9 :: [.ref pm])) ((pb_b_f (fun hg9 => hg9.2.2.1 c20)).symm)) ?_
              exact J1 _ _ ⟨hP.sub [0, 1] rfl, hD.sub [0, 1] (by decide) rfl, hS⟩
            · skip
              refine lv_iload_n hx hb d_Model_bin_23 rfl (lv_at hl 3 rfl) ?_
              refine lv_bipush (v := 16) hx hb d_Model_bin_24 (by decide) ?_
              refine lv_icmp_ge (tgt := 33) hx hb d_Model_bin_26 (by decide) (fun c26 => ?_) (fun c26 => ?_)
              · skip
                refine lv_iconst (v := 0) hx hb d_Model_bin_33 (by decide) ?_
                refine W.eq (g2 := F0 m 34 ls [.int (pb_b (pb_has 3 q1 ∧ pb_has 3 q2 ∧ ¬ q3 < 0 ∧ ¬ 16 ≤ q3)), .ref pm]) (congrArg (fun zz9 => F0 m 34 ls (.int zz9 :: [.ref pm])) ((pb_b_f (fun hg9 => hg9.2.2.2 c26)).symm)) ?_
                exact J1 _ _ ⟨hP.sub [0, 1] rfl, hD.sub [0, 1] (by decide) rfl, hS⟩
              · skip
                refine lv_iconst (v := 1) hx hb d_Model_bin_29 (by decide) ?_
                refine lv_goto (tgt := 34) hx hb d_Model_bin_30 (by decide) ?_
                refine W.eq (g2 := F0 m 34 ls [.int (pb_b (pb_has 3 q1 ∧ pb_has 3 q2 ∧ ¬ q3 < 0 ∧ ¬ 16 ≤ q3)), .ref pm]) (congrArg (fun zz9 => F0 m 34 ls (.int zz9 :: [.ref pm])) ((pb_b_t ⟨⟨c2, c7⟩, ⟨c11, c16⟩, c20, c26⟩).symm)) ?_
                exact J1 _ _ ⟨hP.sub [0, 1] rfl, hD.sub [0, 1] (by decide) rfl, hS⟩
set_option maxHeartbeats 4000000 in
set_option maxRecDepth 100000 in
theorem c_Model_bin_ok (l : Launch) (dC : Nat → ClassId) (dI : Nat → Nat → Nat) (cI cD cZ : ClassId) (sz : Nat) (pm : Nat) (pX : Nat) (pY : Nat) (pU : Nat) (pV : Nat) (pM : Nat) (pS : Nat) (pK : Nat) (pW : Nat) (pD : Nat) (pC : Nat) (pBI : Nat) (pBJ : Nat) (pRI : Nat) (pRJ : Nat) (pBK : Nat) (pBL : Nat) (pRL : Nat) (pLX : Nat) (pLY : Nat) (pOX : Nat) (pOY : Nat) (pOU : Nat) (pOV : Nat) (pNX : Nat) (pNY : Nat) (pFX : Nat) (pFY : Nat) (pBN : Nat) (side : UInt64) (cut : UInt64) (skin : UInt64) (heat : UInt64) (n : Nat) (nb : Nat) (nr : Nat) (isT : Int32) (stn : Int32) (tm : Int32) (rd : Int32) (tk : Int32) (ov1 : Int32) (st1 : Int32) (bl1 : Int32) (thw : Int32) (cg : Int32) (qa : UInt64) (qb : UInt64) (qr : UInt64) (bn : Nat → Int32) (q1 : Int32) (q2 : Int32) (q3 : Int32) (a : Nat) (b : Nat) (kk : Nat) (ha3 : a < 3) (hb3 : b < 3) (hk9 : kk < 16) (hqa : q1 = nI a) (hqb : q2 = nI b) (hqk : q3 = nI kk) (hgd : (pb_has 3 q1 ∧ pb_has 3 q2 ∧ ¬ q3 < 0 ∧ ¬ 16 ≤ q3)) : Met l y_Model_bin w_Model_bin ({ frames := 1, cells := 0, slots := 0, locals := 21 }) (va_Pc [.ref pm, .int q1, .int q2, .int q3] (gx_B (dC, dI) classes (gx_T cI cD cZ) [(pm, .inr (9, [.double side, .double cut, .double skin, .double heat, .ref pX, .ref pY, .ref pU, .ref pV, .ref pM, .ref pS, .ref pK, .ref pW, .ref pD, .ref pC, .int (nI n), .int (nI nb), .int (nI nr), .ref pBI, .ref pBJ, .ref pRI, .ref pRJ, .ref pBK, .ref pBL, .ref pRL, .ref pLX, .ref pLY, .int isT, .ref pOX, .ref pOY, .ref pOU, .ref pOV, .ref pNX, .ref pNY, .ref pFX, .ref pFY, .ref pBN, .int stn, .int tm, .int rd, .int tk, .int ov1, .int st1, .int bl1, .int thw, .int cg, .double qa, .double qb, .double qr])), (pBN, .inl (cI, 144, .inl bn))] sz)) (va_Qi (fun (rr : Int32) (uu : Unit) => rr = bn (pb_slot a b kk)) (fun (uu : Unit) t => gx_E (dC, dI) classes (gx_T cI cD cZ) (va_A [(pm, .inr (9, [.double side, .double cut, .double skin, .double heat, .ref pX, .ref pY, .ref pU, .ref pV, .ref pM, .ref pS, .ref pK, .ref pW, .ref pD, .ref pC, .int (nI n), .int (nI nb), .int (nI nr), .ref pBI, .ref pBJ, .ref pRI, .ref pRJ, .ref pBK, .ref pBL, .ref pRL, .ref pLX, .ref pLY, .int isT, .ref pOX, .ref pOY, .ref pOU, .ref pOV, .ref pNX, .ref pNY, .ref pFX, .ref pFY, .ref pBN, .int stn, .int tm, .int rd, .int tk, .int ov1, .int st1, .int bl1, .int thw, .int cg, .double qa, .double qb, .double qr])), (pBN, .inl (cI, 144, .inl bn))] sz) [(pm, .inr (9, [.double side, .double cut, .double skin, .double heat, .ref pX, .ref pY, .ref pU, .ref pV, .ref pM, .ref pS, .ref pK, .ref pW, .ref pD, .ref pC, .int (nI n), .int (nI nb), .int (nI nr), .ref pBI, .ref pBJ, .ref pRI, .ref pRJ, .ref pBK, .ref pBL, .ref pRL, .ref pLX, .ref pLY, .int isT, .ref pOX, .ref pOY, .ref pOU, .ref pOV, .ref pNX, .ref pNY, .ref pFX, .ref pFY, .ref pBN, .int stn, .int tm, .int rd, .int tk, .int ov1, .int st1, .int bl1, .int 0, .int cg, .double qa, .double qb, .double qr])), (pBN, .inl (cI, 144, .inl bn))] t) (va_A [(pm, .inr (9, [.double side, .double cut, .double skin, .double heat, .ref pX, .ref pY, .ref pU, .ref pV, .ref pM, .ref pS, .ref pK, .ref pW, .ref pD, .ref pC, .int (nI n), .int (nI nb), .int (nI nr), .ref pBI, .ref pBJ, .ref pRI, .ref pRJ, .ref pBK, .ref pBL, .ref pRL, .ref pLX, .ref pLY, .int isT, .ref pOX, .ref pOY, .ref pOU, .ref pOV, .ref pNX, .ref pNY, .ref pFX, .ref pFY, .ref pBN, .int stn, .int tm, .int rd, .int tk, .int ov1, .int st1, .int bl1, .int thw, .int cg, .double qa, .double qb, .double qr])), (pBN, .inl (cI, 144, .inl bn))] sz)) 0 0 (va_A [(pm, .inr (9, [.double side, .double cut, .double skin, .double heat, .ref pX, .ref pY, .ref pU, .ref pV, .ref pM, .ref pS, .ref pK, .ref pW, .ref pD, .ref pC, .int (nI n), .int (nI nb), .int (nI nr), .ref pBI, .ref pBJ, .ref pRI, .ref pRJ, .ref pBK, .ref pBL, .ref pRL, .ref pLX, .ref pLY, .int isT, .ref pOX, .ref pOY, .ref pOU, .ref pOV, .ref pNX, .ref pNY, .ref pFX, .ref pFY, .ref pBN, .int stn, .int tm, .int rd, .int tk, .int ov1, .int st1, .int bl1, .int thw, .int cg, .double qa, .double qb, .double qr])), (pBN, .inl (cI, 144, .inl bn))] sz) := by
  refine Met.ofW (cc := b_Model_bin) (maxL := 4) (ret := (some .int)) (by decide) rfl ?_
  intro p e s m args below meth c s₁ B hml hv
  obtain ⟨rfl, hsz, hP, hK, hD0, hN⟩ := hv
  have hx := B.exec
  have hb := B.bytes
  have hr := B.returns
  have hts := atoms_spec (ws := w_Model_bin) B.pre
  have hown : s.vm.findClass R_Model = some m.cls := findClass_of_methodNamed B.named
  have hlocks := B.notSynchronized
  subst hsz
  have hD := hD0.self (sz := s.heap.size)
  generalize hAe : va_A [(pm, .inr (9, [.double side, .double cut, .double skin, .double heat, .ref pX, .ref pY, .ref pU, .ref pV, .ref pM, .ref pS, .ref pK, .ref pW, .ref pD, .ref pC, .int (nI n), .int (nI nb), .int (nI nr), .ref pBI, .ref pBJ, .ref pRI, .ref pRJ, .ref pBK, .ref pBL, .ref pRL, .ref pLX, .ref pLY, .int isT, .ref pOX, .ref pOY, .ref pOU, .ref pOV, .ref pNX, .ref pNY, .ref pFX, .ref pFY, .ref pBN, .int stn, .int tm, .int rd, .int tk, .int ov1, .int st1, .int bl1, .int thw, .int cg, .double qa, .double qb, .double qr])), (pBN, .inl (cI, 144, .inl bn))] s.heap.size = A at hD ⊢
  have hA : ∀ q : Nat, s.heap.size ≤ q → A q := fun q h => by rw [← hAe]; exact Or.inr h
  have hS : va_S A s.heap s.heap [] := va_S.rf
  have hl := lv_entry ([.ref pm, .int q1, .int q2, .int q3]) (n := 4) (Nat.le_of_ble_eq_true rfl)
  rw [lg_entry_eq]
  generalize (lg_sl ([.ref pm, .int q1, .int q2, .int q3]) ++ List.replicate (4 - (lg_sl ([.ref pm, .int q1, .int q2, .int q3])).length) Slot.unset).toArray = ls at hl ⊢
  have hl : lv_has ls 4 [(0, .ref pm), (1, .int q1), (2, .int q2), (3, .int q3)] := hl
  obtain ⟨H, hH⟩ : ∃ H, H = s.heap := ⟨_, rfl⟩
  rw [← hH] at hP
  have hS : va_S A s.heap H [] := by rw [hH]; exact hS
  refine gx_start hH ?_
  refine lv_aload_n hx hb d_Model_bin_0 rfl (lv_at hl 0 rfl) ?_
  refine gx_join 34 [.int (pb_b (pb_has 3 q1 ∧ pb_has 3 q2 ∧ ¬ q3 < 0 ∧ ¬ 16 ≤ q3)), .ref pm] (fun H locs => va_P (dC, dI) classes [(pm, .inr (9, [.double side, .double cut, .double skin, .double heat, .ref pX, .ref pY, .ref pU, .ref pV, .ref pM, .ref pS, .ref pK, .ref pW, .ref pD, .ref pC, .int (nI n), .int (nI nb), .int (nI nr), .ref pBI, .ref pBJ, .ref pRI, .ref pRJ, .ref pBK, .ref pBL, .ref pRL, .ref pLX, .ref pLY, .int isT, .ref pOX, .ref pOY, .ref pOU, .ref pOV, .ref pNX, .ref pNY, .ref pFX, .ref pFY, .ref pBN, .int stn, .int tm, .int rd, .int tk, .int ov1, .int st1, .int bl1, .int thw, .int cg, .double qa, .double qb, .double qr])), (pBN, .inl (cI, 144, .inl bn))] H ∧ va_D A [(pm, .inr (9, [.double side, .double cut, .double skin, .double heat, .ref pX, .ref pY, .ref pU, .ref pV, .ref pM, .ref pS, .ref pK, .ref pW, .ref pD, .ref pC, .int (nI n), .int (nI nb), .int (nI nr), .ref pBI, .ref pBJ, .ref pRI, .ref pRJ, .ref pBK, .ref pBL, .ref pRL, .ref pLX, .ref pLY, .int isT, .ref pOX, .ref pOY, .ref pOU, .ref pOV, .ref pNX, .ref pNY, .ref pFX, .ref pFY, .ref pBN, .int stn, .int tm, .int rd, .int tk, .int ov1, .int st1, .int bl1, .int thw, .int cg, .double qa, .double qb, .double qr])), (pBN, .inl (cI, 144, .inl bn))] ∧ va_S A s.heap H locs) (fun H locs hI9 => ?_) (fun J1 => ?_)
  · skip
    obtain ⟨hP, hD, hS⟩ := hI9
    refine gx_Vi (st0 := [.int (pb_b (pb_has 3 q1 ∧ pb_has 3 q2 ∧ ¬ q3 < 0 ∧ ¬ 16 ≤ q3)), .ref pm]) (As := [.int (pb_b (pb_has 3 q1 ∧ pb_has 3 q2 ∧ ¬ q3 < 0 ∧ ¬ 16 ≤ q3))]) (rest := []) (wr := [(pBN, .inl (cI, 144, .inl bn))]) ⟨hx, hb, hml, hown, hts⟩ hN hK hP hD hS hA [0] [1] rfl rfl (by decide) (c_Model_bad l dC dI cI cD cZ H.size pm pX pY pU pV pM pS pK pW pD pC pBI pBJ pRI pRJ pBK pBL pRL pLX pLY pOX pOY pOU pOV pNX pNY pFX pFY pBN side cut skin heat n nb nr isT stn tm rd tk ov1 st1 bl1 thw cg qa qb qr (pb_b (pb_has 3 q1 ∧ pb_has 3 q2 ∧ ¬ q3 < 0 ∧ ¬ 16 ≤ q3))) (cwV 1 hts (gx_gV kw_1001 kw_1003 kw_21 kw_54 kw_1004) rfl rfl rfl (by decide +kernel) ⟨Nat.le_of_ble_eq_true rfl, Nat.le_of_ble_eq_true rfl⟩) 0 9 rfl rfl rfl hl.1 rfl (Nat.le_of_ble_eq_true rfl) d_Model_bin_34 ⟨Nat.le_of_ble_eq_true rfl, Nat.le_of_ble_eq_true rfl⟩ (fun r_1 u_2 H locs hw34 hP hD hS => ?_)
    try dsimp only at hw34 hP hD
    have hP : va_P (dC, dI) classes [(pBN, .inl (cI, 144, .inl bn)), (pm, .inr (9, [.double side, .double cut, .double skin, .double heat, .ref pX, .ref pY, .ref pU, .ref pV, .ref pM, .ref pS, .ref pK, .ref pW, .ref pD, .ref pC, .int (nI n), .int (nI nb), .int (nI nr), .ref pBI, .ref pBJ, .ref pRI, .ref pRJ, .ref pBK, .ref pBL, .ref pRL, .ref pLX, .ref pLY, .int isT, .ref pOX, .ref pOY, .ref pOU, .ref pOV, .ref pNX, .ref pNY, .ref pFX, .ref pFY, .ref pBN, .int stn, .int tm, .int rd, .int tk, .int ov1, .int st1, .int bl1, .int (pb_b ((pb_b (pb_has 3 q1 ∧ pb_has 3 q2 ∧ ¬ q3 < 0 ∧ ¬ 16 ≤ q3)) = 0)), .int cg, .double qa, .double qb, .double qr]))] H := hP
    have hD : va_D A [(pBN, .inl (cI, 144, .inl bn)), (pm, .inr (9, [.double side, .double cut, .double skin, .double heat, .ref pX, .ref pY, .ref pU, .ref pV, .ref pM, .ref pS, .ref pK, .ref pW, .ref pD, .ref pC, .int (nI n), .int (nI nb), .int (nI nr), .ref pBI, .ref pBJ, .ref pRI, .ref pRJ, .ref pBK, .ref pBL, .ref pRL, .ref pLX, .ref pLY, .int isT, .ref pOX, .ref pOY, .ref pOU, .ref pOV, .ref pNX, .ref pNY, .ref pFX, .ref pFY, .ref pBN, .int stn, .int tm, .int rd, .int tk, .int ov1, .int st1, .int bl1, .int (pb_b ((pb_b (pb_has 3 q1 ∧ pb_has 3 q2 ∧ ¬ q3 < 0 ∧ ¬ 16 ≤ q3)) = 0)), .int cg, .double qa, .double qb, .double qr]))] := hD
    obtain rfl : r_1 = pb_b ((pb_b (pb_has 3 q1 ∧ pb_has 3 q2 ∧ ¬ q3 < 0 ∧ ¬ 16 ≤ q3)) = 0) := hw34
    subst hqa
    subst hqb
    subst hqk
    have et9 : pb_b ((pb_b (pb_has 3 (nI a) ∧ pb_has 3 (nI b) ∧ ¬ (nI kk) < 0 ∧ ¬ 16 ≤ (nI kk))) = 0) = 0 := pb_b_f (fun q9 => pb_b_0.mp q9 hgd)
    have h9 := hP
    have h8 := hD
    rw [et9] at h9 h8
    have hP : va_P (dC, dI) classes [(pBN, .inl (cI, 144, .inl bn)), (pm, .inr (9, [.double side, .double cut, .double skin, .double heat, .ref pX, .ref pY, .ref pU, .ref pV, .ref pM, .ref pS, .ref pK, .ref pW, .ref pD, .ref pC, .int (nI n), .int (nI nb), .int (nI nr), .ref pBI, .ref pBJ, .ref pRI, .ref pRJ, .ref pBK, .ref pBL, .ref pRL, .ref pLX, .ref pLY, .int isT, .ref pOX, .ref pOY, .ref pOU, .ref pOV, .ref pNX, .ref pNY, .ref pFX, .ref pFY, .ref pBN, .int stn, .int tm, .int rd, .int tk, .int ov1, .int st1, .int bl1, .int 0, .int cg, .double qa, .double qb, .double qr]))] H := h9
    have hD : va_D A [(pBN, .inl (cI, 144, .inl bn)), (pm, .inr (9, [.double side, .double cut, .double skin, .double heat, .ref pX, .ref pY, .ref pU, .ref pV, .ref pM, .ref pS, .ref pK, .ref pW, .ref pD, .ref pC, .int (nI n), .int (nI nb), .int (nI nr), .ref pBI, .ref pBJ, .ref pRI, .ref pRJ, .ref pBK, .ref pBL, .ref pRL, .ref pLX, .ref pLY, .int isT, .ref pOX, .ref pOY, .ref pOU, .ref pOV, .ref pNX, .ref pNY, .ref pFX, .ref pFY, .ref pBN, .int stn, .int tm, .int rd, .int tk, .int ov1, .int st1, .int bl1, .int 0, .int cg, .double qa, .double qb, .double qr]))] := h8
    refine lv_if_eq (tgt := 42) hx hb d_Model_bin_37 (by decide) (fun c37 => ?_) (fun c37 => ?_)
    · skip
      refine lv_aload_n hx hb d_Model_bin_42 rfl (lv_at hl 0 rfl) ?_
      refine va_get (D := (dC, dI)) (ci := 9) (v := .ref pBN) (C := R_Model) (T := F_Model) (N := 48) hx hb hts (fun w h => List.mem_cons_of_mem _ (i_Model w h)) hown hK hP 1 rfl rfl 35 (by decide) (hts _ (List.mem_cons_of_mem _ kw_876)) (fun _ h9 => h9) rfl d_Model_bin_43 ?_
      refine lv_iload_n hx hb d_Model_bin_46 rfl (lv_at hl 1 rfl) ?_
      refine lv_iload_n hx hb d_Model_bin_47 rfl (lv_at hl 2 rfl) ?_
      refine gx_Si (st0 := [.int (nI b), .int (nI a), .ref pBN]) (As := [.int (nI a), .int (nI b)]) (rest := [.ref pBN]) (wr := [(pBN, .inl (cI, 144, .inl bn)), (pm, .inr (9, [.double side, .double cut, .double skin, .double heat, .ref pX, .ref pY, .ref pU, .ref pV, .ref pM, .ref pS, .ref pK, .ref pW, .ref pD, .ref pC, .int (nI n), .int (nI nb), .int (nI nr), .ref pBI, .ref pBJ, .ref pRI, .ref pRJ, .ref pBK, .ref pBL, .ref pRL, .ref pLX, .ref pLY, .int isT, .ref pOX, .ref pOY, .ref pOU, .ref pOV, .ref pNX, .ref pNY, .ref pFX, .ref pFY, .ref pBN, .int stn, .int tm, .int rd, .int tk, .int ov1, .int st1, .int bl1, .int 0, .int cg, .double qa, .double qb, .double qr]))]) ⟨hx, hb, hml, hown, hts⟩ hN hK hP hD hS hA [] [0, 1] rfl rfl (by decide) (c_Model_classOf l dC dI cI cD cZ H.size a b (by omega) (by omega)) (va_cwS 2 hts (gx_gS kw_1168 kw_1169 kw_54 kw_1170) rfl rfl rfl (by decide +kernel) ⟨Nat.le_of_ble_eq_true rfl, Nat.le_of_ble_eq_true rfl⟩) rfl hl.1 rfl (Nat.le_of_ble_eq_true rfl) d_Model_bin_48 ⟨Nat.le_of_ble_eq_true rfl, Nat.le_of_ble_eq_true rfl⟩ (fun r_3 u_4 H locs hw48 hP hD hS => ?_)
      try dsimp only at hw48 hP hD
      have hP : va_P (dC, dI) classes [(pBN, .inl (cI, 144, .inl bn)), (pm, .inr (9, [.double side, .double cut, .double skin, .double heat, .ref pX, .ref pY, .ref pU, .ref pV, .ref pM, .ref pS, .ref pK, .ref pW, .ref pD, .ref pC, .int (nI n), .int (nI nb), .int (nI nr), .ref pBI, .ref pBJ, .ref pRI, .ref pRJ, .ref pBK, .ref pBL, .ref pRL, .ref pLX, .ref pLY, .int isT, .ref pOX, .ref pOY, .ref pOU, .ref pOV, .ref pNX, .ref pNY, .ref pFX, .ref pFY, .ref pBN, .int stn, .int tm, .int rd, .int tk, .int ov1, .int st1, .int bl1, .int 0, .int cg, .double qa, .double qb, .double qr]))] H := hP
      have hD : va_D A [(pBN, .inl (cI, 144, .inl bn)), (pm, .inr (9, [.double side, .double cut, .double skin, .double heat, .ref pX, .ref pY, .ref pU, .ref pV, .ref pM, .ref pS, .ref pK, .ref pW, .ref pD, .ref pC, .int (nI n), .int (nI nb), .int (nI nr), .ref pBI, .ref pBJ, .ref pRI, .ref pRJ, .ref pBK, .ref pBL, .ref pRL, .ref pLX, .ref pLY, .int isT, .ref pOX, .ref pOY, .ref pOU, .ref pOV, .ref pNX, .ref pNY, .ref pFX, .ref pFY, .ref pBN, .int stn, .int tm, .int rd, .int tk, .int ov1, .int st1, .int bl1, .int 0, .int cg, .double qa, .double qb, .double qr]))] := hD
      obtain rfl : r_3 = nI (min a b * 3 + max a b) := hw48
      refine lv_bipush (v := nI 16) hx hb d_Model_bin_51 (by decide) ?_
      refine lv_imul hx hb d_Model_bin_53 ?_
      rw [nI_mul]
      refine lv_iload_n hx hb d_Model_bin_54 rfl (lv_at hl 3 rfl) ?_
      refine lv_iadd hx hb d_Model_bin_55 ?_
      rw [nI_add]
      have hsl := pb_slot_lt ha3 hb3 hk9
      refine lv_topi (fun av eav => ?_)
      obtain rfl : av = nI (pb_slot a b kk) := eav
      refine gx_iald hx hb hK hP 0 0 rfl rfl (by omega) (by decide) d_Model_bin_56 ?_
      have hP9 := hP.sub (ws' := [(pm, .inr (9, [.double side, .double cut, .double skin, .double heat, .ref pX, .ref pY, .ref pU, .ref pV, .ref pM, .ref pS, .ref pK, .ref pW, .ref pD, .ref pC, .int (nI n), .int (nI nb), .int (nI nr), .ref pBI, .ref pBJ, .ref pRI, .ref pRJ, .ref pBK, .ref pBL, .ref pRL, .ref pLX, .ref pLY, .int isT, .ref pOX, .ref pOY, .ref pOU, .ref pOV, .ref pNX, .ref pNY, .ref pFX, .ref pFY, .ref pBN, .int stn, .int tm, .int rd, .int tk, .int ov1, .int st1, .int bl1, .int 0, .int cg, .double qa, .double qb, .double qr])), (pBN, .inl (cI, 144, .inl bn))]) [1, 0] rfl
      have hD9 := hD.sub (ws' := [(pm, .inr (9, [.double side, .double cut, .double skin, .double heat, .ref pX, .ref pY, .ref pU, .ref pV, .ref pM, .ref pS, .ref pK, .ref pW, .ref pD, .ref pC, .int (nI n), .int (nI nb), .int (nI nr), .ref pBI, .ref pBJ, .ref pRI, .ref pRJ, .ref pBK, .ref pBL, .ref pRL, .ref pLX, .ref pLY, .int isT, .ref pOX, .ref pOY, .ref pOU, .ref pOV, .ref pNX, .ref pNY, .ref pFX, .ref pFY, .ref pBN, .int stn, .int tm, .int rd, .int tk, .int ov1, .int st1, .int bl1, .int 0, .int cg, .double qa, .double qb, .double qr])), (pBN, .inl (cI, 144, .inl bn))]) [1, 0] (by decide) rfl
      exact W.iret (v := (bn (pb_slot a b kk))) hx hb hr (fun tt9 ht9 hW9 => ⟨⟨(bn (pb_slot a b kk)), (), rfl, rfl, by rw [ht9]; exact hP9, va_K.moved hW9.alike hK, hD9⟩, hS.F ht9⟩) hS.2.2 d_Model_bin_57
    · skip
      exact absurd et9 c37
  · skip
    refine lv_iload_n hx hb d_Model_bin_1 rfl (lv_at hl 1 rfl) ?_
    refine lv_if_lt (tgt := 33) hx hb d_Model_bin_2 (by decide) (fun c2 => ?_) (fun c2 => ?_)
    · skip
      refine lv_iconst (v := 0) hx hb d_Model_bin_33 (by decide) ?_
      refine W.eq (g2 := F0 m 34 ls [.int (pb_b (pb_has 3 q1 ∧ pb_has 3 q2 ∧ ¬ q3 < 0 ∧ ¬ 16 ≤ q3)), .ref pm]) (congrArg (fun zz9 => F0 m 34 ls (.int zz9 :: [.ref pm])) ((pb_b_f (fun hg9 => hg9.1.1 c2)).symm)) ?_
      exact J1 _ _ ⟨hP.sub [0, 1] rfl, hD.sub [0, 1] (by decide) rfl, hS⟩
    · skip
      refine lv_iload_n hx hb d_Model_bin_5 rfl (lv_at hl 1 rfl) ?_
      refine lv_iconst (v := nI 3) hx hb d_Model_bin_6 (by decide) ?_
      refine lv_icmp_ge (tgt := 33) hx hb d_Model_bin_7 (by decide) (fun c7 => ?_) (fun c7 => ?_)
      · skip
        refine lv_iconst (v := 0) hx hb d_Model_bin_33 (by decide) ?_
        refine W.eq (g2 := F0 m 34 ls [.int (pb_b (pb_has 3 q1 ∧ pb_has 3 q2 ∧ ¬ q3 < 0 ∧ ¬ 16 ≤ q3)), .ref pm]) (congrArg (fun zz9 => F0 m 34 ls (.int zz9 :: [.ref pm])) ((pb_b_f (fun hg9 => hg9.1.2 c7)).symm)) ?_
        exact J1 _ _ ⟨hP.sub [0, 1] rfl, hD.sub [0, 1] (by decide) rfl, hS⟩
      · skip
        refine lv_iload_n hx hb d_Model_bin_10 rfl (lv_at hl 2 rfl) ?_
        refine lv_if_lt (tgt := 33) hx hb d_Model_bin_11 (by decide) (fun c11 => ?_) (fun c11 => ?_)
        · skip
          refine lv_iconst (v := 0) hx hb d_Model_bin_33 (by decide) ?_
          refine W.eq (g2 := F0 m 34 ls [.int (pb_b (pb_has 3 q1 ∧ pb_has 3 q2 ∧ ¬ q3 < 0 ∧ ¬ 16 ≤ q3)), .ref pm]) (congrArg (fun zz9 => F0 m 34 ls (.int zz9 :: [.ref pm])) ((pb_b_f (fun hg9 => hg9.2.1.1 c11)).symm)) ?_
          exact J1 _ _ ⟨hP.sub [0, 1] rfl, hD.sub [0, 1] (by decide) rfl, hS⟩
        · skip
          refine lv_iload_n hx hb d_Model_bin_14 rfl (lv_at hl 2 rfl) ?_
          refine lv_iconst (v := nI 3) hx hb d_Model_bin_15 (by decide) ?_
          refine lv_icmp_ge (tgt := 33) hx hb d_Model_bin_16 (by decide) (fun c16 => ?_) (fun c16 => ?_)
          · skip
            refine lv_iconst (v := 0) hx hb d_Model_bin_33 (by decide) ?_
            refine W.eq (g2 := F0 m 34 ls [.int (pb_b (pb_has 3 q1 ∧ pb_has 3 q2 ∧ ¬ q3 < 0 ∧ ¬ 16 ≤ q3)), .ref pm]) (congrArg (fun zz9 => F0 m 34 ls (.int zz9 :: [.ref pm])) ((pb_b_f (fun hg9 => hg9.2.1.2 c16)).symm)) ?_
            exact J1 _ _ ⟨hP.sub [0, 1] rfl, hD.sub [0, 1] (by decide) rfl, hS⟩
          · skip
            refine lv_iload_n hx hb d_Model_bin_19 rfl (lv_at hl 3 rfl) ?_
            refine lv_if_lt (tgt := 33) hx hb d_Model_bin_20 (by decide) (fun c20 => ?_) (fun c20 => ?_)
            · skip
              refine lv_iconst (v := 0) hx hb d_Model_bin_33 (by decide) ?_
              refine W.eq (g2 := F0 m 34 ls [.int (pb_b (pb_has 3 q1 ∧ pb_has 3 q2 ∧ ¬ q3 < 0 ∧ ¬ 16 ≤ q3)), .ref pm]) (congrArg (fun zz9 => F0 m 34 ls (.int zz9 :: [.ref pm])) ((pb_b_f (fun hg9 => hg9.2.2.1 c20)).symm)) ?_
              exact J1 _ _ ⟨hP.sub [0, 1] rfl, hD.sub [0, 1] (by decide) rfl, hS⟩
            · skip
              refine lv_iload_n hx hb d_Model_bin_23 rfl (lv_at hl 3 rfl) ?_
              refine lv_bipush (v := 16) hx hb d_Model_bin_24 (by decide) ?_
              refine lv_icmp_ge (tgt := 33) hx hb d_Model_bin_26 (by decide) (fun c26 => ?_) (fun c26 => ?_)
              · skip
                refine lv_iconst (v := 0) hx hb d_Model_bin_33 (by decide) ?_
                refine W.eq (g2 := F0 m 34 ls [.int (pb_b (pb_has 3 q1 ∧ pb_has 3 q2 ∧ ¬ q3 < 0 ∧ ¬ 16 ≤ q3)), .ref pm]) (congrArg (fun zz9 => F0 m 34 ls (.int zz9 :: [.ref pm])) ((pb_b_f (fun hg9 => hg9.2.2.2 c26)).symm)) ?_
                exact J1 _ _ ⟨hP.sub [0, 1] rfl, hD.sub [0, 1] (by decide) rfl, hS⟩
              · skip
                refine lv_iconst (v := 1) hx hb d_Model_bin_29 (by decide) ?_
                refine lv_goto (tgt := 34) hx hb d_Model_bin_30 (by decide) ?_
                refine W.eq (g2 := F0 m 34 ls [.int (pb_b (pb_has 3 q1 ∧ pb_has 3 q2 ∧ ¬ q3 < 0 ∧ ¬ 16 ≤ q3)), .ref pm]) (congrArg (fun zz9 => F0 m 34 ls (.int zz9 :: [.ref pm])) ((pb_b_t ⟨⟨c2, c7⟩, ⟨c11, c16⟩, c20, c26⟩).symm)) ?_
                exact J1 _ _ ⟨hP.sub [0, 1] rfl, hD.sub [0, 1] (by decide) rfl, hS⟩
set_option maxHeartbeats 4000000 in
set_option maxRecDepth 100000 in
/-- count -/
theorem c_Model_count (l : Launch) (dC : Nat → ClassId) (dI : Nat → Nat → Nat) (cI cD cZ : ClassId) (sz : Nat) (pm : Nat) (pX : Nat) (pY : Nat) (pU : Nat) (pV : Nat) (pM : Nat) (pS : Nat) (pK : Nat) (pW : Nat) (pD : Nat) (pC : Nat) (pBI : Nat) (pBJ : Nat) (pRI : Nat) (pRJ : Nat) (pBK : Nat) (pBL : Nat) (pRL : Nat) (pLX : Nat) (pLY : Nat) (pOX : Nat) (pOY : Nat) (pOU : Nat) (pOV : Nat) (pNX : Nat) (pNY : Nat) (pFX : Nat) (pFY : Nat) (pBN : Nat) (side : UInt64) (cut : UInt64) (skin : UInt64) (heat : UInt64) (n : Nat) (nb : Nat) (nr : Nat) (isT : Int32) (stn : Int32) (tm : Int32) (rd : Int32) (tk : Int32) (ov1 : Int32) (st1 : Int32) (bl1 : Int32) (thw : Int32) (cg : Int32) (qa : UInt64) (qb : UInt64) (qr : UInt64) (wh : Int32) : Met l y_Model_count w_Model_count ({ frames := 0, cells := 0, slots := 0, locals := 0 }) (va_Pc [.ref pm, .int wh] (gx_B (dC, dI) classes (gx_T cI cD cZ) [(pm, .inr (9, [.double side, .double cut, .double skin, .double heat, .ref pX, .ref pY, .ref pU, .ref pV, .ref pM, .ref pS, .ref pK, .ref pW, .ref pD, .ref pC, .int (nI n), .int (nI nb), .int (nI nr), .ref pBI, .ref pBJ, .ref pRI, .ref pRJ, .ref pBK, .ref pBL, .ref pRL, .ref pLX, .ref pLY, .int isT, .ref pOX, .ref pOY, .ref pOU, .ref pOV, .ref pNX, .ref pNY, .ref pFX, .ref pFY, .ref pBN, .int stn, .int tm, .int rd, .int tk, .int ov1, .int st1, .int bl1, .int thw, .int cg, .double qa, .double qb, .double qr]))] sz)) (va_Qi (fun (rr : Int32) (uu : Unit) => rr = pb_cnt wh (nI n) (nI nb) (nI nr) stn tm rd tk ov1 st1 bl1) (fun (uu : Unit) t => gx_E (dC, dI) classes (gx_T cI cD cZ) (va_A [(pm, .inr (9, [.double side, .double cut, .double skin, .double heat, .ref pX, .ref pY, .ref pU, .ref pV, .ref pM, .ref pS, .ref pK, .ref pW, .ref pD, .ref pC, .int (nI n), .int (nI nb), .int (nI nr), .ref pBI, .ref pBJ, .ref pRI, .ref pRJ, .ref pBK, .ref pBL, .ref pRL, .ref pLX, .ref pLY, .int isT, .ref pOX, .ref pOY, .ref pOU, .ref pOV, .ref pNX, .ref pNY, .ref pFX, .ref pFY, .ref pBN, .int stn, .int tm, .int rd, .int tk, .int ov1, .int st1, .int bl1, .int thw, .int cg, .double qa, .double qb, .double qr]))] sz) [(pm, .inr (9, [.double side, .double cut, .double skin, .double heat, .ref pX, .ref pY, .ref pU, .ref pV, .ref pM, .ref pS, .ref pK, .ref pW, .ref pD, .ref pC, .int (nI n), .int (nI nb), .int (nI nr), .ref pBI, .ref pBJ, .ref pRI, .ref pRJ, .ref pBK, .ref pBL, .ref pRL, .ref pLX, .ref pLY, .int isT, .ref pOX, .ref pOY, .ref pOU, .ref pOV, .ref pNX, .ref pNY, .ref pFX, .ref pFY, .ref pBN, .int stn, .int tm, .int rd, .int tk, .int ov1, .int st1, .int bl1, .int 0, .int cg, .double qa, .double qb, .double qr]))] t) (va_A [(pm, .inr (9, [.double side, .double cut, .double skin, .double heat, .ref pX, .ref pY, .ref pU, .ref pV, .ref pM, .ref pS, .ref pK, .ref pW, .ref pD, .ref pC, .int (nI n), .int (nI nb), .int (nI nr), .ref pBI, .ref pBJ, .ref pRI, .ref pRJ, .ref pBK, .ref pBL, .ref pRL, .ref pLX, .ref pLY, .int isT, .ref pOX, .ref pOY, .ref pOU, .ref pOV, .ref pNX, .ref pNY, .ref pFX, .ref pFY, .ref pBN, .int stn, .int tm, .int rd, .int tk, .int ov1, .int st1, .int bl1, .int thw, .int cg, .double qa, .double qb, .double qr]))] sz)) 0 0 (va_A [(pm, .inr (9, [.double side, .double cut, .double skin, .double heat, .ref pX, .ref pY, .ref pU, .ref pV, .ref pM, .ref pS, .ref pK, .ref pW, .ref pD, .ref pC, .int (nI n), .int (nI nb), .int (nI nr), .ref pBI, .ref pBJ, .ref pRI, .ref pRJ, .ref pBK, .ref pBL, .ref pRL, .ref pLX, .ref pLY, .int isT, .ref pOX, .ref pOY, .ref pOU, .ref pOV, .ref pNX, .ref pNY, .ref pFX, .ref pFY, .ref pBN, .int stn, .int tm, .int rd, .int tk, .int ov1, .int st1, .int bl1, .int thw, .int cg, .double qa, .double qb, .double qr]))] sz) := by
  refine Met.ofW (cc := b_Model_count) (maxL := 2) (ret := (some .int)) (by decide) rfl ?_
  intro p e s m args below meth c s₁ B hml hv
  obtain ⟨rfl, hsz, hP, hK, hD0, hN⟩ := hv
  have hx := B.exec
  have hb := B.bytes
  have hr := B.returns
  have hts := atoms_spec (ws := w_Model_count) B.pre
  have hown : s.vm.findClass R_Model = some m.cls := findClass_of_methodNamed B.named
  have hlocks := B.notSynchronized
  subst hsz
  have hD := hD0.self (sz := s.heap.size)
  generalize hAe : va_A [(pm, .inr (9, [.double side, .double cut, .double skin, .double heat, .ref pX, .ref pY, .ref pU, .ref pV, .ref pM, .ref pS, .ref pK, .ref pW, .ref pD, .ref pC, .int (nI n), .int (nI nb), .int (nI nr), .ref pBI, .ref pBJ, .ref pRI, .ref pRJ, .ref pBK, .ref pBL, .ref pRL, .ref pLX, .ref pLY, .int isT, .ref pOX, .ref pOY, .ref pOU, .ref pOV, .ref pNX, .ref pNY, .ref pFX, .ref pFY, .ref pBN, .int stn, .int tm, .int rd, .int tk, .int ov1, .int st1, .int bl1, .int thw, .int cg, .double qa, .double qb, .double qr]))] s.heap.size = A at hD ⊢
  have hA : ∀ q : Nat, s.heap.size ≤ q → A q := fun q h => by rw [← hAe]; exact Or.inr h
  have hS : va_S A s.heap s.heap [] := va_S.rf
  have hl := lv_entry ([.ref pm, .int wh]) (n := 2) (Nat.le_of_ble_eq_true rfl)
  rw [lg_entry_eq]
  generalize (lg_sl ([.ref pm, .int wh]) ++ List.replicate (2 - (lg_sl ([.ref pm, .int wh])).length) Slot.unset).toArray = ls at hl ⊢
  have hl : lv_has ls 2 [(0, .ref pm), (1, .int wh)] := hl
  obtain ⟨H, hH⟩ : ∃ H, H = s.heap := ⟨_, rfl⟩
  rw [← hH] at hP
  have hS : va_S A s.heap H [] := by rw [hH]; exact hS
  refine gx_start hH ?_
  refine lv_aload_n hx hb d_Model_count_0 rfl (lv_at hl 0 rfl) ?_
  refine lv_iconst (v := 0) hx hb d_Model_count_1 (by decide) ?_
  refine va_put (D := (dC, dI)) (ci := 9) (v := .int 0) (ty := .int) (C := R_Model) (T := F_Model) (N := 48) hx hb hts (fun w h => List.mem_cons_of_mem _ (i_Model w h)) t_Model t_Model_ok n_Model hown hK hP hD hS 0 rfl rfl 43 (by decide) (hts _ (List.mem_cons_of_mem _ kw_884)) (fun _ h9 => h9) rfl (by decide +kernel) rfl rfl (Nat.le_of_ble_eq_true rfl) d_Model_count_2 (fun H locs hP hD hS => ?_)
  have hP : va_P (dC, dI) classes [(pm, .inr (9, [.double side, .double cut, .double skin, .double heat, .ref pX, .ref pY, .ref pU, .ref pV, .ref pM, .ref pS, .ref pK, .ref pW, .ref pD, .ref pC, .int (nI n), .int (nI nb), .int (nI nr), .ref pBI, .ref pBJ, .ref pRI, .ref pRJ, .ref pBK, .ref pBL, .ref pRL, .ref pLX, .ref pLY, .int isT, .ref pOX, .ref pOY, .ref pOU, .ref pOV, .ref pNX, .ref pNY, .ref pFX, .ref pFY, .ref pBN, .int stn, .int tm, .int rd, .int tk, .int ov1, .int st1, .int bl1, .int 0, .int cg, .double qa, .double qb, .double qr]))] H := hP
  have hD : va_D A [(pm, .inr (9, [.double side, .double cut, .double skin, .double heat, .ref pX, .ref pY, .ref pU, .ref pV, .ref pM, .ref pS, .ref pK, .ref pW, .ref pD, .ref pC, .int (nI n), .int (nI nb), .int (nI nr), .ref pBI, .ref pBJ, .ref pRI, .ref pRJ, .ref pBK, .ref pBL, .ref pRL, .ref pLX, .ref pLY, .int isT, .ref pOX, .ref pOY, .ref pOU, .ref pOV, .ref pNX, .ref pNY, .ref pFX, .ref pFY, .ref pBN, .int stn, .int tm, .int rd, .int tk, .int ov1, .int st1, .int bl1, .int 0, .int cg, .double qa, .double qb, .double qr]))] := hD
  refine lv_iload_n hx hb d_Model_count_5 rfl (lv_at hl 1 rfl) ?_
  rcases pb_sw9 wh with sw | sw | sw | sw | sw | sw | sw | sw | sw | sw | sw
  · skip
    refine lv_tableOut (tgt := 110) hx hb d_Model_count_6 sw (by decide) ?_
    refine lv_iconst (v := (-1)) hx hb d_Model_count_110 (by decide) ?_
    have hP9 := hP.sub (ws' := [(pm, .inr (9, [.double side, .double cut, .double skin, .double heat, .ref pX, .ref pY, .ref pU, .ref pV, .ref pM, .ref pS, .ref pK, .ref pW, .ref pD, .ref pC, .int (nI n), .int (nI nb), .int (nI nr), .ref pBI, .ref pBJ, .ref pRI, .ref pRJ, .ref pBK, .ref pBL, .ref pRL, .ref pLX, .ref pLY, .int isT, .ref pOX, .ref pOY, .ref pOU, .ref pOV, .ref pNX, .ref pNY, .ref pFX, .ref pFY, .ref pBN, .int stn, .int tm, .int rd, .int tk, .int ov1, .int st1, .int bl1, .int 0, .int cg, .double qa, .double qb, .double qr]))]) [0] rfl
    have hD9 := hD.sub (ws' := [(pm, .inr (9, [.double side, .double cut, .double skin, .double heat, .ref pX, .ref pY, .ref pU, .ref pV, .ref pM, .ref pS, .ref pK, .ref pW, .ref pD, .ref pC, .int (nI n), .int (nI nb), .int (nI nr), .ref pBI, .ref pBJ, .ref pRI, .ref pRJ, .ref pBK, .ref pBL, .ref pRL, .ref pLX, .ref pLY, .int isT, .ref pOX, .ref pOY, .ref pOU, .ref pOV, .ref pNX, .ref pNY, .ref pFX, .ref pFY, .ref pBN, .int stn, .int tm, .int rd, .int tk, .int ov1, .int st1, .int bl1, .int 0, .int cg, .double qa, .double qb, .double qr]))]) [0] (by decide) rfl
    exact W.iret (v := (-1)) hx hb hr (fun tt9 ht9 hW9 => ⟨⟨(-1), (), rfl, (pb_cnt_d sw).symm, by rw [ht9]; exact hP9, va_K.moved hW9.alike hK, hD9⟩, hS.F ht9⟩) hS.2.2 d_Model_count_111
  · skip
    refine lv_tableIn (tgt := 60) (off := 54) hx hb d_Model_count_6 (by rw [sw]; decide +kernel) (by rw [sw]; decide +kernel) (by rw [sw]; decide +kernel) (by decide) ?_
    refine lv_aload_n hx hb d_Model_count_60 rfl (lv_at hl 0 rfl) ?_
    refine va_get (D := (dC, dI)) (ci := 9) (v := .int (nI n)) (C := R_Model) (T := F_Model) (N := 48) hx hb hts (fun w h => List.mem_cons_of_mem _ (i_Model w h)) hown hK hP 0 rfl rfl 14 (by decide) (hts _ (List.mem_cons_of_mem _ kw_855)) (fun _ h9 => h9) rfl d_Model_count_61 ?_
    have hP9 := hP.sub (ws' := [(pm, .inr (9, [.double side, .double cut, .double skin, .double heat, .ref pX, .ref pY, .ref pU, .ref pV, .ref pM, .ref pS, .ref pK, .ref pW, .ref pD, .ref pC, .int (nI n), .int (nI nb), .int (nI nr), .ref pBI, .ref pBJ, .ref pRI, .ref pRJ, .ref pBK, .ref pBL, .ref pRL, .ref pLX, .ref pLY, .int isT, .ref pOX, .ref pOY, .ref pOU, .ref pOV, .ref pNX, .ref pNY, .ref pFX, .ref pFY, .ref pBN, .int stn, .int tm, .int rd, .int tk, .int ov1, .int st1, .int bl1, .int 0, .int cg, .double qa, .double qb, .double qr]))]) [0] rfl
    have hD9 := hD.sub (ws' := [(pm, .inr (9, [.double side, .double cut, .double skin, .double heat, .ref pX, .ref pY, .ref pU, .ref pV, .ref pM, .ref pS, .ref pK, .ref pW, .ref pD, .ref pC, .int (nI n), .int (nI nb), .int (nI nr), .ref pBI, .ref pBJ, .ref pRI, .ref pRJ, .ref pBK, .ref pBL, .ref pRL, .ref pLX, .ref pLY, .int isT, .ref pOX, .ref pOY, .ref pOU, .ref pOV, .ref pNX, .ref pNY, .ref pFX, .ref pFY, .ref pBN, .int stn, .int tm, .int rd, .int tk, .int ov1, .int st1, .int bl1, .int 0, .int cg, .double qa, .double qb, .double qr]))]) [0] (by decide) rfl
    exact W.iret (v := (nI n)) hx hb hr (fun tt9 ht9 hW9 => ⟨⟨(nI n), (), rfl, (by rw [sw]; rfl), by rw [ht9]; exact hP9, va_K.moved hW9.alike hK, hD9⟩, hS.F ht9⟩) hS.2.2 d_Model_count_64
  · skip
    refine lv_tableIn (tgt := 65) (off := 59) hx hb d_Model_count_6 (by rw [sw]; decide +kernel) (by rw [sw]; decide +kernel) (by rw [sw]; decide +kernel) (by decide) ?_
    refine lv_aload_n hx hb d_Model_count_65 rfl (lv_at hl 0 rfl) ?_
    refine va_get (D := (dC, dI)) (ci := 9) (v := .int (nI nb)) (C := R_Model) (T := F_Model) (N := 48) hx hb hts (fun w h => List.mem_cons_of_mem _ (i_Model w h)) hown hK hP 0 rfl rfl 15 (by decide) (hts _ (List.mem_cons_of_mem _ kw_856)) (fun _ h9 => h9) rfl d_Model_count_66 ?_
    have hP9 := hP.sub (ws' := [(pm, .inr (9, [.double side, .double cut, .double skin, .double heat, .ref pX, .ref pY, .ref pU, .ref pV, .ref pM, .ref pS, .ref pK, .ref pW, .ref pD, .ref pC, .int (nI n), .int (nI nb), .int (nI nr), .ref pBI, .ref pBJ, .ref pRI, .ref pRJ, .ref pBK, .ref pBL, .ref pRL, .ref pLX, .ref pLY, .int isT, .ref pOX, .ref pOY, .ref pOU, .ref pOV, .ref pNX, .ref pNY, .ref pFX, .ref pFY, .ref pBN, .int stn, .int tm, .int rd, .int tk, .int ov1, .int st1, .int bl1, .int 0, .int cg, .double qa, .double qb, .double qr]))]) [0] rfl
    have hD9 := hD.sub (ws' := [(pm, .inr (9, [.double side, .double cut, .double skin, .double heat, .ref pX, .ref pY, .ref pU, .ref pV, .ref pM, .ref pS, .ref pK, .ref pW, .ref pD, .ref pC, .int (nI n), .int (nI nb), .int (nI nr), .ref pBI, .ref pBJ, .ref pRI, .ref pRJ, .ref pBK, .ref pBL, .ref pRL, .ref pLX, .ref pLY, .int isT, .ref pOX, .ref pOY, .ref pOU, .ref pOV, .ref pNX, .ref pNY, .ref pFX, .ref pFY, .ref pBN, .int stn, .int tm, .int rd, .int tk, .int ov1, .int st1, .int bl1, .int 0, .int cg, .double qa, .double qb, .double qr]))]) [0] (by decide) rfl
    exact W.iret (v := (nI nb)) hx hb hr (fun tt9 ht9 hW9 => ⟨⟨(nI nb), (), rfl, (by rw [sw]; rfl), by rw [ht9]; exact hP9, va_K.moved hW9.alike hK, hD9⟩, hS.F ht9⟩) hS.2.2 d_Model_count_69
  · skip
    refine lv_tableIn (tgt := 70) (off := 64) hx hb d_Model_count_6 (by rw [sw]; decide +kernel) (by rw [sw]; decide +kernel) (by rw [sw]; decide +kernel) (by decide) ?_
    refine lv_aload_n hx hb d_Model_count_70 rfl (lv_at hl 0 rfl) ?_
    refine va_get (D := (dC, dI)) (ci := 9) (v := .int (nI nr)) (C := R_Model) (T := F_Model) (N := 48) hx hb hts (fun w h => List.mem_cons_of_mem _ (i_Model w h)) hown hK hP 0 rfl rfl 16 (by decide) (hts _ (List.mem_cons_of_mem _ kw_857)) (fun _ h9 => h9) rfl d_Model_count_71 ?_
    have hP9 := hP.sub (ws' := [(pm, .inr (9, [.double side, .double cut, .double skin, .double heat, .ref pX, .ref pY, .ref pU, .ref pV, .ref pM, .ref pS, .ref pK, .ref pW, .ref pD, .ref pC, .int (nI n), .int (nI nb), .int (nI nr), .ref pBI, .ref pBJ, .ref pRI, .ref pRJ, .ref pBK, .ref pBL, .ref pRL, .ref pLX, .ref pLY, .int isT, .ref pOX, .ref pOY, .ref pOU, .ref pOV, .ref pNX, .ref pNY, .ref pFX, .ref pFY, .ref pBN, .int stn, .int tm, .int rd, .int tk, .int ov1, .int st1, .int bl1, .int 0, .int cg, .double qa, .double qb, .double qr]))]) [0] rfl
    have hD9 := hD.sub (ws' := [(pm, .inr (9, [.double side, .double cut, .double skin, .double heat, .ref pX, .ref pY, .ref pU, .ref pV, .ref pM, .ref pS, .ref pK, .ref pW, .ref pD, .ref pC, .int (nI n), .int (nI nb), .int (nI nr), .ref pBI, .ref pBJ, .ref pRI, .ref pRJ, .ref pBK, .ref pBL, .ref pRL, .ref pLX, .ref pLY, .int isT, .ref pOX, .ref pOY, .ref pOU, .ref pOV, .ref pNX, .ref pNY, .ref pFX, .ref pFY, .ref pBN, .int stn, .int tm, .int rd, .int tk, .int ov1, .int st1, .int bl1, .int 0, .int cg, .double qa, .double qb, .double qr]))]) [0] (by decide) rfl
    exact W.iret (v := (nI nr)) hx hb hr (fun tt9 ht9 hW9 => ⟨⟨(nI nr), (), rfl, (by rw [sw]; rfl), by rw [ht9]; exact hP9, va_K.moved hW9.alike hK, hD9⟩, hS.F ht9⟩) hS.2.2 d_Model_count_74
  · skip
    refine lv_tableIn (tgt := 75) (off := 69) hx hb d_Model_count_6 (by rw [sw]; decide +kernel) (by rw [sw]; decide +kernel) (by rw [sw]; decide +kernel) (by decide) ?_
    refine lv_aload_n hx hb d_Model_count_75 rfl (lv_at hl 0 rfl) ?_
    refine va_get (D := (dC, dI)) (ci := 9) (v := .int stn) (C := R_Model) (T := F_Model) (N := 48) hx hb hts (fun w h => List.mem_cons_of_mem _ (i_Model w h)) hown hK hP 0 rfl rfl 36 (by decide) (hts _ (List.mem_cons_of_mem _ kw_877)) (fun _ h9 => h9) rfl d_Model_count_76 ?_
    have hP9 := hP.sub (ws' := [(pm, .inr (9, [.double side, .double cut, .double skin, .double heat, .ref pX, .ref pY, .ref pU, .ref pV, .ref pM, .ref pS, .ref pK, .ref pW, .ref pD, .ref pC, .int (nI n), .int (nI nb), .int (nI nr), .ref pBI, .ref pBJ, .ref pRI, .ref pRJ, .ref pBK, .ref pBL, .ref pRL, .ref pLX, .ref pLY, .int isT, .ref pOX, .ref pOY, .ref pOU, .ref pOV, .ref pNX, .ref pNY, .ref pFX, .ref pFY, .ref pBN, .int stn, .int tm, .int rd, .int tk, .int ov1, .int st1, .int bl1, .int 0, .int cg, .double qa, .double qb, .double qr]))]) [0] rfl
    have hD9 := hD.sub (ws' := [(pm, .inr (9, [.double side, .double cut, .double skin, .double heat, .ref pX, .ref pY, .ref pU, .ref pV, .ref pM, .ref pS, .ref pK, .ref pW, .ref pD, .ref pC, .int (nI n), .int (nI nb), .int (nI nr), .ref pBI, .ref pBJ, .ref pRI, .ref pRJ, .ref pBK, .ref pBL, .ref pRL, .ref pLX, .ref pLY, .int isT, .ref pOX, .ref pOY, .ref pOU, .ref pOV, .ref pNX, .ref pNY, .ref pFX, .ref pFY, .ref pBN, .int stn, .int tm, .int rd, .int tk, .int ov1, .int st1, .int bl1, .int 0, .int cg, .double qa, .double qb, .double qr]))]) [0] (by decide) rfl
    exact W.iret (v := stn) hx hb hr (fun tt9 ht9 hW9 => ⟨⟨stn, (), rfl, (by rw [sw]; rfl), by rw [ht9]; exact hP9, va_K.moved hW9.alike hK, hD9⟩, hS.F ht9⟩) hS.2.2 d_Model_count_79
  · skip
    refine lv_tableIn (tgt := 80) (off := 74) hx hb d_Model_count_6 (by rw [sw]; decide +kernel) (by rw [sw]; decide +kernel) (by rw [sw]; decide +kernel) (by decide) ?_
    refine lv_aload_n hx hb d_Model_count_80 rfl (lv_at hl 0 rfl) ?_
    refine va_get (D := (dC, dI)) (ci := 9) (v := .int tm) (C := R_Model) (T := F_Model) (N := 48) hx hb hts (fun w h => List.mem_cons_of_mem _ (i_Model w h)) hown hK hP 0 rfl rfl 37 (by decide) (hts _ (List.mem_cons_of_mem _ kw_878)) (fun _ h9 => h9) rfl d_Model_count_81 ?_
    have hP9 := hP.sub (ws' := [(pm, .inr (9, [.double side, .double cut, .double skin, .double heat, .ref pX, .ref pY, .ref pU, .ref pV, .ref pM, .ref pS, .ref pK, .ref pW, .ref pD, .ref pC, .int (nI n), .int (nI nb), .int (nI nr), .ref pBI, .ref pBJ, .ref pRI, .ref pRJ, .ref pBK, .ref pBL, .ref pRL, .ref pLX, .ref pLY, .int isT, .ref pOX, .ref pOY, .ref pOU, .ref pOV, .ref pNX, .ref pNY, .ref pFX, .ref pFY, .ref pBN, .int stn, .int tm, .int rd, .int tk, .int ov1, .int st1, .int bl1, .int 0, .int cg, .double qa, .double qb, .double qr]))]) [0] rfl
    have hD9 := hD.sub (ws' := [(pm, .inr (9, [.double side, .double cut, .double skin, .double heat, .ref pX, .ref pY, .ref pU, .ref pV, .ref pM, .ref pS, .ref pK, .ref pW, .ref pD, .ref pC, .int (nI n), .int (nI nb), .int (nI nr), .ref pBI, .ref pBJ, .ref pRI, .ref pRJ, .ref pBK, .ref pBL, .ref pRL, .ref pLX, .ref pLY, .int isT, .ref pOX, .ref pOY, .ref pOU, .ref pOV, .ref pNX, .ref pNY, .ref pFX, .ref pFY, .ref pBN, .int stn, .int tm, .int rd, .int tk, .int ov1, .int st1, .int bl1, .int 0, .int cg, .double qa, .double qb, .double qr]))]) [0] (by decide) rfl
    exact W.iret (v := tm) hx hb hr (fun tt9 ht9 hW9 => ⟨⟨tm, (), rfl, (by rw [sw]; rfl), by rw [ht9]; exact hP9, va_K.moved hW9.alike hK, hD9⟩, hS.F ht9⟩) hS.2.2 d_Model_count_84
  · skip
    refine lv_tableIn (tgt := 85) (off := 79) hx hb d_Model_count_6 (by rw [sw]; decide +kernel) (by rw [sw]; decide +kernel) (by rw [sw]; decide +kernel) (by decide) ?_
    refine lv_aload_n hx hb d_Model_count_85 rfl (lv_at hl 0 rfl) ?_
    refine va_get (D := (dC, dI)) (ci := 9) (v := .int rd) (C := R_Model) (T := F_Model) (N := 48) hx hb hts (fun w h => List.mem_cons_of_mem _ (i_Model w h)) hown hK hP 0 rfl rfl 38 (by decide) (hts _ (List.mem_cons_of_mem _ kw_879)) (fun _ h9 => h9) rfl d_Model_count_86 ?_
    have hP9 := hP.sub (ws' := [(pm, .inr (9, [.double side, .double cut, .double skin, .double heat, .ref pX, .ref pY, .ref pU, .ref pV, .ref pM, .ref pS, .ref pK, .ref pW, .ref pD, .ref pC, .int (nI n), .int (nI nb), .int (nI nr), .ref pBI, .ref pBJ, .ref pRI, .ref pRJ, .ref pBK, .ref pBL, .ref pRL, .ref pLX, .ref pLY, .int isT, .ref pOX, .ref pOY, .ref pOU, .ref pOV, .ref pNX, .ref pNY, .ref pFX, .ref pFY, .ref pBN, .int stn, .int tm, .int rd, .int tk, .int ov1, .int st1, .int bl1, .int 0, .int cg, .double qa, .double qb, .double qr]))]) [0] rfl
    have hD9 := hD.sub (ws' := [(pm, .inr (9, [.double side, .double cut, .double skin, .double heat, .ref pX, .ref pY, .ref pU, .ref pV, .ref pM, .ref pS, .ref pK, .ref pW, .ref pD, .ref pC, .int (nI n), .int (nI nb), .int (nI nr), .ref pBI, .ref pBJ, .ref pRI, .ref pRJ, .ref pBK, .ref pBL, .ref pRL, .ref pLX, .ref pLY, .int isT, .ref pOX, .ref pOY, .ref pOU, .ref pOV, .ref pNX, .ref pNY, .ref pFX, .ref pFY, .ref pBN, .int stn, .int tm, .int rd, .int tk, .int ov1, .int st1, .int bl1, .int 0, .int cg, .double qa, .double qb, .double qr]))]) [0] (by decide) rfl
    exact W.iret (v := rd) hx hb hr (fun tt9 ht9 hW9 => ⟨⟨rd, (), rfl, (by rw [sw]; rfl), by rw [ht9]; exact hP9, va_K.moved hW9.alike hK, hD9⟩, hS.F ht9⟩) hS.2.2 d_Model_count_89
  · skip
    refine lv_tableIn (tgt := 90) (off := 84) hx hb d_Model_count_6 (by rw [sw]; decide +kernel) (by rw [sw]; decide +kernel) (by rw [sw]; decide +kernel) (by decide) ?_
    refine lv_aload_n hx hb d_Model_count_90 rfl (lv_at hl 0 rfl) ?_
    refine va_get (D := (dC, dI)) (ci := 9) (v := .int tk) (C := R_Model) (T := F_Model) (N := 48) hx hb hts (fun w h => List.mem_cons_of_mem _ (i_Model w h)) hown hK hP 0 rfl rfl 39 (by decide) (hts _ (List.mem_cons_of_mem _ kw_880)) (fun _ h9 => h9) rfl d_Model_count_91 ?_
    have hP9 := hP.sub (ws' := [(pm, .inr (9, [.double side, .double cut, .double skin, .double heat, .ref pX, .ref pY, .ref pU, .ref pV, .ref pM, .ref pS, .ref pK, .ref pW, .ref pD, .ref pC, .int (nI n), .int (nI nb), .int (nI nr), .ref pBI, .ref pBJ, .ref pRI, .ref pRJ, .ref pBK, .ref pBL, .ref pRL, .ref pLX, .ref pLY, .int isT, .ref pOX, .ref pOY, .ref pOU, .ref pOV, .ref pNX, .ref pNY, .ref pFX, .ref pFY, .ref pBN, .int stn, .int tm, .int rd, .int tk, .int ov1, .int st1, .int bl1, .int 0, .int cg, .double qa, .double qb, .double qr]))]) [0] rfl
    have hD9 := hD.sub (ws' := [(pm, .inr (9, [.double side, .double cut, .double skin, .double heat, .ref pX, .ref pY, .ref pU, .ref pV, .ref pM, .ref pS, .ref pK, .ref pW, .ref pD, .ref pC, .int (nI n), .int (nI nb), .int (nI nr), .ref pBI, .ref pBJ, .ref pRI, .ref pRJ, .ref pBK, .ref pBL, .ref pRL, .ref pLX, .ref pLY, .int isT, .ref pOX, .ref pOY, .ref pOU, .ref pOV, .ref pNX, .ref pNY, .ref pFX, .ref pFY, .ref pBN, .int stn, .int tm, .int rd, .int tk, .int ov1, .int st1, .int bl1, .int 0, .int cg, .double qa, .double qb, .double qr]))]) [0] (by decide) rfl
    exact W.iret (v := tk) hx hb hr (fun tt9 ht9 hW9 => ⟨⟨tk, (), rfl, (by rw [sw]; rfl), by rw [ht9]; exact hP9, va_K.moved hW9.alike hK, hD9⟩, hS.F ht9⟩) hS.2.2 d_Model_count_94
  · skip
    refine lv_tableIn (tgt := 95) (off := 89) hx hb d_Model_count_6 (by rw [sw]; decide +kernel) (by rw [sw]; decide +kernel) (by rw [sw]; decide +kernel) (by decide) ?_
    refine lv_aload_n hx hb d_Model_count_95 rfl (lv_at hl 0 rfl) ?_
    refine va_get (D := (dC, dI)) (ci := 9) (v := .int ov1) (C := R_Model) (T := F_Model) (N := 48) hx hb hts (fun w h => List.mem_cons_of_mem _ (i_Model w h)) hown hK hP 0 rfl rfl 40 (by decide) (hts _ (List.mem_cons_of_mem _ kw_881)) (fun _ h9 => h9) rfl d_Model_count_96 ?_
    have hP9 := hP.sub (ws' := [(pm, .inr (9, [.double side, .double cut, .double skin, .double heat, .ref pX, .ref pY, .ref pU, .ref pV, .ref pM, .ref pS, .ref pK, .ref pW, .ref pD, .ref pC, .int (nI n), .int (nI nb), .int (nI nr), .ref pBI, .ref pBJ, .ref pRI, .ref pRJ, .ref pBK, .ref pBL, .ref pRL, .ref pLX, .ref pLY, .int isT, .ref pOX, .ref pOY, .ref pOU, .ref pOV, .ref pNX, .ref pNY, .ref pFX, .ref pFY, .ref pBN, .int stn, .int tm, .int rd, .int tk, .int ov1, .int st1, .int bl1, .int 0, .int cg, .double qa, .double qb, .double qr]))]) [0] rfl
    have hD9 := hD.sub (ws' := [(pm, .inr (9, [.double side, .double cut, .double skin, .double heat, .ref pX, .ref pY, .ref pU, .ref pV, .ref pM, .ref pS, .ref pK, .ref pW, .ref pD, .ref pC, .int (nI n), .int (nI nb), .int (nI nr), .ref pBI, .ref pBJ, .ref pRI, .ref pRJ, .ref pBK, .ref pBL, .ref pRL, .ref pLX, .ref pLY, .int isT, .ref pOX, .ref pOY, .ref pOU, .ref pOV, .ref pNX, .ref pNY, .ref pFX, .ref pFY, .ref pBN, .int stn, .int tm, .int rd, .int tk, .int ov1, .int st1, .int bl1, .int 0, .int cg, .double qa, .double qb, .double qr]))]) [0] (by decide) rfl
    exact W.iret (v := ov1) hx hb hr (fun tt9 ht9 hW9 => ⟨⟨ov1, (), rfl, (by rw [sw]; rfl), by rw [ht9]; exact hP9, va_K.moved hW9.alike hK, hD9⟩, hS.F ht9⟩) hS.2.2 d_Model_count_99
  · skip
    refine lv_tableIn (tgt := 100) (off := 94) hx hb d_Model_count_6 (by rw [sw]; decide +kernel) (by rw [sw]; decide +kernel) (by rw [sw]; decide +kernel) (by decide) ?_
    refine lv_aload_n hx hb d_Model_count_100 rfl (lv_at hl 0 rfl) ?_
    refine va_get (D := (dC, dI)) (ci := 9) (v := .int st1) (C := R_Model) (T := F_Model) (N := 48) hx hb hts (fun w h => List.mem_cons_of_mem _ (i_Model w h)) hown hK hP 0 rfl rfl 41 (by decide) (hts _ (List.mem_cons_of_mem _ kw_882)) (fun _ h9 => h9) rfl d_Model_count_101 ?_
    have hP9 := hP.sub (ws' := [(pm, .inr (9, [.double side, .double cut, .double skin, .double heat, .ref pX, .ref pY, .ref pU, .ref pV, .ref pM, .ref pS, .ref pK, .ref pW, .ref pD, .ref pC, .int (nI n), .int (nI nb), .int (nI nr), .ref pBI, .ref pBJ, .ref pRI, .ref pRJ, .ref pBK, .ref pBL, .ref pRL, .ref pLX, .ref pLY, .int isT, .ref pOX, .ref pOY, .ref pOU, .ref pOV, .ref pNX, .ref pNY, .ref pFX, .ref pFY, .ref pBN, .int stn, .int tm, .int rd, .int tk, .int ov1, .int st1, .int bl1, .int 0, .int cg, .double qa, .double qb, .double qr]))]) [0] rfl
    have hD9 := hD.sub (ws' := [(pm, .inr (9, [.double side, .double cut, .double skin, .double heat, .ref pX, .ref pY, .ref pU, .ref pV, .ref pM, .ref pS, .ref pK, .ref pW, .ref pD, .ref pC, .int (nI n), .int (nI nb), .int (nI nr), .ref pBI, .ref pBJ, .ref pRI, .ref pRJ, .ref pBK, .ref pBL, .ref pRL, .ref pLX, .ref pLY, .int isT, .ref pOX, .ref pOY, .ref pOU, .ref pOV, .ref pNX, .ref pNY, .ref pFX, .ref pFY, .ref pBN, .int stn, .int tm, .int rd, .int tk, .int ov1, .int st1, .int bl1, .int 0, .int cg, .double qa, .double qb, .double qr]))]) [0] (by decide) rfl
    exact W.iret (v := st1) hx hb hr (fun tt9 ht9 hW9 => ⟨⟨st1, (), rfl, (by rw [sw]; rfl), by rw [ht9]; exact hP9, va_K.moved hW9.alike hK, hD9⟩, hS.F ht9⟩) hS.2.2 d_Model_count_104
  · skip
    refine lv_tableIn (tgt := 105) (off := 99) hx hb d_Model_count_6 (by rw [sw]; decide +kernel) (by rw [sw]; decide +kernel) (by rw [sw]; decide +kernel) (by decide) ?_
    refine lv_aload_n hx hb d_Model_count_105 rfl (lv_at hl 0 rfl) ?_
    refine va_get (D := (dC, dI)) (ci := 9) (v := .int bl1) (C := R_Model) (T := F_Model) (N := 48) hx hb hts (fun w h => List.mem_cons_of_mem _ (i_Model w h)) hown hK hP 0 rfl rfl 42 (by decide) (hts _ (List.mem_cons_of_mem _ kw_883)) (fun _ h9 => h9) rfl d_Model_count_106 ?_
    have hP9 := hP.sub (ws' := [(pm, .inr (9, [.double side, .double cut, .double skin, .double heat, .ref pX, .ref pY, .ref pU, .ref pV, .ref pM, .ref pS, .ref pK, .ref pW, .ref pD, .ref pC, .int (nI n), .int (nI nb), .int (nI nr), .ref pBI, .ref pBJ, .ref pRI, .ref pRJ, .ref pBK, .ref pBL, .ref pRL, .ref pLX, .ref pLY, .int isT, .ref pOX, .ref pOY, .ref pOU, .ref pOV, .ref pNX, .ref pNY, .ref pFX, .ref pFY, .ref pBN, .int stn, .int tm, .int rd, .int tk, .int ov1, .int st1, .int bl1, .int 0, .int cg, .double qa, .double qb, .double qr]))]) [0] rfl
    have hD9 := hD.sub (ws' := [(pm, .inr (9, [.double side, .double cut, .double skin, .double heat, .ref pX, .ref pY, .ref pU, .ref pV, .ref pM, .ref pS, .ref pK, .ref pW, .ref pD, .ref pC, .int (nI n), .int (nI nb), .int (nI nr), .ref pBI, .ref pBJ, .ref pRI, .ref pRJ, .ref pBK, .ref pBL, .ref pRL, .ref pLX, .ref pLY, .int isT, .ref pOX, .ref pOY, .ref pOU, .ref pOV, .ref pNX, .ref pNY, .ref pFX, .ref pFY, .ref pBN, .int stn, .int tm, .int rd, .int tk, .int ov1, .int st1, .int bl1, .int 0, .int cg, .double qa, .double qb, .double qr]))]) [0] (by decide) rfl
    exact W.iret (v := bl1) hx hb hr (fun tt9 ht9 hW9 => ⟨⟨bl1, (), rfl, (by rw [sw]; rfl), by rw [ht9]; exact hP9, va_K.moved hW9.alike hK, hD9⟩, hS.F ht9⟩) hS.2.2 d_Model_count_109
