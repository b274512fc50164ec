theorem d_Atoms_has_0 : decode b_Atoms_has 0 = .ok (.iload_n 1, 1) := by decide +kernel
theorem d_Atoms_has_1 : decode b_Atoms_has 1 = .ok (.ifCond .lt 15, 3) := by decide +kernel
theorem d_Atoms_has_4 : decode b_Atoms_has 4 = .ok (.iload_n 1, 1) := by decide +kernel
theorem d_Atoms_has_5 : decode b_Atoms_has 5 = .ok (.aload_n 0, 1) := by decide +kernel
theorem d_Atoms_has_6 : decode b_Atoms_has 6 = .ok (.getfield 35, 3) := by decide +kernel
theorem d_Atoms_has_9 : decode b_Atoms_has 9 = .ok (.if_icmp .ge 7, 3) := by decide +kernel
theorem d_Atoms_has_12 : decode b_Atoms_has 12 = .ok (.iconst 1, 1) := by decide +kernel
theorem d_Atoms_has_13 : decode b_Atoms_has 13 = .ok (.goto 4, 3) := by decide +kernel
theorem d_Atoms_has_16 : decode b_Atoms_has 16 = .ok (.iconst 0, 1) := by decide +kernel
theorem d_Atoms_has_17 : decode b_Atoms_has 17 = .ok (.ireturn, 1) := by decide +kernel
theorem d_Atoms_ease_0 : decode b_Atoms_ease 0 = .ok (.aload_n 0, 1) := by decide +kernel
theorem d_Atoms_ease_1 : decode b_Atoms_ease 1 = .ok (.getfield 31, 3) := by decide +kernel
theorem d_Atoms_ease_4 : decode b_Atoms_ease 4 = .ok (.iload_n 1, 1) := by decide +kernel
theorem d_Atoms_ease_5 : decode b_Atoms_ease 5 = .ok (.baload, 1) := by decide +kernel
theorem d_Atoms_ease_6 : decode b_Atoms_ease 6 = .ok (.ifCond .eq 7, 3) := by decide +kernel
theorem d_Atoms_ease_9 : decode b_Atoms_ease 9 = .ok (.dconst 0, 1) := by decide +kernel
theorem d_Atoms_ease_10 : decode b_Atoms_ease 10 = .ok (.goto 11, 3) := by decide +kernel
theorem d_Atoms_ease_13 : decode b_Atoms_ease 13 = .ok (.dconst 1, 1) := by decide +kernel
theorem d_Atoms_ease_14 : decode b_Atoms_ease 14 = .ok (.aload_n 0, 1) := by decide +kernel
theorem d_Atoms_ease_15 : decode b_Atoms_ease 15 = .ok (.getfield 24, 3) := by decide +kernel
theorem d_Atoms_ease_18 : decode b_Atoms_ease 18 = .ok (.iload_n 1, 1) := by decide +kernel
theorem d_Atoms_ease_19 : decode b_Atoms_ease 19 = .ok (.daload, 1) := by decide +kernel
theorem d_Atoms_ease_20 : decode b_Atoms_ease 20 = .ok (.ddiv, 1) := by decide +kernel
theorem d_Atoms_ease_21 : decode b_Atoms_ease 21 = .ok (.dreturn, 1) := by decide +kernel
theorem d_Atoms_isTooFast_0 : decode b_Atoms_isTooFast 0 = .ok (.dload_n 0, 1) := by decide +kernel
theorem d_Atoms_isTooFast_1 : decode b_Atoms_isTooFast 1 = .ok (.ldc2_w 57, 3) := by decide +kernel
theorem d_Atoms_isTooFast_4 : decode b_Atoms_isTooFast 4 = .ok (.dcmp .l, 1) := by decide +kernel
theorem d_Atoms_isTooFast_5 : decode b_Atoms_isTooFast 5 = .ok (.ifCond .gt 11, 3) := by decide +kernel
theorem d_Atoms_isTooFast_8 : decode b_Atoms_isTooFast 8 = .ok (.dload_n 0, 1) := by decide +kernel
theorem d_Atoms_isTooFast_9 : decode b_Atoms_isTooFast 9 = .ok (.ldc2_w 59, 3) := by decide +kernel
theorem d_Atoms_isTooFast_12 : decode b_Atoms_isTooFast 12 = .ok (.dcmp .g, 1) := by decide +kernel
theorem d_Atoms_isTooFast_13 : decode b_Atoms_isTooFast 13 = .ok (.ifCond .ge 7, 3) := by decide +kernel
theorem d_Atoms_isTooFast_16 : decode b_Atoms_isTooFast 16 = .ok (.iconst 1, 1) := by decide +kernel
theorem d_Atoms_isTooFast_17 : decode b_Atoms_isTooFast 17 = .ok (.goto 4, 3) := by decide +kernel
theorem d_Atoms_isTooFast_20 : decode b_Atoms_isTooFast 20 = .ok (.iconst 0, 1) := by decide +kernel
theorem d_Atoms_isTooFast_21 : decode b_Atoms_isTooFast 21 = .ok (.ireturn, 1) := by decide +kernel
theorem d_Atoms_isBlown_0 : decode b_Atoms_isBlown 0 = .ok (.iconst 0, 1) := by decide +kernel
theorem d_Atoms_isBlown_1 : decode b_Atoms_isBlown 1 = .ok (.istore_n 1, 1) := by decide +kernel
theorem d_Atoms_isBlown_2 : decode b_Atoms_isBlown 2 = .ok (.iload_n 1, 1) := by decide +kernel
theorem d_Atoms_isBlown_3 : decode b_Atoms_isBlown 3 = .ok (.aload_n 0, 1) := by decide +kernel
theorem d_Atoms_isBlown_4 : decode b_Atoms_isBlown 4 = .ok (.getfield 35, 3) := by decide +kernel
theorem d_Atoms_isBlown_7 : decode b_Atoms_isBlown 7 = .ok (.if_icmp .ge 35, 3) := by decide +kernel
theorem d_Atoms_isBlown_10 : decode b_Atoms_isBlown 10 = .ok (.aload_n 0, 1) := by decide +kernel
theorem d_Atoms_isBlown_11 : decode b_Atoms_isBlown 11 = .ok (.getfield 18, 3) := by decide +kernel
theorem d_Atoms_isBlown_14 : decode b_Atoms_isBlown 14 = .ok (.iload_n 1, 1) := by decide +kernel
theorem d_Atoms_isBlown_15 : decode b_Atoms_isBlown 15 = .ok (.daload, 1) := by decide +kernel
theorem d_Atoms_isBlown_16 : decode b_Atoms_isBlown 16 = .ok (.invokestatic 53, 3) := by decide +kernel
theorem d_Atoms_isBlown_19 : decode b_Atoms_isBlown 19 = .ok (.ifCond .ne 15, 3) := by decide +kernel
theorem d_Atoms_isBlown_22 : decode b_Atoms_isBlown 22 = .ok (.aload_n 0, 1) := by decide +kernel
theorem d_Atoms_isBlown_23 : decode b_Atoms_isBlown 23 = .ok (.getfield 21, 3) := by decide +kernel
theorem d_Atoms_isBlown_26 : decode b_Atoms_isBlown 26 = .ok (.iload_n 1, 1) := by decide +kernel
theorem d_Atoms_isBlown_27 : decode b_Atoms_isBlown 27 = .ok (.daload, 1) := by decide +kernel
theorem d_Atoms_isBlown_28 : decode b_Atoms_isBlown 28 = .ok (.invokestatic 53, 3) := by decide +kernel
theorem d_Atoms_isBlown_31 : decode b_Atoms_isBlown 31 = .ok (.ifCond .eq 5, 3) := by decide +kernel
theorem d_Atoms_isBlown_34 : decode b_Atoms_isBlown 34 = .ok (.iconst 1, 1) := by decide +kernel
theorem d_Atoms_isBlown_35 : decode b_Atoms_isBlown 35 = .ok (.ireturn, 1) := by decide +kernel
theorem d_Atoms_isBlown_36 : decode b_Atoms_isBlown 36 = .ok (.iinc 1 1, 3) := by decide +kernel
theorem d_Atoms_isBlown_39 : decode b_Atoms_isBlown 39 = .ok (.goto (-37), 3) := by decide +kernel
theorem d_Atoms_isBlown_42 : decode b_Atoms_isBlown 42 = .ok (.iconst 0, 1) := by decide +kernel
theorem d_Atoms_isBlown_43 : decode b_Atoms_isBlown 43 = .ok (.ireturn, 1) := by decide +kernel
theorem d_Atoms_energyOfMotion_0 : decode b_Atoms_energyOfMotion 0 = .ok (.dconst 0, 1) := by decide +kernel
theorem d_Atoms_energyOfMotion_1 : decode b_Atoms_energyOfMotion 1 = .ok (.dstore_n 1, 1) := by decide +kernel
theorem d_Atoms_energyOfMotion_2 : decode b_Atoms_energyOfMotion 2 = .ok (.iconst 0, 1) := by decide +kernel
theorem d_Atoms_energyOfMotion_3 : decode b_Atoms_energyOfMotion 3 = .ok (.istore_n 3, 1) := by decide +kernel
theorem d_Atoms_energyOfMotion_4 : decode b_Atoms_energyOfMotion 4 = .ok (.iload_n 3, 1) := by decide +kernel
theorem d_Atoms_energyOfMotion_5 : decode b_Atoms_energyOfMotion 5 = .ok (.aload_n 0, 1) := by decide +kernel
theorem d_Atoms_energyOfMotion_6 : decode b_Atoms_energyOfMotion 6 = .ok (.getfield 35, 3) := by decide +kernel
theorem d_Atoms_energyOfMotion_9 : decode b_Atoms_energyOfMotion 9 = .ok (.if_icmp .ge 50, 3) := by decide +kernel
theorem d_Atoms_energyOfMotion_12 : decode b_Atoms_energyOfMotion 12 = .ok (.dload_n 1, 1) := by decide +kernel
theorem d_Atoms_energyOfMotion_13 : decode b_Atoms_energyOfMotion 13 = .ok (.ldc2_w 51, 3) := by decide +kernel
theorem d_Atoms_energyOfMotion_16 : decode b_Atoms_energyOfMotion 16 = .ok (.aload_n 0, 1) := by decide +kernel
theorem d_Atoms_energyOfMotion_17 : decode b_Atoms_energyOfMotion 17 = .ok (.getfield 24, 3) := by decide +kernel
theorem d_Atoms_energyOfMotion_20 : decode b_Atoms_energyOfMotion 20 = .ok (.iload_n 3, 1) := by decide +kernel
theorem d_Atoms_energyOfMotion_21 : decode b_Atoms_energyOfMotion 21 = .ok (.daload, 1) := by decide +kernel
theorem d_Atoms_energyOfMotion_22 : decode b_Atoms_energyOfMotion 22 = .ok (.dmul, 1) := by decide +kernel
theorem d_Atoms_energyOfMotion_23 : decode b_Atoms_energyOfMotion 23 = .ok (.aload_n 0, 1) := by decide +kernel
theorem d_Atoms_energyOfMotion_24 : decode b_Atoms_energyOfMotion 24 = .ok (.getfield 18, 3) := by decide +kernel
theorem d_Atoms_energyOfMotion_27 : decode b_Atoms_energyOfMotion 27 = .ok (.iload_n 3, 1) := by decide +kernel
theorem d_Atoms_energyOfMotion_28 : decode b_Atoms_energyOfMotion 28 = .ok (.daload, 1) := by decide +kernel
theorem d_Atoms_energyOfMotion_29 : decode b_Atoms_energyOfMotion 29 = .ok (.aload_n 0, 1) := by decide +kernel
theorem d_Atoms_energyOfMotion_30 : decode b_Atoms_energyOfMotion 30 = .ok (.getfield 18, 3) := by decide +kernel
theorem d_Atoms_energyOfMotion_33 : decode b_Atoms_energyOfMotion 33 = .ok (.iload_n 3, 1) := by decide +kernel
theorem d_Atoms_energyOfMotion_34 : decode b_Atoms_energyOfMotion 34 = .ok (.daload, 1) := by decide +kernel
theorem d_Atoms_energyOfMotion_35 : decode b_Atoms_energyOfMotion 35 = .ok (.dmul, 1) := by decide +kernel
theorem d_Atoms_energyOfMotion_36 : decode b_Atoms_energyOfMotion 36 = .ok (.aload_n 0, 1) := by decide +kernel
theorem d_Atoms_energyOfMotion_37 : decode b_Atoms_energyOfMotion 37 = .ok (.getfield 21, 3) := by decide +kernel
theorem d_Atoms_energyOfMotion_40 : decode b_Atoms_energyOfMotion 40 = .ok (.iload_n 3, 1) := by decide +kernel
theorem d_Atoms_energyOfMotion_41 : decode b_Atoms_energyOfMotion 41 = .ok (.daload, 1) := by decide +kernel
theorem d_Atoms_energyOfMotion_42 : decode b_Atoms_energyOfMotion 42 = .ok (.aload_n 0, 1) := by decide +kernel
theorem d_Atoms_energyOfMotion_43 : decode b_Atoms_energyOfMotion 43 = .ok (.getfield 21, 3) := by decide +kernel
theorem d_Atoms_energyOfMotion_46 : decode b_Atoms_energyOfMotion 46 = .ok (.iload_n 3, 1) := by decide +kernel
theorem d_Atoms_energyOfMotion_47 : decode b_Atoms_energyOfMotion 47 = .ok (.daload, 1) := by decide +kernel
theorem d_Atoms_energyOfMotion_48 : decode b_Atoms_energyOfMotion 48 = .ok (.dmul, 1) := by decide +kernel
theorem d_Atoms_energyOfMotion_49 : decode b_Atoms_energyOfMotion 49 = .ok (.dadd, 1) := by decide +kernel
theorem d_Atoms_energyOfMotion_50 : decode b_Atoms_energyOfMotion 50 = .ok (.dmul, 1) := by decide +kernel
theorem d_Atoms_energyOfMotion_51 : decode b_Atoms_energyOfMotion 51 = .ok (.dadd, 1) := by decide +kernel
theorem d_Atoms_energyOfMotion_52 : decode b_Atoms_energyOfMotion 52 = .ok (.dstore_n 1, 1) := by decide +kernel
theorem d_Atoms_energyOfMotion_53 : decode b_Atoms_energyOfMotion 53 = .ok (.iinc 3 1, 3) := by decide +kernel
theorem d_Atoms_energyOfMotion_56 : decode b_Atoms_energyOfMotion 56 = .ok (.goto (-52), 3) := by decide +kernel
theorem d_Atoms_energyOfMotion_59 : decode b_Atoms_energyOfMotion 59 = .ok (.dload_n 1, 1) := by decide +kernel
theorem d_Atoms_energyOfMotion_60 : decode b_Atoms_energyOfMotion 60 = .ok (.dreturn, 1) := by decide +kernel
theorem d_Atoms_heat_0 : decode b_Atoms_heat 0 = .ok (.dconst 0, 1) := by decide +kernel
theorem d_Atoms_heat_1 : decode b_Atoms_heat 1 = .ok (.dstore_n 1, 1) := by decide +kernel
theorem d_Atoms_heat_2 : decode b_Atoms_heat 2 = .ok (.iconst 0, 1) := by decide +kernel
theorem d_Atoms_heat_3 : decode b_Atoms_heat 3 = .ok (.istore_n 3, 1) := by decide +kernel
theorem d_Atoms_heat_4 : decode b_Atoms_heat 4 = .ok (.iconst 0, 1) := by decide +kernel
theorem d_Atoms_heat_5 : decode b_Atoms_heat 5 = .ok (.istore 4, 2) := by decide +kernel
theorem d_Atoms_heat_7 : decode b_Atoms_heat 7 = .ok (.iload 4, 2) := by decide +kernel
theorem d_Atoms_heat_9 : decode b_Atoms_heat 9 = .ok (.aload_n 0, 1) := by decide +kernel
theorem d_Atoms_heat_10 : decode b_Atoms_heat 10 = .ok (.getfield 35, 3) := by decide +kernel
theorem d_Atoms_heat_13 : decode b_Atoms_heat 13 = .ok (.if_icmp .ge 64, 3) := by decide +kernel
theorem d_Atoms_heat_16 : decode b_Atoms_heat 16 = .ok (.dload_n 1, 1) := by decide +kernel
theorem d_Atoms_heat_17 : decode b_Atoms_heat 17 = .ok (.aload_n 0, 1) := by decide +kernel
theorem d_Atoms_heat_18 : decode b_Atoms_heat 18 = .ok (.getfield 24, 3) := by decide +kernel
theorem d_Atoms_heat_21 : decode b_Atoms_heat 21 = .ok (.iload 4, 2) := by decide +kernel
theorem d_Atoms_heat_23 : decode b_Atoms_heat 23 = .ok (.daload, 1) := by decide +kernel
theorem d_Atoms_heat_24 : decode b_Atoms_heat 24 = .ok (.aload_n 0, 1) := by decide +kernel
theorem d_Atoms_heat_25 : decode b_Atoms_heat 25 = .ok (.getfield 18, 3) := by decide +kernel
theorem d_Atoms_heat_28 : decode b_Atoms_heat 28 = .ok (.iload 4, 2) := by decide +kernel
theorem d_Atoms_heat_30 : decode b_Atoms_heat 30 = .ok (.daload, 1) := by decide +kernel
theorem d_Atoms_heat_31 : decode b_Atoms_heat 31 = .ok (.aload_n 0, 1) := by decide +kernel
theorem d_Atoms_heat_32 : decode b_Atoms_heat 32 = .ok (.getfield 18, 3) := by decide +kernel
theorem d_Atoms_heat_35 : decode b_Atoms_heat 35 = .ok (.iload 4, 2) := by decide +kernel
theorem d_Atoms_heat_37 : decode b_Atoms_heat 37 = .ok (.daload, 1) := by decide +kernel
theorem d_Atoms_heat_38 : decode b_Atoms_heat 38 = .ok (.dmul, 1) := by decide +kernel
theorem d_Atoms_heat_39 : decode b_Atoms_heat 39 = .ok (.aload_n 0, 1) := by decide +kernel
theorem d_Atoms_heat_40 : decode b_Atoms_heat 40 = .ok (.getfield 21, 3) := by decide +kernel
theorem d_Atoms_heat_43 : decode b_Atoms_heat 43 = .ok (.iload 4, 2) := by decide +kernel
theorem d_Atoms_heat_45 : decode b_Atoms_heat 45 = .ok (.daload, 1) := by decide +kernel
theorem d_Atoms_heat_46 : decode b_Atoms_heat 46 = .ok (.aload_n 0, 1) := by decide +kernel
theorem d_Atoms_heat_47 : decode b_Atoms_heat 47 = .ok (.getfield 21, 3) := by decide +kernel
theorem d_Atoms_heat_50 : decode b_Atoms_heat 50 = .ok (.iload 4, 2) := by decide +kernel
theorem d_Atoms_heat_52 : decode b_Atoms_heat 52 = .ok (.daload, 1) := by decide +kernel
theorem d_Atoms_heat_53 : decode b_Atoms_heat 53 = .ok (.dmul, 1) := by decide +kernel
theorem d_Atoms_heat_54 : decode b_Atoms_heat 54 = .ok (.dadd, 1) := by decide +kernel
theorem d_Atoms_heat_55 : decode b_Atoms_heat 55 = .ok (.dmul, 1) := by decide +kernel
theorem d_Atoms_heat_56 : decode b_Atoms_heat 56 = .ok (.dadd, 1) := by decide +kernel
theorem d_Atoms_heat_57 : decode b_Atoms_heat 57 = .ok (.dstore_n 1, 1) := by decide +kernel
theorem d_Atoms_heat_58 : decode b_Atoms_heat 58 = .ok (.aload_n 0, 1) := by decide +kernel
theorem d_Atoms_heat_59 : decode b_Atoms_heat 59 = .ok (.getfield 31, 3) := by decide +kernel
theorem d_Atoms_heat_62 : decode b_Atoms_heat 62 = .ok (.iload 4, 2) := by decide +kernel
theorem d_Atoms_heat_64 : decode b_Atoms_heat 64 = .ok (.baload, 1) := by decide +kernel
theorem d_Atoms_heat_65 : decode b_Atoms_heat 65 = .ok (.ifCond .ne 6, 3) := by decide +kernel
theorem d_Atoms_heat_68 : decode b_Atoms_heat 68 = .ok (.iinc 3 1, 3) := by decide +kernel
theorem d_Atoms_heat_71 : decode b_Atoms_heat 71 = .ok (.iinc 4 1, 3) := by decide +kernel
theorem d_Atoms_heat_74 : decode b_Atoms_heat 74 = .ok (.goto (-67), 3) := by decide +kernel
theorem d_Atoms_heat_77 : decode b_Atoms_heat 77 = .ok (.iload_n 3, 1) := by decide +kernel
theorem d_Atoms_heat_78 : decode b_Atoms_heat 78 = .ok (.ifCond .ne 7, 3) := by decide +kernel
theorem d_Atoms_heat_81 : decode b_Atoms_heat 81 = .ok (.dconst 0, 1) := by decide +kernel
theorem d_Atoms_heat_82 : decode b_Atoms_heat 82 = .ok (.goto 11, 3) := by decide +kernel
theorem d_Atoms_heat_85 : decode b_Atoms_heat 85 = .ok (.dload_n 1, 1) := by decide +kernel
theorem d_Atoms_heat_86 : decode b_Atoms_heat 86 = .ok (.ldc2_w 39, 3) := by decide +kernel
theorem d_Atoms_heat_89 : decode b_Atoms_heat 89 = .ok (.iload_n 3, 1) := by decide +kernel
theorem d_Atoms_heat_90 : decode b_Atoms_heat 90 = .ok (.i2d, 1) := by decide +kernel
theorem d_Atoms_heat_91 : decode b_Atoms_heat 91 = .ok (.dmul, 1) := by decide +kernel
theorem d_Atoms_heat_92 : decode b_Atoms_heat 92 = .ok (.ddiv, 1) := by decide +kernel
theorem d_Atoms_heat_93 : decode b_Atoms_heat 93 = .ok (.dreturn, 1) := by decide +kernel
theorem d_Atoms_add_0 : decode b_Atoms_add 0 = .ok (.aload_n 0, 1) := by decide +kernel
theorem d_Atoms_add_1 : decode b_Atoms_add 1 = .ok (.getfield 35, 3) := by decide +kernel
theorem d_Atoms_add_4 : decode b_Atoms_add 4 = .ok (.istore 8, 2) := by decide +kernel
theorem d_Atoms_add_6 : decode b_Atoms_add 6 = .ok (.aload_n 0, 1) := by decide +kernel
theorem d_Atoms_add_7 : decode b_Atoms_add 7 = .ok (.getfield 9, 3) := by decide +kernel
theorem d_Atoms_add_10 : decode b_Atoms_add 10 = .ok (.iload 8, 2) := by decide +kernel
theorem d_Atoms_add_12 : decode b_Atoms_add 12 = .ok (.dload_n 1, 1) := by decide +kernel
theorem d_Atoms_add_13 : decode b_Atoms_add 13 = .ok (.dastore, 1) := by decide +kernel
theorem d_Atoms_add_14 : decode b_Atoms_add 14 = .ok (.aload_n 0, 1) := by decide +kernel
theorem d_Atoms_add_15 : decode b_Atoms_add 15 = .ok (.getfield 15, 3) := by decide +kernel
theorem d_Atoms_add_18 : decode b_Atoms_add 18 = .ok (.iload 8, 2) := by decide +kernel
theorem d_Atoms_add_20 : decode b_Atoms_add 20 = .ok (.dload_n 3, 1) := by decide +kernel
theorem d_Atoms_add_21 : decode b_Atoms_add 21 = .ok (.dastore, 1) := by decide +kernel
theorem d_Atoms_add_22 : decode b_Atoms_add 22 = .ok (.aload_n 0, 1) := by decide +kernel
theorem d_Atoms_add_23 : decode b_Atoms_add 23 = .ok (.getfield 24, 3) := by decide +kernel
theorem d_Atoms_add_26 : decode b_Atoms_add 26 = .ok (.iload 8, 2) := by decide +kernel
theorem d_Atoms_add_28 : decode b_Atoms_add 28 = .ok (.dload 5, 2) := by decide +kernel
theorem d_Atoms_add_30 : decode b_Atoms_add 30 = .ok (.dastore, 1) := by decide +kernel
theorem d_Atoms_add_31 : decode b_Atoms_add 31 = .ok (.aload_n 0, 1) := by decide +kernel
theorem d_Atoms_add_32 : decode b_Atoms_add 32 = .ok (.getfield 27, 3) := by decide +kernel
theorem d_Atoms_add_35 : decode b_Atoms_add 35 = .ok (.iload 8, 2) := by decide +kernel
theorem d_Atoms_add_37 : decode b_Atoms_add 37 = .ok (.iload 7, 2) := by decide +kernel
theorem d_Atoms_add_39 : decode b_Atoms_add 39 = .ok (.iastore, 1) := by decide +kernel
theorem d_Atoms_add_40 : decode b_Atoms_add 40 = .ok (.aload_n 0, 1) := by decide +kernel
theorem d_Atoms_add_41 : decode b_Atoms_add 41 = .ok (.dup, 1) := by decide +kernel
theorem d_Atoms_add_42 : decode b_Atoms_add 42 = .ok (.getfield 35, 3) := by decide +kernel
theorem d_Atoms_add_45 : decode b_Atoms_add 45 = .ok (.iconst 1, 1) := by decide +kernel
theorem d_Atoms_add_46 : decode b_Atoms_add 46 = .ok (.iadd, 1) := by decide +kernel
theorem d_Atoms_add_47 : decode b_Atoms_add 47 = .ok (.putfield 35, 3) := by decide +kernel
theorem d_Atoms_add_50 : decode b_Atoms_add 50 = .ok (.iload 8, 2) := by decide +kernel
theorem d_Atoms_add_52 : decode b_Atoms_add 52 = .ok (.ireturn, 1) := by decide +kernel
set_option maxHeartbeats 4000000 in
set_option maxRecDepth 100000 in
/-- has -/
theorem c_Atoms_has (l : Launch) (dC : Nat → ClassId) (dI : Nat → Nat → Nat) (cI cD cZ : ClassId) (sz : Nat) (ha : Nat) (hax : Nat) (hay : Nat) (hau : Nat) (hav : Nat) (ham : Nat) (has : Nat) (hak : Nat) (x : Nat → UInt64) (y : Nat → UInt64) (u : Nat → UInt64) (v : Nat → UInt64) (mass : Nat → UInt64) (sort : Nat → Int32) (stuck : Nat → Int32) (n : Nat) (q : Int32) : Met l y_Atoms_has w_Atoms_has ({ frames := 0, cells := 0, slots := 0, locals := 0 }) (va_Pc [.ref ha, .int q] (gx_B (dC, dI) classes (gx_T cI cD cZ) [(ha, .inr (0, [.ref hax, .ref hay, .ref hau, .ref hav, .ref ham, .ref has, .ref hak, .int (nI n)])), (hax, .inl (cD, 10, .inr (.inr (.inr (.inl x))))), (hay, .inl (cD, 10, .inr (.inr (.inr (.inl y))))), (hau, .inl (cD, 10, .inr (.inr (.inr (.inl u))))), (hav, .inl (cD, 10, .inr (.inr (.inr (.inl v))))), (ham, .inl (cD, 10, .inr (.inr (.inr (.inl mass))))), (has, .inl (cI, 10, .inl sort)), (hak, .inl (cZ, 10, .inl stuck))] sz)) (va_Qi (fun (rr : Int32) (uu : Unit) => rr = pb_b (pb_has n q)) (fun (uu : Unit) t => gx_E (dC, dI) classes (gx_T cI cD cZ) (va_A [(ha, .inr (0, [.ref hax, .ref hay, .ref hau, .ref hav, .ref ham, .ref has, .ref hak, .int (nI n)])), (hax, .inl (cD, 10, .inr (.inr (.inr (.inl x))))), (hay, .inl (cD, 10, .inr (.inr (.inr (.inl y))))), (hau, .inl (cD, 10, .inr (.inr (.inr (.inl u))))), (hav, .inl (cD, 10, .inr (.inr (.inr (.inl v))))), (ham, .inl (cD, 10, .inr (.inr (.inr (.inl mass))))), (has, .inl (cI, 10, .inl sort)), (hak, .inl (cZ, 10, .inl stuck))] sz) [(ha, .inr (0, [.ref hax, .ref hay, .ref hau, .ref hav, .ref ham, .ref has, .ref hak, .int (nI n)])), (hax, .inl (cD, 10, .inr (.inr (.inr (.inl x))))), (hay, .inl (cD, 10, .inr (.inr (.inr (.inl y))))), (hau, .inl (cD, 10, .inr (.inr (.inr (.inl u))))), (hav, .inl (cD, 10, .inr (.inr (.inr (.inl v))))), (ham, .inl (cD, 10, .inr (.inr (.inr (.inl mass))))), (has, .inl (cI, 10, .inl sort)), (hak, .inl (cZ, 10, .inl stuck))] t) (va_A [(ha, .inr (0, [.ref hax, .ref hay, .ref hau, .ref hav, .ref ham, .ref has, .ref hak, .int (nI n)])), (hax, .inl (cD, 10, .inr (.inr (.inr (.inl x))))), (hay, .inl (cD, 10, .inr (.inr (.inr (.inl y))))), (hau, .inl (cD, 10, .inr (.inr (.inr (.inl u))))), (hav, .inl (cD, 10, .inr (.inr (.inr (.inl v))))), (ham, .inl (cD, 10, .inr (.inr (.inr (.inl mass))))), (has, .inl (cI, 10, .inl sort)), (hak, .inl (cZ, 10, .inl stuck))] sz)) 0 0 (va_A [(ha, .inr (0, [.ref hax, .ref hay, .ref hau, .ref hav, .ref ham, .ref has, .ref hak, .int (nI n)])), (hax, .inl (cD, 10, .inr (.inr (.inr (.inl x))))), (hay, .inl (cD, 10, .inr (.inr (.inr (.inl y))))), (hau, .inl (cD, 10, .inr (.inr (.inr (.inl u))))), (hav, .inl (cD, 10, .inr (.inr (.inr (.inl v))))), (ham, .inl (cD, 10, .inr (.inr (.inr (.inl mass))))), (has, .inl (cI, 10, .inl sort)), (hak, .inl (cZ, 10, .inl stuck))] sz) := by
  refine Met.ofW (cc := b_Atoms_has) (maxL := 2) (ret := (some .boolean)) (by decide) rfl ?_
  intro p e s m args below meth c s₁ B hml hv
  obtain ⟨rfl, hsz, hP, hK, hD0, hN⟩ := hv
  have hx := B.exec
  have hb := B.bytes
  have hr := B.returns
  have hts := atoms_spec (ws := w_Atoms_has) B.pre
  have hown : s.vm.findClass R_Atoms = some m.cls := findClass_of_methodNamed B.named
  have hlocks := B.notSynchronized
  subst hsz
  have hD := hD0.self (sz := s.heap.size)
  generalize hAe : va_A [(ha, .inr (0, [.ref hax, .ref hay, .ref hau, .ref hav, .ref ham, .ref has, .ref hak, .int (nI n)])), (hax, .inl (cD, 10, .inr (.inr (.inr (.inl x))))), (hay, .inl (cD, 10, .inr (.inr (.inr (.inl y))))), (hau, .inl (cD, 10, .inr (.inr (.inr (.inl u))))), (hav, .inl (cD, 10, .inr (.inr (.inr (.inl v))))), (ham, .inl (cD, 10, .inr (.inr (.inr (.inl mass))))), (has, .inl (cI, 10, .inl sort)), (hak, .inl (cZ, 10, .inl stuck))] s.heap.size = A at hD ⊢
  have hA : ∀ q : Nat, s.heap.size ≤ q → A q := fun q h => by rw [← hAe]; exact Or.inr h
  have hS : va_S A s.heap s.heap [] := va_S.rf
  have hl := lv_entry ([.ref ha, .int q]) (n := 2) (Nat.le_of_ble_eq_true rfl)
  rw [lg_entry_eq]
  generalize (lg_sl ([.ref ha, .int q]) ++ List.replicate (2 - (lg_sl ([.ref ha, .int q])).length) Slot.unset).toArray = ls at hl ⊢
  have hl : lv_has ls 2 [(0, .ref ha), (1, .int q)] := hl
  obtain ⟨H, hH⟩ : ∃ H, H = s.heap := ⟨_, rfl⟩
  rw [← hH] at hP
  have hS : va_S A s.heap H [] := by rw [hH]; exact hS
  refine gx_start hH ?_
  refine lv_iload_n hx hb d_Atoms_has_0 rfl (lv_at hl 1 rfl) ?_
  refine lv_if_lt (tgt := 16) hx hb d_Atoms_has_1 (by decide) (fun c1 => ?_) (fun c1 => ?_)
  · skip
    refine lv_iconst (v := 0) hx hb d_Atoms_has_16 (by decide) ?_
    have hP9 := hP.sub (ws' := [(ha, .inr (0, [.ref hax, .ref hay, .ref hau, .ref hav, .ref ham, .ref has, .ref hak, .int (nI n)])), (hax, .inl (cD, 10, .inr (.inr (.inr (.inl x))))), (hay, .inl (cD, 10, .inr (.inr (.inr (.inl y))))), (hau, .inl (cD, 10, .inr (.inr (.inr (.inl u))))), (hav, .inl (cD, 10, .inr (.inr (.inr (.inl v))))), (ham, .inl (cD, 10, .inr (.inr (.inr (.inl mass))))), (has, .inl (cI, 10, .inl sort)), (hak, .inl (cZ, 10, .inl stuck))]) [0, 1, 2, 3, 4, 5, 6, 7] rfl
    have hD9 := hD.sub (ws' := [(ha, .inr (0, [.ref hax, .ref hay, .ref hau, .ref hav, .ref ham, .ref has, .ref hak, .int (nI n)])), (hax, .inl (cD, 10, .inr (.inr (.inr (.inl x))))), (hay, .inl (cD, 10, .inr (.inr (.inr (.inl y))))), (hau, .inl (cD, 10, .inr (.inr (.inr (.inl u))))), (hav, .inl (cD, 10, .inr (.inr (.inr (.inl v))))), (ham, .inl (cD, 10, .inr (.inr (.inr (.inl mass))))), (has, .inl (cI, 10, .inl sort)), (hak, .inl (cZ, 10, .inl stuck))]) [0, 1, 2, 3, 4, 5, 6, 7] (by decide) rfl
    exact W.zret (v := 0) hx hb hr rfl (fun t ht hW => ⟨⟨0, (), rfl, (pb_b_f (fun h => h.1 c1)).symm, by rw [ht]; exact hP9, va_K.moved hW.alike hK, hD9⟩, hS.F ht⟩) hS.2.2 d_Atoms_has_17
  · skip
    refine lv_iload_n hx hb d_Atoms_has_4 rfl (lv_at hl 1 rfl) ?_
    refine lv_aload_n hx hb d_Atoms_has_5 rfl (lv_at hl 0 rfl) ?_
    refine va_get (D := (dC, dI)) (ci := 0) (v := .int (nI n)) (C := R_Atoms) (T := F_Atoms) (N := 8) hx hb hts (fun w h => List.mem_cons_of_mem _ (i_Atoms w h)) hown hK hP 0 rfl rfl 7 (by decide) (hts _ (List.mem_cons_of_mem _ kw_137)) (fun _ h9 => h9) rfl d_Atoms_has_6 ?_
    refine lv_icmp_ge (tgt := 16) hx hb d_Atoms_has_9 (by decide) (fun c9 => ?_) (fun c9 => ?_)
    · skip
      refine lv_iconst (v := 0) hx hb d_Atoms_has_16 (by decide) ?_
      have hP9 := hP.sub (ws' := [(ha, .inr (0, [.ref hax, .ref hay, .ref hau, .ref hav, .ref ham, .ref has, .ref hak, .int (nI n)])), (hax, .inl (cD, 10, .inr (.inr (.inr (.inl x))))), (hay, .inl (cD, 10, .inr (.inr (.inr (.inl y))))), (hau, .inl (cD, 10, .inr (.inr (.inr (.inl u))))), (hav, .inl (cD, 10, .inr (.inr (.inr (.inl v))))), (ham, .inl (cD, 10, .inr (.inr (.inr (.inl mass))))), (has, .inl (cI, 10, .inl sort)), (hak, .inl (cZ, 10, .inl stuck))]) [0, 1, 2, 3, 4, 5, 6, 7] rfl
      have hD9 := hD.sub (ws' := [(ha, .inr (0, [.ref hax, .ref hay, .ref hau, .ref hav, .ref ham, .ref has, .ref hak, .int (nI n)])), (hax, .inl (cD, 10, .inr (.inr (.inr (.inl x))))), (hay, .inl (cD, 10, .inr (.inr (.inr (.inl y))))), (hau, .inl (cD, 10, .inr (.inr (.inr (.inl u))))), (hav, .inl (cD, 10, .inr (.inr (.inr (.inl v))))), (ham, .inl (cD, 10, .inr (.inr (.inr (.inl mass))))), (has, .inl (cI, 10, .inl sort)), (hak, .inl (cZ, 10, .inl stuck))]) [0, 1, 2, 3, 4, 5, 6, 7] (by decide) rfl
      exact W.zret (v := 0) hx hb hr rfl (fun t ht hW => ⟨⟨0, (), rfl, (pb_b_f (fun h => h.2 c9)).symm, by rw [ht]; exact hP9, va_K.moved hW.alike hK, hD9⟩, hS.F ht⟩) hS.2.2 d_Atoms_has_17
    · skip
      refine lv_iconst (v := 1) hx hb d_Atoms_has_12 (by decide) ?_
      refine lv_goto (tgt := 17) hx hb d_Atoms_has_13 (by decide) ?_
      have hP9 := hP.sub (ws' := [(ha, .inr (0, [.ref hax, .ref hay, .ref hau, .ref hav, .ref ham, .ref has, .ref hak, .int (nI n)])), (hax, .inl (cD, 10, .inr (.inr (.inr (.inl x))))), (hay, .inl (cD, 10, .inr (.inr (.inr (.inl y))))), (hau, .inl (cD, 10, .inr (.inr (.inr (.inl u))))), (hav, .inl (cD, 10, .inr (.inr (.inr (.inl v))))), (ham, .inl (cD, 10, .inr (.inr (.inr (.inl mass))))), (has, .inl (cI, 10, .inl sort)), (hak, .inl (cZ, 10, .inl stuck))]) [0, 1, 2, 3, 4, 5, 6, 7] rfl
      have hD9 := hD.sub (ws' := [(ha, .inr (0, [.ref hax, .ref hay, .ref hau, .ref hav, .ref ham, .ref has, .ref hak, .int (nI n)])), (hax, .inl (cD, 10, .inr (.inr (.inr (.inl x))))), (hay, .inl (cD, 10, .inr (.inr (.inr (.inl y))))), (hau, .inl (cD, 10, .inr (.inr (.inr (.inl u))))), (hav, .inl (cD, 10, .inr (.inr (.inr (.inl v))))), (ham, .inl (cD, 10, .inr (.inr (.inr (.inl mass))))), (has, .inl (cI, 10, .inl sort)), (hak, .inl (cZ, 10, .inl stuck))]) [0, 1, 2, 3, 4, 5, 6, 7] (by decide) rfl
      exact W.zret (v := 1) hx hb hr rfl (fun t ht hW => ⟨⟨1, (), rfl, (pb_b_t ⟨c1, c9⟩).symm, by rw [ht]; exact hP9, va_K.moved hW.alike hK, hD9⟩, hS.F ht⟩) hS.2.2 d_Atoms_has_17
set_option maxHeartbeats 4000000 in
set_option maxRecDepth 100000 in
/-- ease -/
theorem c_Atoms_ease (l : Launch) (dC : Nat → ClassId) (dI : Nat → Nat → Nat) (cI cD cZ : ClassId) (sz : Nat) (ha : Nat) (hax : Nat) (hay : Nat) (hau : Nat) (hav : Nat) (ham : Nat) (has : Nat) (hak : Nat) (x : Nat → UInt64) (y : Nat → UInt64) (u : Nat → UInt64) (v : Nat → UInt64) (mass : Nat → UInt64) (sort : Nat → Int32) (stuck : Nat → Int32) (n : Nat) (i : Nat) (hn : n ≤ 10) (hi : i < n) (hmI : ∀ i, i < n → pb_Im (mass i)) : Met l y_Atoms_ease w_Atoms_ease ({ frames := 0, cells := 0, slots := 0, locals := 0 }) (va_Pc [.ref ha, .int (nI i)] (gx_B (dC, dI) classes (gx_T cI cD cZ) [(ha, .inr (0, [.ref hax, .ref hay, .ref hau, .ref hav, .ref ham, .ref has, .ref hak, .int (nI n)])), (hax, .inl (cD, 10, .inr (.inr (.inr (.inl x))))), (hay, .inl (cD, 10, .inr (.inr (.inr (.inl y))))), (hau, .inl (cD, 10, .inr (.inr (.inr (.inl u))))), (hav, .inl (cD, 10, .inr (.inr (.inr (.inl v))))), (ham, .inl (cD, 10, .inr (.inr (.inr (.inl mass))))), (has, .inl (cI, 10, .inl sort)), (hak, .inl (cZ, 10, .inl stuck))] sz)) (va_Qd (fun (rr : UInt64) (uu : Unit) => rr = pb_ease mass stuck i) (fun (uu : Unit) t => gx_E (dC, dI) classes (gx_T cI cD cZ) (va_A [(ha, .inr (0, [.ref hax, .ref hay, .ref hau, .ref hav, .ref ham, .ref has, .ref hak, .int (nI n)])), (hax, .inl (cD, 10, .inr (.inr (.inr (.inl x))))), (hay, .inl (cD, 10, .inr (.inr (.inr (.inl y))))), (hau, .inl (cD, 10, .inr (.inr (.inr (.inl u))))), (hav, .inl (cD, 10, .inr (.inr (.inr (.inl v))))), (ham, .inl (cD, 10, .inr (.inr (.inr (.inl mass))))), (has, .inl (cI, 10, .inl sort)), (hak, .inl (cZ, 10, .inl stuck))] sz) [(ha, .inr (0, [.ref hax, .ref hay, .ref hau, .ref hav, .ref ham, .ref has, .ref hak, .int (nI n)])), (hax, .inl (cD, 10, .inr (.inr (.inr (.inl x))))), (hay, .inl (cD, 10, .inr (.inr (.inr (.inl y))))), (hau, .inl (cD, 10, .inr (.inr (.inr (.inl u))))), (hav, .inl (cD, 10, .inr (.inr (.inr (.inl v))))), (ham, .inl (cD, 10, .inr (.inr (.inr (.inl mass))))), (has, .inl (cI, 10, .inl sort)), (hak, .inl (cZ, 10, .inl stuck))] t) (va_A [(ha, .inr (0, [.ref hax, .ref hay, .ref hau, .ref hav, .ref ham, .ref has, .ref hak, .int (nI n)])), (hax, .inl (cD, 10, .inr (.inr (.inr (.inl x))))), (hay, .inl (cD, 10, .inr (.inr (.inr (.inl y))))), (hau, .inl (cD, 10, .inr (.inr (.inr (.inl u))))), (hav, .inl (cD, 10, .inr (.inr (.inr (.inl v))))), (ham, .inl (cD, 10, .inr (.inr (.inr (.inl mass))))), (has, .inl (cI, 10, .inl sort)), (hak, .inl (cZ, 10, .inl stuck))] sz)) 0 0 (va_A [(ha, .inr (0, [.ref hax, .ref hay, .ref hau, .ref hav, .ref ham, .ref has, .ref hak, .int (nI n)])), (hax, .inl (cD, 10, .inr (.inr (.inr (.inl x))))), (hay, .inl (cD, 10, .inr (.inr (.inr (.inl y))))), (hau, .inl (cD, 10, .inr (.inr (.inr (.inl u))))), (hav, .inl (cD, 10, .inr (.inr (.inr (.inl v))))), (ham, .inl (cD, 10, .inr (.inr (.inr (.inl mass))))), (has, .inl (cI, 10, .inl sort)), (hak, .inl (cZ, 10, .inl stuck))] sz) := by
  refine Met.ofW (cc := b_Atoms_ease) (maxL := 2) (ret := (some .double)) (by decide) rfl ?_
  intro p e s m args below meth c s₁ B hml hv
  obtain ⟨rfl, hsz, hP, hK, hD0, hN⟩ := hv
  have hx := B.exec
  have hb := B.bytes
  have hr := B.returns
  have hts := atoms_spec (ws := w_Atoms_ease) B.pre
  have hown : s.vm.findClass R_Atoms = some m.cls := findClass_of_methodNamed B.named
  have hlocks := B.notSynchronized
  subst hsz
  have hD := hD0.self (sz := s.heap.size)
  generalize hAe : va_A [(ha, .inr (0, [.ref hax, .ref hay, .ref hau, .ref hav, .ref ham, .ref has, .ref hak, .int (nI n)])), (hax, .inl (cD, 10, .inr (.inr (.inr (.inl x))))), (hay, .inl (cD, 10, .inr (.inr (.inr (.inl y))))), (hau, .inl (cD, 10, .inr (.inr (.inr (.inl u))))), (hav, .inl (cD, 10, .inr (.inr (.inr (.inl v))))), (ham, .inl (cD, 10, .inr (.inr (.inr (.inl mass))))), (has, .inl (cI, 10, .inl sort)), (hak, .inl (cZ, 10, .inl stuck))] s.heap.size = A at hD ⊢
  have hA : ∀ q : Nat, s.heap.size ≤ q → A q := fun q h => by rw [← hAe]; exact Or.inr h
  have hS : va_S A s.heap s.heap [] := va_S.rf
  have hl := lv_entry ([.ref ha, .int (nI i)]) (n := 2) (Nat.le_of_ble_eq_true rfl)
  rw [lg_entry_eq]
  generalize (lg_sl ([.ref ha, .int (nI i)]) ++ List.replicate (2 - (lg_sl ([.ref ha, .int (nI i)])).length) Slot.unset).toArray = ls at hl ⊢
  have hl : lv_has ls 2 [(0, .ref ha), (1, .int (nI i))] := hl
  obtain ⟨H, hH⟩ : ∃ H, H = s.heap := ⟨_, rfl⟩
  rw [← hH] at hP
  have hS : va_S A s.heap H [] := by rw [hH]; exact hS
  refine gx_start hH ?_
  refine lv_aload_n hx hb d_Atoms_ease_0 rfl (lv_at hl 0 rfl) ?_
  refine va_get (D := (dC, dI)) (ci := 0) (v := .ref hak) (C := R_Atoms) (T := F_Atoms) (N := 8) hx hb hts (fun w h => List.mem_cons_of_mem _ (i_Atoms w h)) hown hK hP 0 rfl rfl 6 (by decide) (hts _ (List.mem_cons_of_mem _ kw_134)) (fun _ h9 => h9) rfl d_Atoms_ease_1 ?_
  refine lv_iload_n hx hb d_Atoms_ease_4 rfl (lv_at hl 1 rfl) ?_
  refine gx_zald hx hb hK hP 7 2 rfl rfl (by omega) (by decide) d_Atoms_ease_5 ?_
  refine lv_if_eq (tgt := 13) hx hb d_Atoms_ease_6 (by decide) (fun c6 => ?_) (fun c6 => ?_)
  · skip
    refine lv_dconst1 hx hb d_Atoms_ease_13 ?_
    refine lv_aload_n hx hb d_Atoms_ease_14 rfl (lv_at hl 0 rfl) ?_
    refine va_get (D := (dC, dI)) (ci := 0) (v := .ref ham) (C := R_Atoms) (T := F_Atoms) (N := 8) hx hb hts (fun w h => List.mem_cons_of_mem _ (i_Atoms w h)) hown hK hP 0 rfl rfl 4 (by decide) (hts _ (List.mem_cons_of_mem _ kw_128)) (fun _ h9 => h9) rfl d_Atoms_ease_15 ?_
    refine lv_iload_n hx hb d_Atoms_ease_18 rfl (lv_at hl 1 rfl) ?_
    refine gx_dald hx hb hK hP 5 1 rfl rfl (by omega) (by decide) d_Atoms_ease_19 ?_
    have g_1 := hmI i (by omega)
    have g_2 := fp_const (a := FP.dconst1) (T := (fp_d 1 1074)) (by decide +kernel)
    have g_3 := fp_I_div (fp_d 1 1068) (fp_d 1 1077) g_2 g_1 (by decide +kernel)
    refine lv_ddiv hx hb d_Atoms_ease_20 g_3.n ?_
    have hP9 := hP.sub (ws' := [(ha, .inr (0, [.ref hax, .ref hay, .ref hau, .ref hav, .ref ham, .ref has, .ref hak, .int (nI n)])), (hax, .inl (cD, 10, .inr (.inr (.inr (.inl x))))), (hay, .inl (cD, 10, .inr (.inr (.inr (.inl y))))), (hau, .inl (cD, 10, .inr (.inr (.inr (.inl u))))), (hav, .inl (cD, 10, .inr (.inr (.inr (.inl v))))), (ham, .inl (cD, 10, .inr (.inr (.inr (.inl mass))))), (has, .inl (cI, 10, .inl sort)), (hak, .inl (cZ, 10, .inl stuck))]) [0, 1, 2, 3, 4, 5, 6, 7] rfl
    have hD9 := hD.sub (ws' := [(ha, .inr (0, [.ref hax, .ref hay, .ref hau, .ref hav, .ref ham, .ref has, .ref hak, .int (nI n)])), (hax, .inl (cD, 10, .inr (.inr (.inr (.inl x))))), (hay, .inl (cD, 10, .inr (.inr (.inr (.inl y))))), (hau, .inl (cD, 10, .inr (.inr (.inr (.inl u))))), (hav, .inl (cD, 10, .inr (.inr (.inr (.inl v))))), (ham, .inl (cD, 10, .inr (.inr (.inr (.inl mass))))), (has, .inl (cI, 10, .inl sort)), (hak, .inl (cZ, 10, .inl stuck))]) [0, 1, 2, 3, 4, 5, 6, 7] (by decide) rfl
    exact W.dret (v := (FP.ddiv FP.dconst1 (mass i))) hx hb hr (fun t ht hW => ⟨⟨(FP.ddiv FP.dconst1 (mass i)), (), rfl, (by unfold pb_ease; rw [if_pos c6]), by rw [ht]; exact hP9, va_K.moved hW.alike hK, hD9⟩, hS.F ht⟩) hS.2.2 d_Atoms_ease_21
  · skip
    refine lv_dconst0 hx hb d_Atoms_ease_9 ?_
    refine lv_goto (tgt := 21) hx hb d_Atoms_ease_10 (by decide) ?_
    have hP9 := hP.sub (ws' := [(ha, .inr (0, [.ref hax, .ref hay, .ref hau, .ref hav, .ref ham, .ref has, .ref hak, .int (nI n)])), (hax, .inl (cD, 10, .inr (.inr (.inr (.inl x))))), (hay, .inl (cD, 10, .inr (.inr (.inr (.inl y))))), (hau, .inl (cD, 10, .inr (.inr (.inr (.inl u))))), (hav, .inl (cD, 10, .inr (.inr (.inr (.inl v))))), (ham, .inl (cD, 10, .inr (.inr (.inr (.inl mass))))), (has, .inl (cI, 10, .inl sort)), (hak, .inl (cZ, 10, .inl stuck))]) [0, 1, 2, 3, 4, 5, 6, 7] rfl
    have hD9 := hD.sub (ws' := [(ha, .inr (0, [.ref hax, .ref hay, .ref hau, .ref hav, .ref ham, .ref has, .ref hak, .int (nI n)])), (hax, .inl (cD, 10, .inr (.inr (.inr (.inl x))))), (hay, .inl (cD, 10, .inr (.inr (.inr (.inl y))))), (hau, .inl (cD, 10, .inr (.inr (.inr (.inl u))))), (hav, .inl (cD, 10, .inr (.inr (.inr (.inl v))))), (ham, .inl (cD, 10, .inr (.inr (.inr (.inl mass))))), (has, .inl (cI, 10, .inl sort)), (hak, .inl (cZ, 10, .inl stuck))]) [0, 1, 2, 3, 4, 5, 6, 7] (by decide) rfl
    exact W.dret (v := FP.dconst0) hx hb hr (fun t ht hW => ⟨⟨FP.dconst0, (), rfl, (by unfold pb_ease; rw [if_neg c6]), by rw [ht]; exact hP9, va_K.moved hW.alike hK, hD9⟩, hS.F ht⟩) hS.2.2 d_Atoms_ease_21
set_option maxHeartbeats 4000000 in
set_option maxRecDepth 100000 in
/-- isTooFast -/
theorem c_Atoms_isTooFast (l : Launch) (dC : Nat → ClassId) (dI : Nat → Nat → Nat) (cI cD cZ : ClassId) (sz : Nat) (z : UInt64) : Met l y_Atoms_isTooFast w_Atoms_isTooFast ({ frames := 0, cells := 0, slots := 0, locals := 0 }) (va_Pc [.double z] (gx_B (dC, dI) classes (gx_T cI cD cZ) [] sz)) (va_Qi (fun (rr : Int32) (uu : Unit) => rr = pb_b (pb_fast z)) (fun (uu : Unit) t => gx_E (dC, dI) classes (gx_T cI cD cZ) (va_A [] sz) [] t) (va_A [] sz)) 0 0 (va_A [] sz) := by
  refine Met.ofW (cc := b_Atoms_isTooFast) (maxL := 2) (ret := (some .boolean)) (by decide) rfl ?_
  intro p e s m args below meth c s₁ B hml hv
  obtain ⟨rfl, hsz, hP, hK, hD0, hN⟩ := hv
  have hx := B.exec
  have hb := B.bytes
  have hr := B.returns
  have hts := atoms_spec (ws := w_Atoms_isTooFast) B.pre
  have hown : s.vm.findClass R_Atoms = some m.cls := findClass_of_methodNamed B.named
  have hlocks := B.notSynchronized
  subst hsz
  have hD := hD0.self (sz := s.heap.size)
  generalize hAe : va_A [] s.heap.size = A at hD ⊢
  have hA : ∀ q : Nat, s.heap.size ≤ q → A q := fun q h => by rw [← hAe]; exact Or.inr h
  have hS : va_S A s.heap s.heap [] := va_S.rf
  have hl := lv_entry ([.double z]) (n := 2) (Nat.le_of_ble_eq_true rfl)
  rw [lg_entry_eq]
  generalize (lg_sl ([.double z]) ++ List.replicate (2 - (lg_sl ([.double z])).length) Slot.unset).toArray = ls at hl ⊢
  have hl : lv_has ls 2 [(0, .double z)] := hl
  obtain ⟨H, hH⟩ : ∃ H, H = s.heap := ⟨_, rfl⟩
  rw [← hH] at hP
  have hS : va_S A s.heap H [] := by rw [hH]; exact hS
  refine gx_start hH ?_
  refine lv_dload_n hx hb d_Atoms_isTooFast_0 rfl (lv_at hl 0 rfl) ?_
  refine lv_ldc2d (v := 4696837146684686336) hx hb hown (hts (.constantDouble R_Atoms 57 4696837146684686336) (by decide +kernel)) d_Atoms_isTooFast_1 ?_
  refine gx_gtT (tgt := 16) hx hb d_Atoms_isTooFast_4 d_Atoms_isTooFast_5 (by decide) (fun c4 => ?_) (fun c4 => ?_)
  · skip
    refine lv_iconst (v := 1) hx hb d_Atoms_isTooFast_16 (by decide) ?_
    refine lv_goto (tgt := 21) hx hb d_Atoms_isTooFast_17 (by decide) ?_
    have hP9 := hP.sub (ws' := []) [] rfl
    have hD9 := hD.sub (ws' := []) [] (by decide) rfl
    exact W.zret (v := 1) hx hb hr rfl (fun t ht hW => ⟨⟨1, (), rfl, (pb_b_t (Or.inl c4)).symm, by rw [ht]; exact hP9, va_K.moved hW.alike hK, hD9⟩, hS.F ht⟩) hS.2.2 d_Atoms_isTooFast_21
  · skip
    refine lv_dload_n hx hb d_Atoms_isTooFast_8 rfl (lv_at hl 0 rfl) ?_
    refine lv_ldc2d (v := 13920209183539462144) hx hb hown (hts (.constantDouble R_Atoms 59 13920209183539462144) (by decide +kernel)) d_Atoms_isTooFast_9 ?_
    refine gx_lt (tgt := 20) hx hb d_Atoms_isTooFast_12 d_Atoms_isTooFast_13 (by decide) (fun c12 => ?_) (fun c12 => ?_)
    · skip
      refine lv_iconst (v := 0) hx hb d_Atoms_isTooFast_20 (by decide) ?_
      have hP9 := hP.sub (ws' := []) [] rfl
      have hD9 := hD.sub (ws' := []) [] (by decide) rfl
      exact W.zret (v := 0) hx hb hr rfl (fun t ht hW => ⟨⟨0, (), rfl, (pb_b_f (fun h => h.elim c4 c12)).symm, by rw [ht]; exact hP9, va_K.moved hW.alike hK, hD9⟩, hS.F ht⟩) hS.2.2 d_Atoms_isTooFast_21
    · skip
      refine lv_iconst (v := 1) hx hb d_Atoms_isTooFast_16 (by decide) ?_
      refine lv_goto (tgt := 21) hx hb d_Atoms_isTooFast_17 (by decide) ?_
      have hP9 := hP.sub (ws' := []) [] rfl
      have hD9 := hD.sub (ws' := []) [] (by decide) rfl
      exact W.zret (v := 1) hx hb hr rfl (fun t ht hW => ⟨⟨1, (), rfl, (pb_b_t (Or.inr c12)).symm, by rw [ht]; exact hP9, va_K.moved hW.alike hK, hD9⟩, hS.F ht⟩) hS.2.2 d_Atoms_isTooFast_21
set_option maxHeartbeats 4000000 in
set_option maxRecDepth 100000 in
/-- isBlown -/
theorem c_Atoms_isBlown (l : Launch) (dC : Nat → ClassId) (dI : Nat → Nat → Nat) (cI cD cZ : ClassId) (sz : Nat) (ha : Nat) (hax : Nat) (hay : Nat) (hau : Nat) (hav : Nat) (ham : Nat) (has : Nat) (hak : Nat) (x : Nat → UInt64) (y : Nat → UInt64) (u : Nat → UInt64) (v : Nat → UInt64) (mass : Nat → UInt64) (sort : Nat → Int32) (stuck : Nat → Int32) (n : Nat) (hn : n ≤ 10) : Met l y_Atoms_isBlown w_Atoms_isBlown ({ frames := 1, cells := 0, slots := 0, locals := 21 }) (va_Pc [.ref ha] (gx_B (dC, dI) classes (gx_T cI cD cZ) [(ha, .inr (0, [.ref hax, .ref hay, .ref hau, .ref hav, .ref ham, .ref has, .ref hak, .int (nI n)])), (hax, .inl (cD, 10, .inr (.inr (.inr (.inl x))))), (hay, .inl (cD, 10, .inr (.inr (.inr (.inl y))))), (hau, .inl (cD, 10, .inr (.inr (.inr (.inl u))))), (hav, .inl (cD, 10, .inr (.inr (.inr (.inl v))))), (ham, .inl (cD, 10, .inr (.inr (.inr (.inl mass))))), (has, .inl (cI, 10, .inl sort)), (hak, .inl (cZ, 10, .inl stuck))] sz)) (va_Qi (fun (rr : Int32) (uu : Unit) => rr = pb_b (∃ i, i < n ∧ (pb_fast (u i) ∨ pb_fast (v i)))) (fun (uu : Unit) t => gx_E (dC, dI) classes (gx_T cI cD cZ) (va_A [(ha, .inr (0, [.ref hax, .ref hay, .ref hau, .ref hav, .ref ham, .ref has, .ref hak, .int (nI n)])), (hax, .inl (cD, 10, .inr (.inr (.inr (.inl x))))), (hay, .inl (cD, 10, .inr (.inr (.inr (.inl y))))), (hau, .inl (cD, 10, .inr (.inr (.inr (.inl u))))), (hav, .inl (cD, 10, .inr (.inr (.inr (.inl v))))), (ham, .inl (cD, 10, .inr (.inr (.inr (.inl mass))))), (has, .inl (cI, 10, .inl sort)), (hak, .inl (cZ, 10, .inl stuck))] sz) [(ha, .inr (0, [.ref hax, .ref hay, .ref hau, .ref hav, .ref ham, .ref has, .ref hak, .int (nI n)])), (hax, .inl (cD, 10, .inr (.inr (.inr (.inl x))))), (hay, .inl (cD, 10, .inr (.inr (.inr (.inl y))))), (hau, .inl (cD, 10, .inr (.inr (.inr (.inl u))))), (hav, .inl (cD, 10, .inr (.inr (.inr (.inl v))))), (ham, .inl (cD, 10, .inr (.inr (.inr (.inl mass))))), (has, .inl (cI, 10, .inl sort)), (hak, .inl (cZ, 10, .inl stuck))] t) (va_A [(ha, .inr (0, [.ref hax, .ref hay, .ref hau, .ref hav, .ref ham, .ref has, .ref hak, .int (nI n)])), (hax, .inl (cD, 10, .inr (.inr (.inr (.inl x))))), (hay, .inl (cD, 10, .inr (.inr (.inr (.inl y))))), (hau, .inl (cD, 10, .inr (.inr (.inr (.inl u))))), (hav, .inl (cD, 10, .inr (.inr (.inr (.inl v))))), (ham, .inl (cD, 10, .inr (.inr (.inr (.inl mass))))), (has, .inl (cI, 10, .inl sort)), (hak, .inl (cZ, 10, .inl stuck))] sz)) 0 0 (va_A [(ha, .inr (0, [.ref hax, .ref hay, .ref hau, .ref hav, .ref ham, .ref has, .ref hak, .int (nI n)])), (hax, .inl (cD, 10, .inr (.inr (.inr (.inl x))))), (hay, .inl (cD, 10, .inr (.inr (.inr (.inl y))))), (hau, .inl (cD, 10, .inr (.inr (.inr (.inl u))))), (hav, .inl (cD, 10, .inr (.inr (.inr (.inl v))))), (ham, .inl (cD, 10, .inr (.inr (.inr (.inl mass))))), (has, .inl (cI, 10, .inl sort)), (hak, .inl (cZ, 10, .inl stuck))] sz) := by
  refine Met.ofW (cc := b_Atoms_isBlown) (maxL := 2) (ret := (some .boolean)) (by decide) rfl ?_
  intro p e s m args below meth c s₁ B hml hv
  obtain ⟨rfl, hsz, hP, hK, hD0, hN⟩ := hv
  have hx := B.exec
  have hb := B.bytes
  have hr := B.returns
  have hts := atoms_spec (ws := w_Atoms_isBlown) B.pre
  have hown : s.vm.findClass R_Atoms = some m.cls := findClass_of_methodNamed B.named
  have hlocks := B.notSynchronized
  subst hsz
  have hD := hD0.self (sz := s.heap.size)
  generalize hAe : va_A [(ha, .inr (0, [.ref hax, .ref hay, .ref hau, .ref hav, .ref ham, .ref has, .ref hak, .int (nI n)])), (hax, .inl (cD, 10, .inr (.inr (.inr (.inl x))))), (hay, .inl (cD, 10, .inr (.inr (.inr (.inl y))))), (hau, .inl (cD, 10, .inr (.inr (.inr (.inl u))))), (hav, .inl (cD, 10, .inr (.inr (.inr (.inl v))))), (ham, .inl (cD, 10, .inr (.inr (.inr (.inl mass))))), (has, .inl (cI, 10, .inl sort)), (hak, .inl (cZ, 10, .inl stuck))] s.heap.size = A at hD ⊢
  have hA : ∀ q : Nat, s.heap.size ≤ q → A q := fun q h => by rw [← hAe]; exact Or.inr h
  have hS : va_S A s.heap s.heap [] := va_S.rf
  have hl := lv_entry ([.ref ha]) (n := 2) (Nat.le_of_ble_eq_true rfl)
  rw [lg_entry_eq]
  generalize (lg_sl ([.ref ha]) ++ List.replicate (2 - (lg_sl ([.ref ha])).length) Slot.unset).toArray = ls at hl ⊢
  have hl : lv_has ls 2 [(0, .ref ha)] := hl
  obtain ⟨H, hH⟩ : ∃ H, H = s.heap := ⟨_, rfl⟩
  rw [← hH] at hP
  have hS : va_S A s.heap H [] := by rw [hH]; exact hS
  refine gx_start hH ?_
  refine lv_iconst (v := nI 0) hx hb d_Atoms_isBlown_0 (by decide) ?_
  refine lv_istore_n (lv' := [(1, .int (nI 0)), (0, .ref ha)]) hx hb d_Atoms_isBlown_1 rfl hl (by decide) rfl (fun ls hl => ?_)
  refine gx_loop (fun (i : Nat) (H : Heap) (locs : List Loc) (ls : Array Slot) => va_P (dC, dI) classes [(ha, .inr (0, [.ref hax, .ref hay, .ref hau, .ref hav, .ref ham, .ref has, .ref hak, .int (nI n)])), (hax, .inl (cD, 10, .inr (.inr (.inr (.inl x))))), (hay, .inl (cD, 10, .inr (.inr (.inr (.inl y))))), (hau, .inl (cD, 10, .inr (.inr (.inr (.inl u))))), (hav, .inl (cD, 10, .inr (.inr (.inr (.inl v))))), (ham, .inl (cD, 10, .inr (.inr (.inr (.inl mass))))), (has, .inl (cI, 10, .inl sort)), (hak, .inl (cZ, 10, .inl stuck))] H ∧ va_D A [(ha, .inr (0, [.ref hax, .ref hay, .ref hau, .ref hav, .ref ham, .ref has, .ref hak, .int (nI n)])), (hax, .inl (cD, 10, .inr (.inr (.inr (.inl x))))), (hay, .inl (cD, 10, .inr (.inr (.inr (.inl y))))), (hau, .inl (cD, 10, .inr (.inr (.inr (.inl u))))), (hav, .inl (cD, 10, .inr (.inr (.inr (.inl v))))), (ham, .inl (cD, 10, .inr (.inr (.inr (.inl mass))))), (has, .inl (cI, 10, .inl sort)), (hak, .inl (cZ, 10, .inl stuck))] ∧ va_S A s.heap H locs ∧ lv_has ls 2 [(1, .int (nI i)), (0, .ref ha)] ∧ (i ≤ n) ∧ (∀ j, j < i → ¬ (pb_fast (u j) ∨ pb_fast (v j)))) (fun (i : Nat) => n - i) (fun N K2 xx H locs ls hI hmu => ?_) 0 ?_
  rotate_left
  · skip
    refine ⟨hP.sub [0, 1, 2, 3, 4, 5, 6, 7] rfl, hD.sub [0, 1, 2, 3, 4, 5, 6, 7] (by decide) rfl, hS, lv_sub hl [0, 1] rfl, (by omega), (fun j h => absurd h (Nat.not_lt_zero j))⟩
  obtain ⟨i, rfl⟩ : ∃ zz, zz = xx := ⟨_, rfl⟩
  obtain ⟨hP, hD, hS, hl, hi, hq⟩ := hI
  try dsimp only at hmu
  refine lv_iload_n hx hb d_Atoms_isBlown_2 rfl (lv_at hl 0 rfl) ?_
  refine lv_aload_n hx hb d_Atoms_isBlown_3 rfl (lv_at hl 1 rfl) ?_
  refine va_get (D := (dC, dI)) (ci := 0) (v := .int (nI n)) (C := R_Atoms) (T := F_Atoms) (N := 8) hx hb hts (fun w h => List.mem_cons_of_mem _ (i_Atoms w h)) hown hK hP 0 rfl rfl 7 (by decide) (hts _ (List.mem_cons_of_mem _ kw_137)) (fun _ h9 => h9) rfl d_Atoms_isBlown_4 ?_
  refine lv_icmp_ge (tgt := 42) hx hb d_Atoms_isBlown_7 (by decide) (fun c7 => ?_) (fun c7 => ?_)
  · skip
    have c7 : n ≤ i := (nI_leI (a := n) (b := i) (by omega) (by omega)).mp c7
    refine lv_iconst (v := 0) hx hb d_Atoms_isBlown_42 (by decide) ?_
    have hP9 := hP.sub (ws' := [(ha, .inr (0, [.ref hax, .ref hay, .ref hau, .ref hav, .ref ham, .ref has, .ref hak, .int (nI n)])), (hax, .inl (cD, 10, .inr (.inr (.inr (.inl x))))), (hay, .inl (cD, 10, .inr (.inr (.inr (.inl y))))), (hau, .inl (cD, 10, .inr (.inr (.inr (.inl u))))), (hav, .inl (cD, 10, .inr (.inr (.inr (.inl v))))), (ham, .inl (cD, 10, .inr (.inr (.inr (.inl mass))))), (has, .inl (cI, 10, .inl sort)), (hak, .inl (cZ, 10, .inl stuck))]) [0, 1, 2, 3, 4, 5, 6, 7] rfl
    have hD9 := hD.sub (ws' := [(ha, .inr (0, [.ref hax, .ref hay, .ref hau, .ref hav, .ref ham, .ref has, .ref hak, .int (nI n)])), (hax, .inl (cD, 10, .inr (.inr (.inr (.inl x))))), (hay, .inl (cD, 10, .inr (.inr (.inr (.inl y))))), (hau, .inl (cD, 10, .inr (.inr (.inr (.inl u))))), (hav, .inl (cD, 10, .inr (.inr (.inr (.inl v))))), (ham, .inl (cD, 10, .inr (.inr (.inr (.inl mass))))), (has, .inl (cI, 10, .inl sort)), (hak, .inl (cZ, 10, .inl stuck))]) [0, 1, 2, 3, 4, 5, 6, 7] (by decide) rfl
    exact W.zret (v := 0) hx hb hr rfl (fun t ht hW => ⟨⟨0, (), rfl, (pb_b_f (fun h => by obtain ⟨j, h1, h2⟩ := h; exact hq j (by omega) h2)).symm, by rw [ht]; exact hP9, va_K.moved hW.alike hK, hD9⟩, hS.F ht⟩) hS.2.2 d_Atoms_isBlown_43
  · skip
    have c7 : ¬ n ≤ i := fun h => c7 ((nI_leI (a := n) (b := i) (by omega) (by omega)).mpr h)
    refine lv_aload_n hx hb d_Atoms_isBlown_10 rfl (lv_at hl 1 rfl) ?_
    refine va_get (D := (dC, dI)) (ci := 0) (v := .ref hau) (C := R_Atoms) (T := F_Atoms) (N := 8) hx hb hts (fun w h => List.mem_cons_of_mem _ (i_Atoms w h)) hown hK hP 0 rfl rfl 2 (by decide) (hts _ (List.mem_cons_of_mem _ kw_122)) (fun _ h9 => h9) rfl d_Atoms_isBlown_11 ?_
    refine lv_iload_n hx hb d_Atoms_isBlown_14 rfl (lv_at hl 0 rfl) ?_
    refine gx_dald hx hb hK hP 3 1 rfl rfl (by omega) (by decide) d_Atoms_isBlown_15 ?_
    refine gx_Si (st0 := [.double (u i)]) (As := [.double (u i)]) (rest := []) (wr := [(ha, .inr (0, [.ref hax, .ref hay, .ref hau, .ref hav, .ref ham, .ref has, .ref hak, .int (nI n)])), (hax, .inl (cD, 10, .inr (.inr (.inr (.inl x))))), (hay, .inl (cD, 10, .inr (.inr (.inr (.inl y))))), (hau, .inl (cD, 10, .inr (.inr (.inr (.inl u))))), (hav, .inl (cD, 10, .inr (.inr (.inr (.inl v))))), (ham, .inl (cD, 10, .inr (.inr (.inr (.inl mass))))), (has, .inl (cI, 10, .inl sort)), (hak, .inl (cZ, 10, .inl stuck))]) ⟨hx, hb, hml, hown, hts⟩ hN hK hP hD hS hA [] [0, 1, 2, 3, 4, 5, 6, 7] rfl rfl (by decide) (c_Atoms_isTooFast l dC dI cI cD cZ H.size (u i)) (va_cwS 1 hts (gx_gS kw_706 kw_707 kw_47 kw_708) rfl rfl rfl (by decide +kernel) ⟨Nat.le_of_ble_eq_true rfl, Nat.le_of_ble_eq_true rfl⟩) rfl hl.1 rfl (Nat.le_of_ble_eq_true rfl) d_Atoms_isBlown_16 ⟨Nat.le_of_ble_eq_true rfl, Nat.le_of_ble_eq_true rfl⟩ (fun r_1 u_2 H locs hw16 hP hD hS => ?_)
    try dsimp only at hw16 hP hD
    have hP : va_P (dC, dI) classes [(ha, .inr (0, [.ref hax, .ref hay, .ref hau, .ref hav, .ref ham, .ref has, .ref hak, .int (nI n)])), (hax, .inl (cD, 10, .inr (.inr (.inr (.inl x))))), (hay, .inl (cD, 10, .inr (.inr (.inr (.inl y))))), (hau, .inl (cD, 10, .inr (.inr (.inr (.inl u))))), (hav, .inl (cD, 10, .inr (.inr (.inr (.inl v))))), (ham, .inl (cD, 10, .inr (.inr (.inr (.inl mass))))), (has, .inl (cI, 10, .inl sort)), (hak, .inl (cZ, 10, .inl stuck))] H := hP
    have hD : va_D A [(ha, .inr (0, [.ref hax, .ref hay, .ref hau, .ref hav, .ref ham, .ref has, .ref hak, .int (nI n)])), (hax, .inl (cD, 10, .inr (.inr (.inr (.inl x))))), (hay, .inl (cD, 10, .inr (.inr (.inr (.inl y))))), (hau, .inl (cD, 10, .inr (.inr (.inr (.inl u))))), (hav, .inl (cD, 10, .inr (.inr (.inr (.inl v))))), (ham, .inl (cD, 10, .inr (.inr (.inr (.inl mass))))), (has, .inl (cI, 10, .inl sort)), (hak, .inl (cZ, 10, .inl stuck))] := hD
    obtain rfl : r_1 = pb_b (pb_fast (u i)) := hw16
    refine lv_if_ne (tgt := 34) hx hb d_Atoms_isBlown_19 (by decide) (fun c19 => ?_) (fun c19 => ?_)
    · skip
      refine lv_iconst (v := 1) hx hb d_Atoms_isBlown_34 (by decide) ?_
      have hP9 := hP.sub (ws' := [(ha, .inr (0, [.ref hax, .ref hay, .ref hau, .ref hav, .ref ham, .ref has, .ref hak, .int (nI n)])), (hax, .inl (cD, 10, .inr (.inr (.inr (.inl x))))), (hay, .inl (cD, 10, .inr (.inr (.inr (.inl y))))), (hau, .inl (cD, 10, .inr (.inr (.inr (.inl u))))), (hav, .inl (cD, 10, .inr (.inr (.inr (.inl v))))), (ham, .inl (cD, 10, .inr (.inr (.inr (.inl mass))))), (has, .inl (cI, 10, .inl sort)), (hak, .inl (cZ, 10, .inl stuck))]) [0, 1, 2, 3, 4, 5, 6, 7] rfl
      have hD9 := hD.sub (ws' := [(ha, .inr (0, [.ref hax, .ref hay, .ref hau, .ref hav, .ref ham, .ref has, .ref hak, .int (nI n)])), (hax, .inl (cD, 10, .inr (.inr (.inr (.inl x))))), (hay, .inl (cD, 10, .inr (.inr (.inr (.inl y))))), (hau, .inl (cD, 10, .inr (.inr (.inr (.inl u))))), (hav, .inl (cD, 10, .inr (.inr (.inr (.inl v))))), (ham, .inl (cD, 10, .inr (.inr (.inr (.inl mass))))), (has, .inl (cI, 10, .inl sort)), (hak, .inl (cZ, 10, .inl stuck))]) [0, 1, 2, 3, 4, 5, 6, 7] (by decide) rfl
      exact W.zret (v := 1) hx hb hr rfl (fun t ht hW => ⟨⟨1, (), rfl, (pb_b_t ⟨i, by omega, Or.inl (pb_b_n0 c19)⟩).symm, by rw [ht]; exact hP9, va_K.moved hW.alike hK, hD9⟩, hS.F ht⟩) hS.2.2 d_Atoms_isBlown_35
    · skip
      refine lv_aload_n hx hb d_Atoms_isBlown_22 rfl (lv_at hl 1 rfl) ?_
      refine va_get (D := (dC, dI)) (ci := 0) (v := .ref hav) (C := R_Atoms) (T := F_Atoms) (N := 8) hx hb hts (fun w h => List.mem_cons_of_mem _ (i_Atoms w h)) hown hK hP 0 rfl rfl 3 (by decide) (hts _ (List.mem_cons_of_mem _ kw_125)) (fun _ h9 => h9) rfl d_Atoms_isBlown_23 ?_
      refine lv_iload_n hx hb d_Atoms_isBlown_26 rfl (lv_at hl 0 rfl) ?_
      refine gx_dald hx hb hK hP 4 1 rfl rfl (by omega) (by decide) d_Atoms_isBlown_27 ?_
      refine gx_Si (st0 := [.double (v i)]) (As := [.double (v i)]) (rest := []) (wr := [(ha, .inr (0, [.ref hax, .ref hay, .ref hau, .ref hav, .ref ham, .ref has, .ref hak, .int (nI n)])), (hax, .inl (cD, 10, .inr (.inr (.inr (.inl x))))), (hay, .inl (cD, 10, .inr (.inr (.inr (.inl y))))), (hau, .inl (cD, 10, .inr (.inr (.inr (.inl u))))), (hav, .inl (cD, 10, .inr (.inr (.inr (.inl v))))), (ham, .inl (cD, 10, .inr (.inr (.inr (.inl mass))))), (has, .inl (cI, 10, .inl sort)), (hak, .inl (cZ, 10, .inl stuck))]) ⟨hx, hb, hml, hown, hts⟩ hN hK hP hD hS hA [] [0, 1, 2, 3, 4, 5, 6, 7] rfl rfl (by decide) (c_Atoms_isTooFast l dC dI cI cD cZ H.size (v i)) (va_cwS 1 hts (gx_gS kw_706 kw_707 kw_47 kw_708) rfl rfl rfl (by decide +kernel) ⟨Nat.le_of_ble_eq_true rfl, Nat.le_of_ble_eq_true rfl⟩) rfl hl.1 rfl (Nat.le_of_ble_eq_true rfl) d_Atoms_isBlown_28 ⟨Nat.le_of_ble_eq_true rfl, Nat.le_of_ble_eq_true rfl⟩ (fun r_3 u_4 H locs hw28 hP hD hS => ?_)
      try dsimp only at hw28 hP hD
      have hP : va_P (dC, dI) classes [(ha, .inr (0, [.ref hax, .ref hay, .ref hau, .ref hav, .ref ham, .ref has, .ref hak, .int (nI n)])), (hax, .inl (cD, 10, .inr (.inr (.inr (.inl x))))), (hay, .inl (cD, 10, .inr (.inr (.inr (.inl y))))), (hau, .inl (cD, 10, .inr (.inr (.inr (.inl u))))), (hav, .inl (cD, 10, .inr (.inr (.inr (.inl v))))), (ham, .inl (cD, 10, .inr (.inr (.inr (.inl mass))))), (has, .inl (cI, 10, .inl sort)), (hak, .inl (cZ, 10, .inl stuck))] H := hP
      have hD : va_D A [(ha, .inr (0, [.ref hax, .ref hay, .ref hau, .ref hav, .ref ham, .ref has, .ref hak, .int (nI n)])), (hax, .inl (cD, 10, .inr (.inr (.inr (.inl x))))), (hay, .inl (cD, 10, .inr (.inr (.inr (.inl y))))), (hau, .inl (cD, 10, .inr (.inr (.inr (.inl u))))), (hav, .inl (cD, 10, .inr (.inr (.inr (.inl v))))), (ham, .inl (cD, 10, .inr (.inr (.inr (.inl mass))))), (has, .inl (cI, 10, .inl sort)), (hak, .inl (cZ, 10, .inl stuck))] := hD
      obtain rfl : r_3 = pb_b (pb_fast (v i)) := hw28
      refine lv_if_eq (tgt := 36) hx hb d_Atoms_isBlown_31 (by decide) (fun c31 => ?_) (fun c31 => ?_)
      · skip
        refine lv_iinc (v := nI (i + 1)) (lv' := [(1, .int (nI (i + 1))), (0, .ref ha)]) hx hb d_Atoms_isBlown_36 hl (k := 0) rfl (nI_1 i) (by decide) rfl (fun ls hl => ?_)
        refine lv_goto (tgt := 2) hx hb d_Atoms_isBlown_39 (by decide) ?_
        exact K2 (i + 1) _ _ _ ⟨hP.sub [0, 1, 2, 3, 4, 5, 6, 7] rfl, hD.sub [0, 1, 2, 3, 4, 5, 6, 7] (by decide) rfl, hS, lv_sub hl [0, 1] rfl, (by omega), (fun j h => (Nat.lt_or_eq_of_le (Nat.lt_succ_iff.mp h)).elim (hq j) (fun e => by rw [e]; exact fun h => h.elim (pb_b_0.mp c19) (pb_b_0.mp c31)))⟩ (by omega)
      · skip
        refine lv_iconst (v := 1) hx hb d_Atoms_isBlown_34 (by decide) ?_
        have hP9 := hP.sub (ws' := [(ha, .inr (0, [.ref hax, .ref hay, .ref hau, .ref hav, .ref ham, .ref has, .ref hak, .int (nI n)])), (hax, .inl (cD, 10, .inr (.inr (.inr (.inl x))))), (hay, .inl (cD, 10, .inr (.inr (.inr (.inl y))))), (hau, .inl (cD, 10, .inr (.inr (.inr (.inl u))))), (hav, .inl (cD, 10, .inr (.inr (.inr (.inl v))))), (ham, .inl (cD, 10, .inr (.inr (.inr (.inl mass))))), (has, .inl (cI, 10, .inl sort)), (hak, .inl (cZ, 10, .inl stuck))]) [0, 1, 2, 3, 4, 5, 6, 7] rfl
        have hD9 := hD.sub (ws' := [(ha, .inr (0, [.ref hax, .ref hay, .ref hau, .ref hav, .ref ham, .ref has, .ref hak, .int (nI n)])), (hax, .inl (cD, 10, .inr (.inr (.inr (.inl x))))), (hay, .inl (cD, 10, .inr (.inr (.inr (.inl y))))), (hau, .inl (cD, 10, .inr (.inr (.inr (.inl u))))), (hav, .inl (cD, 10, .inr (.inr (.inr (.inl v))))), (ham, .inl (cD, 10, .inr (.inr (.inr (.inl mass))))), (has, .inl (cI, 10, .inl sort)), (hak, .inl (cZ, 10, .inl stuck))]) [0, 1, 2, 3, 4, 5, 6, 7] (by decide) rfl
        exact W.zret (v := 1) hx hb hr rfl (fun t ht hW => ⟨⟨1, (), rfl, (pb_b_t ⟨i, by omega, Or.inr (pb_b_n0 c31)⟩).symm, by rw [ht]; exact hP9, va_K.moved hW.alike hK, hD9⟩, hS.F ht⟩) hS.2.2 d_Atoms_isBlown_35
set_option maxHeartbeats 4000000 in
set_option maxRecDepth 100000 in
/-- energy of motion -/
theorem c_Atoms_energyOfMotion (l : Launch) (dC : Nat → ClassId) (dI : Nat → Nat → Nat) (cI cD cZ : ClassId) (sz : Nat) (ha : Nat) (hax : Nat) (hay : Nat) (hau : Nat) (hav : Nat) (ham : Nat) (has : Nat) (hak : Nat) (x : Nat → UInt64) (y : Nat → UInt64) (u : Nat → UInt64) (v : Nat → UInt64) (mass : Nat → UInt64) (sort : Nat → Int32) (stuck : Nat → Int32) (n : Nat) (hn : n ≤ 10) (hmI : ∀ i, i < n → pb_Im (mass i)) (huI : ∀ i, i < n → pb_Iu (u i)) (hvI : ∀ i, i < n → pb_Iu (v i)) : Met l y_Atoms_energyOfMotion w_Atoms_energyOfMotion ({ frames := 0, cells := 0, slots := 0, locals := 0 }) (va_Pc [.ref ha] (gx_B (dC, dI) classes (gx_T cI cD cZ) [(ha, .inr (0, [.ref hax, .ref hay, .ref hau, .ref hav, .ref ham, .ref has, .ref hak, .int (nI n)])), (hax, .inl (cD, 10, .inr (.inr (.inr (.inl x))))), (hay, .inl (cD, 10, .inr (.inr (.inr (.inl y))))), (hau, .inl (cD, 10, .inr (.inr (.inr (.inl u))))), (hav, .inl (cD, 10, .inr (.inr (.inr (.inl v))))), (ham, .inl (cD, 10, .inr (.inr (.inr (.inl mass))))), (has, .inl (cI, 10, .inl sort)), (hak, .inl (cZ, 10, .inl stuck))] sz)) (va_Qd (fun (rr : UInt64) (uu : Unit) => rr = pb_em mass u v n) (fun (uu : Unit) t => gx_E (dC, dI) classes (gx_T cI cD cZ) (va_A [(ha, .inr (0, [.ref hax, .ref hay, .ref hau, .ref hav, .ref ham, .ref has, .ref hak, .int (nI n)])), (hax, .inl (cD, 10, .inr (.inr (.inr (.inl x))))), (hay, .inl (cD, 10, .inr (.inr (.inr (.inl y))))), (hau, .inl (cD, 10, .inr (.inr (.inr (.inl u))))), (hav, .inl (cD, 10, .inr (.inr (.inr (.inl v))))), (ham, .inl (cD, 10, .inr (.inr (.inr (.inl mass))))), (has, .inl (cI, 10, .inl sort)), (hak, .inl (cZ, 10, .inl stuck))] sz) [(ha, .inr (0, [.ref hax, .ref hay, .ref hau, .ref hav, .ref ham, .ref has, .ref hak, .int (nI n)])), (hax, .inl (cD, 10, .inr (.inr (.inr (.inl x))))), (hay, .inl (cD, 10, .inr (.inr (.inr (.inl y))))), (hau, .inl (cD, 10, .inr (.inr (.inr (.inl u))))), (hav, .inl (cD, 10, .inr (.inr (.inr (.inl v))))), (ham, .inl (cD, 10, .inr (.inr (.inr (.inl mass))))), (has, .inl (cI, 10, .inl sort)), (hak, .inl (cZ, 10, .inl stuck))] t) (va_A [(ha, .inr (0, [.ref hax, .ref hay, .ref hau, .ref hav, .ref ham, .ref has, .ref hak, .int (nI n)])), (hax, .inl (cD, 10, .inr (.inr (.inr (.inl x))))), (hay, .inl (cD, 10, .inr (.inr (.inr (.inl y))))), (hau, .inl (cD, 10, .inr (.inr (.inr (.inl u))))), (hav, .inl (cD, 10, .inr (.inr (.inr (.inl v))))), (ham, .inl (cD, 10, .inr (.inr (.inr (.inl mass))))), (has, .inl (cI, 10, .inl sort)), (hak, .inl (cZ, 10, .inl stuck))] sz)) 0 0 (va_A [(ha, .inr (0, [.ref hax, .ref hay, .ref hau, .ref hav, .ref ham, .ref has, .ref hak, .int (nI n)])), (hax, .inl (cD, 10, .inr (.inr (.inr (.inl x))))), (hay, .inl (cD, 10, .inr (.inr (.inr (.inl y))))), (hau, .inl (cD, 10, .inr (.inr (.inr (.inl u))))), (hav, .inl (cD, 10, .inr (.inr (.inr (.inl v))))), (ham, .inl (cD, 10, .inr (.inr (.inr (.inl mass))))), (has, .inl (cI, 10, .inl sort)), (hak, .inl (cZ, 10, .inl stuck))] sz) := by
  refine Met.ofW (cc := b_Atoms_energyOfMotion) (maxL := 4) (ret := (some .double)) (by decide) rfl ?_
  intro p e s m args below meth c s₁ B hml hv
  obtain ⟨rfl, hsz, hP, hK, hD0, hN⟩ := hv
  have hx := B.exec
  have hb := B.bytes
  have hr := B.returns
  have hts := atoms_spec (ws := w_Atoms_energyOfMotion) B.pre
  have hown : s.vm.findClass R_Atoms = some m.cls := findClass_of_methodNamed B.named
  have hlocks := B.notSynchronized
  subst hsz
  have hD := hD0.self (sz := s.heap.size)
  generalize hAe : va_A [(ha, .inr (0, [.ref hax, .ref hay, .ref hau, .ref hav, .ref ham, .ref has, .ref hak, .int (nI n)])), (hax, .inl (cD, 10, .inr (.inr (.inr (.inl x))))), (hay, .inl (cD, 10, .inr (.inr (.inr (.inl y))))), (hau, .inl (cD, 10, .inr (.inr (.inr (.inl u))))), (hav, .inl (cD, 10, .inr (.inr (.inr (.inl v))))), (ham, .inl (cD, 10, .inr (.inr (.inr (.inl mass))))), (has, .inl (cI, 10, .inl sort)), (hak, .inl (cZ, 10, .inl stuck))] s.heap.size = A at hD ⊢
  have hA : ∀ q : Nat, s.heap.size ≤ q → A q := fun q h => by rw [← hAe]; exact Or.inr h
  have hS : va_S A s.heap s.heap [] := va_S.rf
  have hl := lv_entry ([.ref ha]) (n := 4) (Nat.le_of_ble_eq_true rfl)
  rw [lg_entry_eq]
  generalize (lg_sl ([.ref ha]) ++ List.replicate (4 - (lg_sl ([.ref ha])).length) Slot.unset).toArray = ls at hl ⊢
  have hl : lv_has ls 4 [(0, .ref ha)] := hl
  obtain ⟨H, hH⟩ : ∃ H, H = s.heap := ⟨_, rfl⟩
  rw [← hH] at hP
  have hS : va_S A s.heap H [] := by rw [hH]; exact hS
  refine gx_start hH ?_
  refine lv_dconst0 hx hb d_Atoms_energyOfMotion_0 ?_
  refine lv_dstore_n (lv' := [(1, .double FP.dconst0), (0, .ref ha)]) hx hb d_Atoms_energyOfMotion_1 rfl hl (by decide) rfl (fun ls hl => ?_)
  refine lv_iconst (v := nI 0) hx hb d_Atoms_energyOfMotion_2 (by decide) ?_
  refine lv_istore_n (lv' := [(3, .int (nI 0)), (1, .double FP.dconst0), (0, .ref ha)]) hx hb d_Atoms_energyOfMotion_3 rfl hl (by decide) rfl (fun ls hl => ?_)
  refine gx_loop (fun (i : Nat) (H : Heap) (locs : List Loc) (ls : Array Slot) => va_P (dC, dI) classes [(ha, .inr (0, [.ref hax, .ref hay, .ref hau, .ref hav, .ref ham, .ref has, .ref hak, .int (nI n)])), (hax, .inl (cD, 10, .inr (.inr (.inr (.inl x))))), (hay, .inl (cD, 10, .inr (.inr (.inr (.inl y))))), (hau, .inl (cD, 10, .inr (.inr (.inr (.inl u))))), (hav, .inl (cD, 10, .inr (.inr (.inr (.inl v))))), (ham, .inl (cD, 10, .inr (.inr (.inr (.inl mass))))), (has, .inl (cI, 10, .inl sort)), (hak, .inl (cZ, 10, .inl stuck))] H ∧ va_D A [(ha, .inr (0, [.ref hax, .ref hay, .ref hau, .ref hav, .ref ham, .ref has, .ref hak, .int (nI n)])), (hax, .inl (cD, 10, .inr (.inr (.inr (.inl x))))), (hay, .inl (cD, 10, .inr (.inr (.inr (.inl y))))), (hau, .inl (cD, 10, .inr (.inr (.inr (.inl u))))), (hav, .inl (cD, 10, .inr (.inr (.inr (.inl v))))), (ham, .inl (cD, 10, .inr (.inr (.inr (.inl mass))))), (has, .inl (cI, 10, .inl sort)), (hak, .inl (cZ, 10, .inl stuck))] ∧ va_S A s.heap H locs ∧ lv_has ls 4 [(3, .int (nI i)), (1, .double (pb_em mass u v i)), (0, .ref ha)] ∧ (i ≤ n)) (fun (i : Nat) => n - i) (fun N K4 xx H locs ls hI hmu => ?_) 0 ?_
  rotate_left
  · skip
    refine ⟨hP.sub [0, 1, 2, 3, 4, 5, 6, 7] rfl, hD.sub [0, 1, 2, 3, 4, 5, 6, 7] (by decide) rfl, hS, lv_sub hl [0, 1, 2] rfl, (by omega)⟩
  obtain ⟨i, rfl⟩ : ∃ zz, zz = xx := ⟨_, rfl⟩
  obtain ⟨hP, hD, hS, hl, hi⟩ := hI
  try dsimp only at hmu
  refine lv_iload_n hx hb d_Atoms_energyOfMotion_4 rfl (lv_at hl 0 rfl) ?_
  refine lv_aload_n hx hb d_Atoms_energyOfMotion_5 rfl (lv_at hl 2 rfl) ?_
  refine va_get (D := (dC, dI)) (ci := 0) (v := .int (nI n)) (C := R_Atoms) (T := F_Atoms) (N := 8) hx hb hts (fun w h => List.mem_cons_of_mem _ (i_Atoms w h)) hown hK hP 0 rfl rfl 7 (by decide) (hts _ (List.mem_cons_of_mem _ kw_137)) (fun _ h9 => h9) rfl d_Atoms_energyOfMotion_6 ?_
  refine lv_icmp_ge (tgt := 59) hx hb d_Atoms_energyOfMotion_9 (by decide) (fun c9 => ?_) (fun c9 => ?_)
  · skip
    have c9 : n ≤ i := (nI_leI (a := n) (b := i) (by omega) (by omega)).mp c9
    obtain rfl : n = i := by omega
    refine lv_dload_n hx hb d_Atoms_energyOfMotion_59 rfl (lv_at hl 1 rfl) ?_
    have hP9 := hP.sub (ws' := [(ha, .inr (0, [.ref hax, .ref hay, .ref hau, .ref hav, .ref ham, .ref has, .ref hak, .int (nI n)])), (hax, .inl (cD, 10, .inr (.inr (.inr (.inl x))))), (hay, .inl (cD, 10, .inr (.inr (.inr (.inl y))))), (hau, .inl (cD, 10, .inr (.inr (.inr (.inl u))))), (hav, .inl (cD, 10, .inr (.inr (.inr (.inl v))))), (ham, .inl (cD, 10, .inr (.inr (.inr (.inl mass))))), (has, .inl (cI, 10, .inl sort)), (hak, .inl (cZ, 10, .inl stuck))]) [0, 1, 2, 3, 4, 5, 6, 7] rfl
    have hD9 := hD.sub (ws' := [(ha, .inr (0, [.ref hax, .ref hay, .ref hau, .ref hav, .ref ham, .ref has, .ref hak, .int (nI n)])), (hax, .inl (cD, 10, .inr (.inr (.inr (.inl x))))), (hay, .inl (cD, 10, .inr (.inr (.inr (.inl y))))), (hau, .inl (cD, 10, .inr (.inr (.inr (.inl u))))), (hav, .inl (cD, 10, .inr (.inr (.inr (.inl v))))), (ham, .inl (cD, 10, .inr (.inr (.inr (.inl mass))))), (has, .inl (cI, 10, .inl sort)), (hak, .inl (cZ, 10, .inl stuck))]) [0, 1, 2, 3, 4, 5, 6, 7] (by decide) rfl
    exact W.dret (v := (pb_em mass u v n)) hx hb hr (fun t ht hW => ⟨⟨(pb_em mass u v n), (), rfl, rfl, by rw [ht]; exact hP9, va_K.moved hW.alike hK, hD9⟩, hS.F ht⟩) hS.2.2 d_Atoms_energyOfMotion_60
  · skip
    have c9 : ¬ n ≤ i := fun h => c9 ((nI_leI (a := n) (b := i) (by omega) (by omega)).mpr h)
    have ge := pb_em_I10 hn hmI huI hvI i (by omega)
    refine lv_dload_n hx hb d_Atoms_energyOfMotion_12 rfl (lv_at hl 1 rfl) ?_
    refine lv_ldc2d (v := 4602678819172646912) hx hb hown (hts (.constantDouble R_Atoms 51 4602678819172646912) (by decide +kernel)) d_Atoms_energyOfMotion_13 ?_
    refine lv_aload_n hx hb d_Atoms_energyOfMotion_16 rfl (lv_at hl 2 rfl) ?_
    refine va_get (D := (dC, dI)) (ci := 0) (v := .ref ham) (C := R_Atoms) (T := F_Atoms) (N := 8) hx hb hts (fun w h => List.mem_cons_of_mem _ (i_Atoms w h)) hown hK hP 0 rfl rfl 4 (by decide) (hts _ (List.mem_cons_of_mem _ kw_128)) (fun _ h9 => h9) rfl d_Atoms_energyOfMotion_17 ?_
    refine lv_iload_n hx hb d_Atoms_energyOfMotion_20 rfl (lv_at hl 0 rfl) ?_
    refine gx_dald hx hb hK hP 5 1 rfl rfl (by omega) (by decide) d_Atoms_energyOfMotion_21 ?_
    have g_1 := hmI i (by omega)
    have g_2 := fp_const (a := 4602678819172646912) (T := (fp_d 1 1073)) (by decide +kernel)
    have g_3 := fp_I_mul (fp_d 1 1070) (fp_d 1 1079) g_2 g_1 (by decide +kernel)
    refine lv_dmul hx hb d_Atoms_energyOfMotion_22 g_3.n ?_
    refine lv_aload_n hx hb d_Atoms_energyOfMotion_23 rfl (lv_at hl 2 rfl) ?_
    refine va_get (D := (dC, dI)) (ci := 0) (v := .ref hau) (C := R_Atoms) (T := F_Atoms) (N := 8) hx hb hts (fun w h => List.mem_cons_of_mem _ (i_Atoms w h)) hown hK hP 0 rfl rfl 2 (by decide) (hts _ (List.mem_cons_of_mem _ kw_122)) (fun _ h9 => h9) rfl d_Atoms_energyOfMotion_24 ?_
    refine lv_iload_n hx hb d_Atoms_energyOfMotion_27 rfl (lv_at hl 0 rfl) ?_
    refine gx_dald hx hb hK hP 3 1 rfl rfl (by omega) (by decide) d_Atoms_energyOfMotion_28 ?_
    have g_4 := huI i (by omega)
    refine lv_aload_n hx hb d_Atoms_energyOfMotion_29 rfl (lv_at hl 2 rfl) ?_
    refine va_get (D := (dC, dI)) (ci := 0) (v := .ref hau) (C := R_Atoms) (T := F_Atoms) (N := 8) hx hb hts (fun w h => List.mem_cons_of_mem _ (i_Atoms w h)) hown hK hP 0 rfl rfl 2 (by decide) (hts _ (List.mem_cons_of_mem _ kw_122)) (fun _ h9 => h9) rfl d_Atoms_energyOfMotion_30 ?_
    refine lv_iload_n hx hb d_Atoms_energyOfMotion_33 rfl (lv_at hl 0 rfl) ?_
    refine gx_dald hx hb hK hP 3 1 rfl rfl (by omega) (by decide) d_Atoms_energyOfMotion_34 ?_
    have g_5 := fp_I_sq (fp_d 1 1154) g_4 (by decide +kernel)
    refine lv_dmul hx hb d_Atoms_energyOfMotion_35 g_5.n ?_
    refine lv_aload_n hx hb d_Atoms_energyOfMotion_36 rfl (lv_at hl 2 rfl) ?_
    refine va_get (D := (dC, dI)) (ci := 0) (v := .ref hav) (C := R_Atoms) (T := F_Atoms) (N := 8) hx hb hts (fun w h => List.mem_cons_of_mem _ (i_Atoms w h)) hown hK hP 0 rfl rfl 3 (by decide) (hts _ (List.mem_cons_of_mem _ kw_125)) (fun _ h9 => h9) rfl d_Atoms_energyOfMotion_37 ?_
    refine lv_iload_n hx hb d_Atoms_energyOfMotion_40 rfl (lv_at hl 0 rfl) ?_
    refine gx_dald hx hb hK hP 4 1 rfl rfl (by omega) (by decide) d_Atoms_energyOfMotion_41 ?_
    have g_6 := hvI i (by omega)
    refine lv_aload_n hx hb d_Atoms_energyOfMotion_42 rfl (lv_at hl 2 rfl) ?_
    refine va_get (D := (dC, dI)) (ci := 0) (v := .ref hav) (C := R_Atoms) (T := F_Atoms) (N := 8) hx hb hts (fun w h => List.mem_cons_of_mem _ (i_Atoms w h)) hown hK hP 0 rfl rfl 3 (by decide) (hts _ (List.mem_cons_of_mem _ kw_125)) (fun _ h9 => h9) rfl d_Atoms_energyOfMotion_43 ?_
    refine lv_iload_n hx hb d_Atoms_energyOfMotion_46 rfl (lv_at hl 0 rfl) ?_
    refine gx_dald hx hb hK hP 4 1 rfl rfl (by omega) (by decide) d_Atoms_energyOfMotion_47 ?_
    have g_7 := fp_I_sq (fp_d 1 1154) g_6 (by decide +kernel)
    refine lv_dmul hx hb d_Atoms_energyOfMotion_48 g_7.n ?_
    have g_8 := fp_I_add (fp_d 0 0) (fp_d 1 1155) g_5 g_7 (by decide +kernel)
    refine lv_dadd hx hb d_Atoms_energyOfMotion_49 g_8.n ?_
    have g_9 := fp_I_mul (fp_d 0 0) (fp_d 1 1160) g_3 g_8 (by decide +kernel)
    refine lv_dmul hx hb d_Atoms_energyOfMotion_50 g_9.n ?_
    have g_10 := fp_I_add (fp_d 0 0) (fp_d 21 1160) ge g_9 (by decide +kernel)
    refine lv_dadd hx hb d_Atoms_energyOfMotion_51 g_10.n ?_
    refine lv_dstore_n (lv' := [(1, .double (FP.dadd (pb_em mass u v i) (FP.dmul (FP.dmul 4602678819172646912 (mass i)) (FP.dadd (FP.dmul (u i) (u i)) (FP.dmul (v i) (v i)))))), (3, .int (nI i)), (0, .ref ha)]) hx hb d_Atoms_energyOfMotion_52 rfl hl (by decide) rfl (fun ls hl => ?_)
    refine lv_iinc (v := nI (i + 1)) (lv' := [(3, .int (nI (i + 1))), (1, .double (FP.dadd (pb_em mass u v i) (FP.dmul (FP.dmul 4602678819172646912 (mass i)) (FP.dadd (FP.dmul (u i) (u i)) (FP.dmul (v i) (v i)))))), (0, .ref ha)]) hx hb d_Atoms_energyOfMotion_53 hl (k := 1) rfl (nI_1 i) (by decide) rfl (fun ls hl => ?_)
    refine lv_goto (tgt := 4) hx hb d_Atoms_energyOfMotion_56 (by decide) ?_
    exact K4 (i + 1) _ _ _ ⟨hP.sub [0, 1, 2, 3, 4, 5, 6, 7] rfl, hD.sub [0, 1, 2, 3, 4, 5, 6, 7] (by decide) rfl, hS, lv_sub hl [0, 1, 2] rfl, (by omega)⟩ (by omega)
set_option maxHeartbeats 4000000 in
set_option maxRecDepth 100000 in
/-- TEMPERATURE -/
theorem c_Atoms_heat (l : Launch) (dC : Nat → ClassId) (dI : Nat → Nat → Nat) (cI cD cZ : ClassId) (sz : Nat) (ha : Nat) (hax : Nat) (hay : Nat) (hau : Nat) (hav : Nat) (ham : Nat) (has : Nat) (hak : Nat) (x : Nat → UInt64) (y : Nat → UInt64) (u : Nat → UInt64) (v : Nat → UInt64) (mass : Nat → UInt64) (sort : Nat → Int32) (stuck : Nat → Int32) (n : Nat) (hn : n ≤ 10) (hmI : ∀ i, i < n → pb_Im (mass i)) (huI : ∀ i, i < n → pb_Iu (u i)) (hvI : ∀ i, i < n → pb_Iu (v i)) : Met l y_Atoms_heat w_Atoms_heat ({ frames := 0, cells := 0, slots := 0, locals := 0 }) (va_Pc [.ref ha] (gx_B (dC, dI) classes (gx_T cI cD cZ) [(ha, .inr (0, [.ref hax, .ref hay, .ref hau, .ref hav, .ref ham, .ref has, .ref hak, .int (nI n)])), (hax, .inl (cD, 10, .inr (.inr (.inr (.inl x))))), (hay, .inl (cD, 10, .inr (.inr (.inr (.inl y))))), (hau, .inl (cD, 10, .inr (.inr (.inr (.inl u))))), (hav, .inl (cD, 10, .inr (.inr (.inr (.inl v))))), (ham, .inl (cD, 10, .inr (.inr (.inr (.inl mass))))), (has, .inl (cI, 10, .inl sort)), (hak, .inl (cZ, 10, .inl stuck))] sz)) (va_Qd (fun (rr : UInt64) (uu : Unit) => rr = pb_heat mass u v stuck n) (fun (uu : Unit) t => gx_E (dC, dI) classes (gx_T cI cD cZ) (va_A [(ha, .inr (0, [.ref hax, .ref hay, .ref hau, .ref hav, .ref ham, .ref has, .ref hak, .int (nI n)])), (hax, .inl (cD, 10, .inr (.inr (.inr (.inl x))))), (hay, .inl (cD, 10, .inr (.inr (.inr (.inl y))))), (hau, .inl (cD, 10, .inr (.inr (.inr (.inl u))))), (hav, .inl (cD, 10, .inr (.inr (.inr (.inl v))))), (ham, .inl (cD, 10, .inr (.inr (.inr (.inl mass))))), (has, .inl (cI, 10, .inl sort)), (hak, .inl (cZ, 10, .inl stuck))] sz) [(ha, .inr (0, [.ref hax, .ref hay, .ref hau, .ref hav, .ref ham, .ref has, .ref hak, .int (nI n)])), (hax, .inl (cD, 10, .inr (.inr (.inr (.inl x))))), (hay, .inl (cD, 10, .inr (.inr (.inr (.inl y))))), (hau, .inl (cD, 10, .inr (.inr (.inr (.inl u))))), (hav, .inl (cD, 10, .inr (.inr (.inr (.inl v))))), (ham, .inl (cD, 10, .inr (.inr (.inr (.inl mass))))), (has, .inl (cI, 10, .inl sort)), (hak, .inl (cZ, 10, .inl stuck))] t) (va_A [(ha, .inr (0, [.ref hax, .ref hay, .ref hau, .ref hav, .ref ham, .ref has, .ref hak, .int (nI n)])), (hax, .inl (cD, 10, .inr (.inr (.inr (.inl x))))), (hay, .inl (cD, 10, .inr (.inr (.inr (.inl y))))), (hau, .inl (cD, 10, .inr (.inr (.inr (.inl u))))), (hav, .inl (cD, 10, .inr (.inr (.inr (.inl v))))), (ham, .inl (cD, 10, .inr (.inr (.inr (.inl mass))))), (has, .inl (cI, 10, .inl sort)), (hak, .inl (cZ, 10, .inl stuck))] sz)) 0 0 (va_A [(ha, .inr (0, [.ref hax, .ref hay, .ref hau, .ref hav, .ref ham, .ref has, .ref hak, .int (nI n)])), (hax, .inl (cD, 10, .inr (.inr (.inr (.inl x))))), (hay, .inl (cD, 10, .inr (.inr (.inr (.inl y))))), (hau, .inl (cD, 10, .inr (.inr (.inr (.inl u))))), (hav, .inl (cD, 10, .inr (.inr (.inr (.inl v))))), (ham, .inl (cD, 10, .inr (.inr (.inr (.inl mass))))), (has, .inl (cI, 10, .inl sort)), (hak, .inl (cZ, 10, .inl stuck))] sz) := by
  refine Met.ofW (cc := b_Atoms_heat) (maxL := 5) (ret := (some .double)) (by decide) rfl ?_
  intro p e s m args below meth c s₁ B hml hv
  obtain ⟨rfl, hsz, hP, hK, hD0, hN⟩ := hv
  have hx := B.exec
  have hb := B.bytes
  have hr := B.returns
  have hts := atoms_spec (ws := w_Atoms_heat) B.pre
  have hown : s.vm.findClass R_Atoms = some m.cls := findClass_of_methodNamed B.named
  have hlocks := B.notSynchronized
  subst hsz
  have hD := hD0.self (sz := s.heap.size)
  generalize hAe : va_A [(ha, .inr (0, [.ref hax, .ref hay, .ref hau, .ref hav, .ref ham, .ref has, .ref hak, .int (nI n)])), (hax, .inl (cD, 10, .inr (.inr (.inr (.inl x))))), (hay, .inl (cD, 10, .inr (.inr (.inr (.inl y))))), (hau, .inl (cD, 10, .inr (.inr (.inr (.inl u))))), (hav, .inl (cD, 10, .inr (.inr (.inr (.inl v))))), (ham, .inl (cD, 10, .inr (.inr (.inr (.inl mass))))), (has, .inl (cI, 10, .inl sort)), (hak, .inl (cZ, 10, .inl stuck))] s.heap.size = A at hD ⊢
  have hA : ∀ q : Nat, s.heap.size ≤ q → A q := fun q h => by rw [← hAe]; exact Or.inr h
  have hS : va_S A s.heap s.heap [] := va_S.rf
  have hl := lv_entry ([.ref ha]) (n := 5) (Nat.le_of_ble_eq_true rfl)
  rw [lg_entry_eq]
  generalize (lg_sl ([.ref ha]) ++ List.replicate (5 - (lg_sl ([.ref ha])).length) Slot.unset).toArray = ls at hl ⊢
  have hl : lv_has ls 5 [(0, .ref ha)] := hl
  obtain ⟨H, hH⟩ : ∃ H, H = s.heap := ⟨_, rfl⟩
  rw [← hH] at hP
  have hS : va_S A s.heap H [] := by rw [hH]; exact hS
  refine gx_start hH ?_
  refine lv_dconst0 hx hb d_Atoms_heat_0 ?_
  refine lv_dstore_n (lv' := [(1, .double FP.dconst0), (0, .ref ha)]) hx hb d_Atoms_heat_1 rfl hl (by decide) rfl (fun ls hl => ?_)
  refine lv_iconst (v := nI 0) hx hb d_Atoms_heat_2 (by decide) ?_
  refine lv_istore_n (lv' := [(3, .int (nI 0)), (1, .double FP.dconst0), (0, .ref ha)]) hx hb d_Atoms_heat_3 rfl hl (by decide) rfl (fun ls hl => ?_)
  refine lv_iconst (v := nI 0) hx hb d_Atoms_heat_4 (by decide) ?_
  refine lv_istore (lv' := [(4, .int (nI 0)), (3, .int (nI 0)), (1, .double FP.dconst0), (0, .ref ha)]) hx hb d_Atoms_heat_5 hl (by decide) rfl (fun ls hl => ?_)
  refine gx_loop (fun (i : Nat) (H : Heap) (locs : List Loc) (ls : Array Slot) => va_P (dC, dI) classes [(ha, .inr (0, [.ref hax, .ref hay, .ref hau, .ref hav, .ref ham, .ref has, .ref hak, .int (nI n)])), (hax, .inl (cD, 10, .inr (.inr (.inr (.inl x))))), (hay, .inl (cD, 10, .inr (.inr (.inr (.inl y))))), (hau, .inl (cD, 10, .inr (.inr (.inr (.inl u))))), (hav, .inl (cD, 10, .inr (.inr (.inr (.inl v))))), (ham, .inl (cD, 10, .inr (.inr (.inr (.inl mass))))), (has, .inl (cI, 10, .inl sort)), (hak, .inl (cZ, 10, .inl stuck))] H ∧ va_D A [(ha, .inr (0, [.ref hax, .ref hay, .ref hau, .ref hav, .ref ham, .ref has, .ref hak, .int (nI n)])), (hax, .inl (cD, 10, .inr (.inr (.inr (.inl x))))), (hay, .inl (cD, 10, .inr (.inr (.inr (.inl y))))), (hau, .inl (cD, 10, .inr (.inr (.inr (.inl u))))), (hav, .inl (cD, 10, .inr (.inr (.inr (.inl v))))), (ham, .inl (cD, 10, .inr (.inr (.inr (.inl mass))))), (has, .inl (cI, 10, .inl sort)), (hak, .inl (cZ, 10, .inl stuck))] ∧ va_S A s.heap H locs ∧ lv_has ls 5 [(4, .int (nI i)), (3, .int (nI (pb_loose stuck i))), (1, .double (pb_hs mass u v i)), (0, .ref ha)] ∧ (i ≤ n)) (fun (i : Nat) => n - i) (fun N K7 xx H locs ls hI hmu => ?_) 0 ?_
  rotate_left
  · skip
    refine ⟨hP.sub [0, 1, 2, 3, 4, 5, 6, 7] rfl, hD.sub [0, 1, 2, 3, 4, 5, 6, 7] (by decide) rfl, hS, lv_sub hl [0, 1, 2, 3] rfl, (by omega)⟩
  obtain ⟨i, rfl⟩ : ∃ zz, zz = xx := ⟨_, rfl⟩
  obtain ⟨hP, hD, hS, hl, hi⟩ := hI
  try dsimp only at hmu
  refine lv_iload hx hb d_Atoms_heat_7 (lv_at hl 0 rfl) ?_
  refine lv_aload_n hx hb d_Atoms_heat_9 rfl (lv_at hl 3 rfl) ?_
  refine va_get (D := (dC, dI)) (ci := 0) (v := .int (nI n)) (C := R_Atoms) (T := F_Atoms) (N := 8) hx hb hts (fun w h => List.mem_cons_of_mem _ (i_Atoms w h)) hown hK hP 0 rfl rfl 7 (by decide) (hts _ (List.mem_cons_of_mem _ kw_137)) (fun _ h9 => h9) rfl d_Atoms_heat_10 ?_
  refine lv_icmp_ge (tgt := 77) hx hb d_Atoms_heat_13 (by decide) (fun c13 => ?_) (fun c13 => ?_)
  · skip
    have c13 : n ≤ i := (nI_leI (a := n) (b := i) (by omega) (by omega)).mp c13
    obtain rfl : n = i := by omega
    refine lv_iload_n hx hb d_Atoms_heat_77 rfl (lv_at hl 1 rfl) ?_
    refine lv_if_ne (tgt := 85) hx hb d_Atoms_heat_78 (by decide) (fun c78 => ?_) (fun c78 => ?_)
    · skip
      have l0 : pb_loose stuck n ≠ 0 := fun h => c78 (by rw [h]; exact nI_0)
      have l1 := pb_loose_le stuck n
      have gl := pb_i2d_I (k := pb_loose stuck n) (by omega) (by omega)
      have gs := pb_hs_I10 hn hmI huI hvI n (Nat.le_refl _)
      refine lv_dload_n hx hb d_Atoms_heat_85 rfl (lv_at hl 2 rfl) ?_
      refine lv_ldc2d (v := 4611686018427387904) hx hb hown (hts (.constantDouble R_Atoms 39 4611686018427387904) (by decide +kernel)) d_Atoms_heat_86 ?_
      refine lv_iload_n hx hb d_Atoms_heat_89 rfl (lv_at hl 1 rfl) ?_
      refine lv_i2d hx hb d_Atoms_heat_90 ?_
      have g_1 := fp_const (a := 4611686018427387904) (T := (fp_d 1 1075)) (by decide +kernel)
      have g_2 := fp_I_mul (fp_d 1 1075) (fp_d 5 1076) g_1 gl (by decide +kernel)
      refine lv_dmul hx hb d_Atoms_heat_91 g_2.n ?_
      have g_3 := fp_I_div (fp_d 0 0) (fp_d 5 1161) gs g_2 (by decide +kernel)
      refine lv_ddiv hx hb d_Atoms_heat_92 g_3.n ?_
      have hP9 := hP.sub (ws' := [(ha, .inr (0, [.ref hax, .ref hay, .ref hau, .ref hav, .ref ham, .ref has, .ref hak, .int (nI n)])), (hax, .inl (cD, 10, .inr (.inr (.inr (.inl x))))), (hay, .inl (cD, 10, .inr (.inr (.inr (.inl y))))), (hau, .inl (cD, 10, .inr (.inr (.inr (.inl u))))), (hav, .inl (cD, 10, .inr (.inr (.inr (.inl v))))), (ham, .inl (cD, 10, .inr (.inr (.inr (.inl mass))))), (has, .inl (cI, 10, .inl sort)), (hak, .inl (cZ, 10, .inl stuck))]) [0, 1, 2, 3, 4, 5, 6, 7] rfl
      have hD9 := hD.sub (ws' := [(ha, .inr (0, [.ref hax, .ref hay, .ref hau, .ref hav, .ref ham, .ref has, .ref hak, .int (nI n)])), (hax, .inl (cD, 10, .inr (.inr (.inr (.inl x))))), (hay, .inl (cD, 10, .inr (.inr (.inr (.inl y))))), (hau, .inl (cD, 10, .inr (.inr (.inr (.inl u))))), (hav, .inl (cD, 10, .inr (.inr (.inr (.inl v))))), (ham, .inl (cD, 10, .inr (.inr (.inr (.inl mass))))), (has, .inl (cI, 10, .inl sort)), (hak, .inl (cZ, 10, .inl stuck))]) [0, 1, 2, 3, 4, 5, 6, 7] (by decide) rfl
      exact W.dret (v := (FP.ddiv (pb_hs mass u v n) (FP.dmul 4611686018427387904 (FP.i2d (nI (pb_loose stuck n)))))) hx hb hr (fun t ht hW => ⟨⟨(FP.ddiv (pb_hs mass u v n) (FP.dmul 4611686018427387904 (FP.i2d (nI (pb_loose stuck n))))), (), rfl, (by unfold pb_heat; rw [if_neg l0]), by rw [ht]; exact hP9, va_K.moved hW.alike hK, hD9⟩, hS.F ht⟩) hS.2.2 d_Atoms_heat_93
    · skip
      have l1 := pb_loose_le stuck n
      have l0 : pb_loose stuck n = 0 := (nI_eq (by omega) (by decide)).mp (c78.trans nI_0.symm)
      refine lv_dconst0 hx hb d_Atoms_heat_81 ?_
      refine lv_goto (tgt := 93) hx hb d_Atoms_heat_82 (by decide) ?_
      have hP9 := hP.sub (ws' := [(ha, .inr (0, [.ref hax, .ref hay, .ref hau, .ref hav, .ref ham, .ref has, .ref hak, .int (nI n)])), (hax, .inl (cD, 10, .inr (.inr (.inr (.inl x))))), (hay, .inl (cD, 10, .inr (.inr (.inr (.inl y))))), (hau, .inl (cD, 10, .inr (.inr (.inr (.inl u))))), (hav, .inl (cD, 10, .inr (.inr (.inr (.inl v))))), (ham, .inl (cD, 10, .inr (.inr (.inr (.inl mass))))), (has, .inl (cI, 10, .inl sort)), (hak, .inl (cZ, 10, .inl stuck))]) [0, 1, 2, 3, 4, 5, 6, 7] rfl
      have hD9 := hD.sub (ws' := [(ha, .inr (0, [.ref hax, .ref hay, .ref hau, .ref hav, .ref ham, .ref has, .ref hak, .int (nI n)])), (hax, .inl (cD, 10, .inr (.inr (.inr (.inl x))))), (hay, .inl (cD, 10, .inr (.inr (.inr (.inl y))))), (hau, .inl (cD, 10, .inr (.inr (.inr (.inl u))))), (hav, .inl (cD, 10, .inr (.inr (.inr (.inl v))))), (ham, .inl (cD, 10, .inr (.inr (.inr (.inl mass))))), (has, .inl (cI, 10, .inl sort)), (hak, .inl (cZ, 10, .inl stuck))]) [0, 1, 2, 3, 4, 5, 6, 7] (by decide) rfl
      exact W.dret (v := FP.dconst0) hx hb hr (fun t ht hW => ⟨⟨FP.dconst0, (), rfl, (by unfold pb_heat; rw [if_pos l0]), by rw [ht]; exact hP9, va_K.moved hW.alike hK, hD9⟩, hS.F ht⟩) hS.2.2 d_Atoms_heat_93
  · skip
    have c13 : ¬ n ≤ i := fun h => c13 ((nI_leI (a := n) (b := i) (by omega) (by omega)).mpr h)
    have ge := pb_hs_I10 hn hmI huI hvI i (by omega)
    refine lv_dload_n hx hb d_Atoms_heat_16 rfl (lv_at hl 2 rfl) ?_
    refine lv_aload_n hx hb d_Atoms_heat_17 rfl (lv_at hl 3 rfl) ?_
    refine va_get (D := (dC, dI)) (ci := 0) (v := .ref ham) (C := R_Atoms) (T := F_Atoms) (N := 8) hx hb hts (fun w h => List.mem_cons_of_mem _ (i_Atoms w h)) hown hK hP 0 rfl rfl 4 (by decide) (hts _ (List.mem_cons_of_mem _ kw_128)) (fun _ h9 => h9) rfl d_Atoms_heat_18 ?_
    refine lv_iload hx hb d_Atoms_heat_21 (lv_at hl 0 rfl) ?_
    refine gx_dald hx hb hK hP 5 1 rfl rfl (by omega) (by decide) d_Atoms_heat_23 ?_
    have g_4 := hmI i (by omega)
    refine lv_aload_n hx hb d_Atoms_heat_24 rfl (lv_at hl 3 rfl) ?_
    refine va_get (D := (dC, dI)) (ci := 0) (v := .ref hau) (C := R_Atoms) (T := F_Atoms) (N := 8) hx hb hts (fun w h => List.mem_cons_of_mem _ (i_Atoms w h)) hown hK hP 0 rfl rfl 2 (by decide) (hts _ (List.mem_cons_of_mem _ kw_122)) (fun _ h9 => h9) rfl d_Atoms_heat_25 ?_
    refine lv_iload hx hb d_Atoms_heat_28 (lv_at hl 0 rfl) ?_
    refine gx_dald hx hb hK hP 3 1 rfl rfl (by omega) (by decide) d_Atoms_heat_30 ?_
    have g_5 := huI i (by omega)
    refine lv_aload_n hx hb d_Atoms_heat_31 rfl (lv_at hl 3 rfl) ?_
    refine va_get (D := (dC, dI)) (ci := 0) (v := .ref hau) (C := R_Atoms) (T := F_Atoms) (N := 8) hx hb hts (fun w h => List.mem_cons_of_mem _ (i_Atoms w h)) hown hK hP 0 rfl rfl 2 (by decide) (hts _ (List.mem_cons_of_mem _ kw_122)) (fun _ h9 => h9) rfl d_Atoms_heat_32 ?_
    refine lv_iload hx hb d_Atoms_heat_35 (lv_at hl 0 rfl) ?_
    refine gx_dald hx hb hK hP 3 1 rfl rfl (by omega) (by decide) d_Atoms_heat_37 ?_
    have g_6 := fp_I_sq (fp_d 1 1154) g_5 (by decide +kernel)
    refine lv_dmul hx hb d_Atoms_heat_38 g_6.n ?_
    refine lv_aload_n hx hb d_Atoms_heat_39 rfl (lv_at hl 3 rfl) ?_
    refine va_get (D := (dC, dI)) (ci := 0) (v := .ref hav) (C := R_Atoms) (T := F_Atoms) (N := 8) hx hb hts (fun w h => List.mem_cons_of_mem _ (i_Atoms w h)) hown hK hP 0 rfl rfl 3 (by decide) (hts _ (List.mem_cons_of_mem _ kw_125)) (fun _ h9 => h9) rfl d_Atoms_heat_40 ?_
    refine lv_iload hx hb d_Atoms_heat_43 (lv_at hl 0 rfl) ?_
    refine gx_dald hx hb hK hP 4 1 rfl rfl (by omega) (by decide) d_Atoms_heat_45 ?_
    have g_7 := hvI i (by omega)
    refine lv_aload_n hx hb d_Atoms_heat_46 rfl (lv_at hl 3 rfl) ?_
    refine va_get (D := (dC, dI)) (ci := 0) (v := .ref hav) (C := R_Atoms) (T := F_Atoms) (N := 8) hx hb hts (fun w h => List.mem_cons_of_mem _ (i_Atoms w h)) hown hK hP 0 rfl rfl 3 (by decide) (hts _ (List.mem_cons_of_mem _ kw_125)) (fun _ h9 => h9) rfl d_Atoms_heat_47 ?_
    refine lv_iload hx hb d_Atoms_heat_50 (lv_at hl 0 rfl) ?_
    refine gx_dald hx hb hK hP 4 1 rfl rfl (by omega) (by decide) d_Atoms_heat_52 ?_
    have g_8 := fp_I_sq (fp_d 1 1154) g_7 (by decide +kernel)
    refine lv_dmul hx hb d_Atoms_heat_53 g_8.n ?_
    have g_9 := fp_I_add (fp_d 0 0) (fp_d 1 1155) g_6 g_8 (by decide +kernel)
    refine lv_dadd hx hb d_Atoms_heat_54 g_9.n ?_
    have g_10 := fp_I_mul (fp_d 0 0) (fp_d 1 1161) g_4 g_9 (by decide +kernel)
    refine lv_dmul hx hb d_Atoms_heat_55 g_10.n ?_
    have g_11 := fp_I_add (fp_d 0 0) (fp_d 11 1161) ge g_10 (by decide +kernel)
    refine lv_dadd hx hb d_Atoms_heat_56 g_11.n ?_
    refine lv_dstore_n (lv' := [(1, .double (FP.dadd (pb_hs mass u v i) (FP.dmul (mass i) (FP.dadd (FP.dmul (u i) (u i)) (FP.dmul (v i) (v i)))))), (4, .int (nI i)), (3, .int (nI (pb_loose stuck i))), (0, .ref ha)]) hx hb d_Atoms_heat_57 rfl hl (by decide) rfl (fun ls hl => ?_)
    refine lv_aload_n hx hb d_Atoms_heat_58 rfl (lv_at hl 3 rfl) ?_
    refine va_get (D := (dC, dI)) (ci := 0) (v := .ref hak) (C := R_Atoms) (T := F_Atoms) (N := 8) hx hb hts (fun w h => List.mem_cons_of_mem _ (i_Atoms w h)) hown hK hP 0 rfl rfl 6 (by decide) (hts _ (List.mem_cons_of_mem _ kw_134)) (fun _ h9 => h9) rfl d_Atoms_heat_59 ?_
    refine lv_iload hx hb d_Atoms_heat_62 (lv_at hl 1 rfl) ?_
    refine gx_zald hx hb hK hP 7 2 rfl rfl (by omega) (by decide) d_Atoms_heat_64 ?_
    refine lv_if_ne (tgt := 71) hx hb d_Atoms_heat_65 (by decide) (fun c65 => ?_) (fun c65 => ?_)
    · skip
      have e9 : pb_loose stuck i = pb_loose stuck (i + 1) := by show _ = (if stuck i = 0 then pb_loose stuck i + 1 else pb_loose stuck i); rw [if_neg c65]
      rw [e9] at hl
      refine lv_iinc (v := nI (i + 1)) (lv' := [(4, .int (nI (i + 1))), (1, .double (FP.dadd (pb_hs mass u v i) (FP.dmul (mass i) (FP.dadd (FP.dmul (u i) (u i)) (FP.dmul (v i) (v i)))))), (3, .int (nI (pb_loose stuck (i + 1)))), (0, .ref ha)]) hx hb d_Atoms_heat_71 hl (k := 1) rfl (nI_1 i) (by decide) rfl (fun ls hl => ?_)
      refine lv_goto (tgt := 7) hx hb d_Atoms_heat_74 (by decide) ?_
      exact K7 (i + 1) _ _ _ ⟨hP.sub [0, 1, 2, 3, 4, 5, 6, 7] rfl, hD.sub [0, 1, 2, 3, 4, 5, 6, 7] (by decide) rfl, hS, lv_sub hl [0, 2, 1, 3] rfl, (by omega)⟩ (by omega)
    · skip
      refine lv_iinc (v := nI ((pb_loose stuck i) + 1)) (lv' := [(3, .int (nI ((pb_loose stuck i) + 1))), (1, .double (FP.dadd (pb_hs mass u v i) (FP.dmul (mass i) (FP.dadd (FP.dmul (u i) (u i)) (FP.dmul (v i) (v i)))))), (4, .int (nI i)), (0, .ref ha)]) hx hb d_Atoms_heat_68 hl (k := 2) rfl (nI_1 (pb_loose stuck i)) (by decide) rfl (fun ls hl => ?_)
      have e9 : pb_loose stuck i + 1 = pb_loose stuck (i + 1) := by show _ = (if stuck i = 0 then pb_loose stuck i + 1 else pb_loose stuck i); rw [if_pos c65]
      rw [e9] at hl
      refine lv_iinc (v := nI (i + 1)) (lv' := [(4, .int (nI (i + 1))), (3, .int (nI (pb_loose stuck (i + 1)))), (1, .double (FP.dadd (pb_hs mass u v i) (FP.dmul (mass i) (FP.dadd (FP.dmul (u i) (u i)) (FP.dmul (v i) (v i)))))), (0, .ref ha)]) hx hb d_Atoms_heat_71 hl (k := 2) rfl (nI_1 i) (by decide) rfl (fun ls hl => ?_)
      refine lv_goto (tgt := 7) hx hb d_Atoms_heat_74 (by decide) ?_
      exact K7 (i + 1) _ _ _ ⟨hP.sub [0, 1, 2, 3, 4, 5, 6, 7] rfl, hD.sub [0, 1, 2, 3, 4, 5, 6, 7] (by decide) rfl, hS, lv_sub hl [0, 1, 2, 3] rfl, (by omega)⟩ (by omega)
set_option maxHeartbeats 4000000 in
set_option maxRecDepth 100000 in
/-- a new atom -/
theorem c_Atoms_add (l : Launch) (dC : Nat → ClassId) (dI : Nat → Nat → Nat) (cI cD cZ : ClassId) (sz : Nat) (ha : Nat) (hax : Nat) (hay : Nat) (hau : Nat) (hav : Nat) (ham : Nat) (has : Nat) (hak : Nat) (x : Nat → UInt64) (y : Nat → UInt64) (u : Nat → UInt64) (v : Nat → UInt64) (mass : Nat → UInt64) (sort : Nat → Int32) (stuck : Nat → Int32) (n : Nat) (x0 : UInt64) (y0 : UInt64) (m0 : UInt64) (s0 : Int32) (hn : n < 10) : Met l y_Atoms_add w_Atoms_add ({ frames := 0, cells := 0, slots := 0, locals := 0 }) (va_Pc [.ref ha, .double x0, .double y0, .double m0, .int s0] (gx_B (dC, dI) classes (gx_T cI cD cZ) [(ha, .inr (0, [.ref hax, .ref hay, .ref hau, .ref hav, .ref ham, .ref has, .ref hak, .int (nI n)])), (hax, .inl (cD, 10, .inr (.inr (.inr (.inl x))))), (hay, .inl (cD, 10, .inr (.inr (.inr (.inl y))))), (hau, .inl (cD, 10, .inr (.inr (.inr (.inl u))))), (hav, .inl (cD, 10, .inr (.inr (.inr (.inl v))))), (ham, .inl (cD, 10, .inr (.inr (.inr (.inl mass))))), (has, .inl (cI, 10, .inl sort)), (hak, .inl (cZ, 10, .inl stuck))] sz)) (va_Qi (fun (rr : Int32) (uu : Unit) => rr = nI n) (fun (uu : Unit) t => gx_E (dC, dI) classes (gx_T cI cD cZ) (va_A [(ha, .inr (0, [.ref hax, .ref hay, .ref hau, .ref hav, .ref ham, .ref has, .ref hak, .int (nI n)])), (hax, .inl (cD, 10, .inr (.inr (.inr (.inl x))))), (hay, .inl (cD, 10, .inr (.inr (.inr (.inl y))))), (hau, .inl (cD, 10, .inr (.inr (.inr (.inl u))))), (hav, .inl (cD, 10, .inr (.inr (.inr (.inl v))))), (ham, .inl (cD, 10, .inr (.inr (.inr (.inl mass))))), (has, .inl (cI, 10, .inl sort)), (hak, .inl (cZ, 10, .inl stuck))] sz) [(ha, .inr (0, [.ref hax, .ref hay, .ref hau, .ref hav, .ref ham, .ref has, .ref hak, .int (nI (n + 1))])), (hax, .inl (cD, 10, .inr (.inr (.inr (.inl (vf_upd x n x0)))))), (hay, .inl (cD, 10, .inr (.inr (.inr (.inl (vf_upd y n y0)))))), (hau, .inl (cD, 10, .inr (.inr (.inr (.inl u))))), (hav, .inl (cD, 10, .inr (.inr (.inr (.inl v))))), (ham, .inl (cD, 10, .inr (.inr (.inr (.inl (vf_upd mass n m0)))))), (has, .inl (cI, 10, .inl (upd sort n s0))), (hak, .inl (cZ, 10, .inl stuck))] t) (va_A [(ha, .inr (0, [.ref hax, .ref hay, .ref hau, .ref hav, .ref ham, .ref has, .ref hak, .int (nI n)])), (hax, .inl (cD, 10, .inr (.inr (.inr (.inl x))))), (hay, .inl (cD, 10, .inr (.inr (.inr (.inl y))))), (hau, .inl (cD, 10, .inr (.inr (.inr (.inl u))))), (hav, .inl (cD, 10, .inr (.inr (.inr (.inl v))))), (ham, .inl (cD, 10, .inr (.inr (.inr (.inl mass))))), (has, .inl (cI, 10, .inl sort)), (hak, .inl (cZ, 10, .inl stuck))] sz)) 0 0 (va_A [(ha, .inr (0, [.ref hax, .ref hay, .ref hau, .ref hav, .ref ham, .ref has, .ref hak, .int (nI n)])), (hax, .inl (cD, 10, .inr (.inr (.inr (.inl x))))), (hay, .inl (cD, 10, .inr (.inr (.inr (.inl y))))), (hau, .inl (cD, 10, .inr (.inr (.inr (.inl u))))), (hav, .inl (cD, 10, .inr (.inr (.inr (.inl v))))), (ham, .inl (cD, 10, .inr (.inr (.inr (.inl mass))))), (has, .inl (cI, 10, .inl sort)), (hak, .inl (cZ, 10, .inl stuck))] sz) := by
  refine Met.ofW (cc := b_Atoms_add) (maxL := 9) (ret := (some .int)) (by decide) rfl ?_
  intro p e s m args below meth c s₁ B hml hv
  obtain ⟨rfl, hsz, hP, hK, hD0, hN⟩ := hv
  have hx := B.exec
  have hb := B.bytes
  have hr := B.returns
  have hts := atoms_spec (ws := w_Atoms_add) B.pre
  have hown : s.vm.findClass R_Atoms = some m.cls := findClass_of_methodNamed B.named
  have hlocks := B.notSynchronized
  subst hsz
  have hD := hD0.self (sz := s.heap.size)
  generalize hAe : va_A [(ha, .inr (0, [.ref hax, .ref hay, .ref hau, .ref hav, .ref ham, .ref has, .ref hak, .int (nI n)])), (hax, .inl (cD, 10, .inr (.inr (.inr (.inl x))))), (hay, .inl (cD, 10, .inr (.inr (.inr (.inl y))))), (hau, .inl (cD, 10, .inr (.inr (.inr (.inl u))))), (hav, .inl (cD, 10, .inr (.inr (.inr (.inl v))))), (ham, .inl (cD, 10, .inr (.inr (.inr (.inl mass))))), (has, .inl (cI, 10, .inl sort)), (hak, .inl (cZ, 10, .inl stuck))] s.heap.size = A at hD ⊢
  have hA : ∀ q : Nat, s.heap.size ≤ q → A q := fun q h => by rw [← hAe]; exact Or.inr h
  have hS : va_S A s.heap s.heap [] := va_S.rf
  have hl := lv_entry ([.ref ha, .double x0, .double y0, .double m0, .int s0]) (n := 9) (Nat.le_of_ble_eq_true rfl)
  rw [lg_entry_eq]
  generalize (lg_sl ([.ref ha, .double x0, .double y0, .double m0, .int s0]) ++ List.replicate (9 - (lg_sl ([.ref ha, .double x0, .double y0, .double m0, .int s0])).length) Slot.unset).toArray = ls at hl ⊢
  have hl : lv_has ls 9 [(0, .ref ha), (1, .double x0), (3, .double y0), (5, .double m0), (7, .int s0)] := hl
  obtain ⟨H, hH⟩ : ∃ H, H = s.heap := ⟨_, rfl⟩
  rw [← hH] at hP
  have hS : va_S A s.heap H [] := by rw [hH]; exact hS
  refine gx_start hH ?_
  refine lv_aload_n hx hb d_Atoms_add_0 rfl (lv_at hl 0 rfl) ?_
  refine va_get (D := (dC, dI)) (ci := 0) (v := .int (nI n)) (C := R_Atoms) (T := F_Atoms) (N := 8) hx hb hts (fun w h => List.mem_cons_of_mem _ (i_Atoms w h)) hown hK hP 0 rfl rfl 7 (by decide) (hts _ (List.mem_cons_of_mem _ kw_137)) (fun _ h9 => h9) rfl d_Atoms_add_1 ?_
  refine lv_istore (lv' := [(8, .int (nI n)), (0, .ref ha), (1, .double x0), (3, .double y0), (5, .double m0), (7, .int s0)]) hx hb d_Atoms_add_4 hl (by decide) rfl (fun ls hl => ?_)
  refine lv_aload_n hx hb d_Atoms_add_6 rfl (lv_at hl 1 rfl) ?_
  refine va_get (D := (dC, dI)) (ci := 0) (v := .ref hax) (C := R_Atoms) (T := F_Atoms) (N := 8) hx hb hts (fun w h => List.mem_cons_of_mem _ (i_Atoms w h)) hown hK hP 0 rfl rfl 0 (by decide) (hts _ (List.mem_cons_of_mem _ kw_112)) (fun _ h9 => h9) rfl d_Atoms_add_7 ?_
  refine lv_iload hx hb d_Atoms_add_10 (lv_at hl 0 rfl) ?_
  refine lv_dload_n hx hb d_Atoms_add_12 rfl (lv_at hl 2 rfl) ?_
  refine gx_dast hx hb hK hP hD hS 1 1 rfl rfl (by omega) (by decide) d_Atoms_add_13 (fun H locs hP hD hS => ?_)
  have hP : va_P (dC, dI) classes [(ha, .inr (0, [.ref hax, .ref hay, .ref hau, .ref hav, .ref ham, .ref has, .ref hak, .int (nI n)])), (hax, .inl (cD, 10, .inr (.inr (.inr (.inl (vf_upd x n x0)))))), (hay, .inl (cD, 10, .inr (.inr (.inr (.inl y))))), (hau, .inl (cD, 10, .inr (.inr (.inr (.inl u))))), (hav, .inl (cD, 10, .inr (.inr (.inr (.inl v))))), (ham, .inl (cD, 10, .inr (.inr (.inr (.inl mass))))), (has, .inl (cI, 10, .inl sort)), (hak, .inl (cZ, 10, .inl stuck))] H := hP
  have hD : va_D A [(ha, .inr (0, [.ref hax, .ref hay, .ref hau, .ref hav, .ref ham, .ref has, .ref hak, .int (nI n)])), (hax, .inl (cD, 10, .inr (.inr (.inr (.inl (vf_upd x n x0)))))), (hay, .inl (cD, 10, .inr (.inr (.inr (.inl y))))), (hau, .inl (cD, 10, .inr (.inr (.inr (.inl u))))), (hav, .inl (cD, 10, .inr (.inr (.inr (.inl v))))), (ham, .inl (cD, 10, .inr (.inr (.inr (.inl mass))))), (has, .inl (cI, 10, .inl sort)), (hak, .inl (cZ, 10, .inl stuck))] := hD
  refine lv_aload_n hx hb d_Atoms_add_14 rfl (lv_at hl 1 rfl) ?_
  refine va_get (D := (dC, dI)) (ci := 0) (v := .ref hay) (C := R_Atoms) (T := F_Atoms) (N := 8) hx hb hts (fun w h => List.mem_cons_of_mem _ (i_Atoms w h)) hown hK hP 0 rfl rfl 1 (by decide) (hts _ (List.mem_cons_of_mem _ kw_117)) (fun _ h9 => h9) rfl d_Atoms_add_15 ?_
  refine lv_iload hx hb d_Atoms_add_18 (lv_at hl 0 rfl) ?_
  refine lv_dload_n hx hb d_Atoms_add_20 rfl (lv_at hl 3 rfl) ?_
  refine gx_dast hx hb hK hP hD hS 2 1 rfl rfl (by omega) (by decide) d_Atoms_add_21 (fun H locs hP hD hS => ?_)
  have hP : va_P (dC, dI) classes [(ha, .inr (0, [.ref hax, .ref hay, .ref hau, .ref hav, .ref ham, .ref has, .ref hak, .int (nI n)])), (hax, .inl (cD, 10, .inr (.inr (.inr (.inl (vf_upd x n x0)))))), (hay, .inl (cD, 10, .inr (.inr (.inr (.inl (vf_upd y n y0)))))), (hau, .inl (cD, 10, .inr (.inr (.inr (.inl u))))), (hav, .inl (cD, 10, .inr (.inr (.inr (.inl v))))), (ham, .inl (cD, 10, .inr (.inr (.inr (.inl mass))))), (has, .inl (cI, 10, .inl sort)), (hak, .inl (cZ, 10, .inl stuck))] H := hP
  have hD : va_D A [(ha, .inr (0, [.ref hax, .ref hay, .ref hau, .ref hav, .ref ham, .ref has, .ref hak, .int (nI n)])), (hax, .inl (cD, 10, .inr (.inr (.inr (.inl (vf_upd x n x0)))))), (hay, .inl (cD, 10, .inr (.inr (.inr (.inl (vf_upd y n y0)))))), (hau, .inl (cD, 10, .inr (.inr (.inr (.inl u))))), (hav, .inl (cD, 10, .inr (.inr (.inr (.inl v))))), (ham, .inl (cD, 10, .inr (.inr (.inr (.inl mass))))), (has, .inl (cI, 10, .inl sort)), (hak, .inl (cZ, 10, .inl stuck))] := hD
  refine lv_aload_n hx hb d_Atoms_add_22 rfl (lv_at hl 1 rfl) ?_
  refine va_get (D := (dC, dI)) (ci := 0) (v := .ref ham) (C := R_Atoms) (T := F_Atoms) (N := 8) hx hb hts (fun w h => List.mem_cons_of_mem _ (i_Atoms w h)) hown hK hP 0 rfl rfl 4 (by decide) (hts _ (List.mem_cons_of_mem _ kw_128)) (fun _ h9 => h9) rfl d_Atoms_add_23 ?_
  refine lv_iload hx hb d_Atoms_add_26 (lv_at hl 0 rfl) ?_
  refine lv_dload hx hb d_Atoms_add_28 (lv_at hl 4 rfl) ?_
  refine gx_dast hx hb hK hP hD hS 5 1 rfl rfl (by omega) (by decide) d_Atoms_add_30 (fun H locs hP hD hS => ?_)
  have hP : va_P (dC, dI) classes [(ha, .inr (0, [.ref hax, .ref hay, .ref hau, .ref hav, .ref ham, .ref has, .ref hak, .int (nI n)])), (hax, .inl (cD, 10, .inr (.inr (.inr (.inl (vf_upd x n x0)))))), (hay, .inl (cD, 10, .inr (.inr (.inr (.inl (vf_upd y n y0)))))), (hau, .inl (cD, 10, .inr (.inr (.inr (.inl u))))), (hav, .inl (cD, 10, .inr (.inr (.inr (.inl v))))), (ham, .inl (cD, 10, .inr (.inr (.inr (.inl (vf_upd mass n m0)))))), (has, .inl (cI, 10, .inl sort)), (hak, .inl (cZ, 10, .inl stuck))] H := hP
  have hD : va_D A [(ha, .inr (0, [.ref hax, .ref hay, .ref hau, .ref hav, .ref ham, .ref has, .ref hak, .int (nI n)])), (hax, .inl (cD, 10, .inr (.inr (.inr (.inl (vf_upd x n x0)))))), (hay, .inl (cD, 10, .inr (.inr (.inr (.inl (vf_upd y n y0)))))), (hau, .inl (cD, 10, .inr (.inr (.inr (.inl u))))), (hav, .inl (cD, 10, .inr (.inr (.inr (.inl v))))), (ham, .inl (cD, 10, .inr (.inr (.inr (.inl (vf_upd mass n m0)))))), (has, .inl (cI, 10, .inl sort)), (hak, .inl (cZ, 10, .inl stuck))] := hD
  refine lv_aload_n hx hb d_Atoms_add_31 rfl (lv_at hl 1 rfl) ?_
  refine va_get (D := (dC, dI)) (ci := 0) (v := .ref has) (C := R_Atoms) (T := F_Atoms) (N := 8) hx hb hts (fun w h => List.mem_cons_of_mem _ (i_Atoms w h)) hown hK hP 0 rfl rfl 5 (by decide) (hts _ (List.mem_cons_of_mem _ kw_131)) (fun _ h9 => h9) rfl d_Atoms_add_32 ?_
  refine lv_iload hx hb d_Atoms_add_35 (lv_at hl 0 rfl) ?_
  refine lv_iload hx hb d_Atoms_add_37 (lv_at hl 5 rfl) ?_
  refine gx_iast hx hb hK hP hD hS 6 0 rfl rfl (by omega) (by decide) d_Atoms_add_39 (fun H locs hP hD hS => ?_)
  have hP : va_P (dC, dI) classes [(ha, .inr (0, [.ref hax, .ref hay, .ref hau, .ref hav, .ref ham, .ref has, .ref hak, .int (nI n)])), (hax, .inl (cD, 10, .inr (.inr (.inr (.inl (vf_upd x n x0)))))), (hay, .inl (cD, 10, .inr (.inr (.inr (.inl (vf_upd y n y0)))))), (hau, .inl (cD, 10, .inr (.inr (.inr (.inl u))))), (hav, .inl (cD, 10, .inr (.inr (.inr (.inl v))))), (ham, .inl (cD, 10, .inr (.inr (.inr (.inl (vf_upd mass n m0)))))), (has, .inl (cI, 10, .inl (upd sort n s0))), (hak, .inl (cZ, 10, .inl stuck))] H := hP
  have hD : va_D A [(ha, .inr (0, [.ref hax, .ref hay, .ref hau, .ref hav, .ref ham, .ref has, .ref hak, .int (nI n)])), (hax, .inl (cD, 10, .inr (.inr (.inr (.inl (vf_upd x n x0)))))), (hay, .inl (cD, 10, .inr (.inr (.inr (.inl (vf_upd y n y0)))))), (hau, .inl (cD, 10, .inr (.inr (.inr (.inl u))))), (hav, .inl (cD, 10, .inr (.inr (.inr (.inl v))))), (ham, .inl (cD, 10, .inr (.inr (.inr (.inl (vf_upd mass n m0)))))), (has, .inl (cI, 10, .inl (upd sort n s0))), (hak, .inl (cZ, 10, .inl stuck))] := hD
  refine lv_aload_n hx hb d_Atoms_add_40 rfl (lv_at hl 1 rfl) ?_
  refine lv_dup hx hb d_Atoms_add_41 rfl ?_
  refine va_get (D := (dC, dI)) (ci := 0) (v := .int (nI n)) (C := R_Atoms) (T := F_Atoms) (N := 8) hx hb hts (fun w h => List.mem_cons_of_mem _ (i_Atoms w h)) hown hK hP 0 rfl rfl 7 (by decide) (hts _ (List.mem_cons_of_mem _ kw_137)) (fun _ h9 => h9) rfl d_Atoms_add_42 ?_
  refine lv_iconst (v := 1) hx hb d_Atoms_add_45 (by decide) ?_
  refine lv_iadd hx hb d_Atoms_add_46 ?_
  rw [nI_1 n]
  refine va_put (D := (dC, dI)) (ci := 0) (v := .int (nI (n + 1))) (ty := .int) (C := R_Atoms) (T := F_Atoms) (N := 8) hx hb hts (fun w h => List.mem_cons_of_mem _ (i_Atoms w h)) t_Atoms t_Atoms_ok n_Atoms hown hK hP hD hS 0 rfl rfl 7 (by decide) (hts _ (List.mem_cons_of_mem _ kw_137)) (fun _ h9 => h9) rfl (by decide +kernel) rfl rfl (Nat.le_of_ble_eq_true rfl) d_Atoms_add_47 (fun H locs hP hD hS => ?_)
  have hP : va_P (dC, dI) classes [(ha, .inr (0, [.ref hax, .ref hay, .ref hau, .ref hav, .ref ham, .ref has, .ref hak, .int (nI (n + 1))])), (hax, .inl (cD, 10, .inr (.inr (.inr (.inl (vf_upd x n x0)))))), (hay, .inl (cD, 10, .inr (.inr (.inr (.inl (vf_upd y n y0)))))), (hau, .inl (cD, 10, .inr (.inr (.inr (.inl u))))), (hav, .inl (cD, 10, .inr (.inr (.inr (.inl v))))), (ham, .inl (cD, 10, .inr (.inr (.inr (.inl (vf_upd mass n m0)))))), (has, .inl (cI, 10, .inl (upd sort n s0))), (hak, .inl (cZ, 10, .inl stuck))] H := hP
  have hD : va_D A [(ha, .inr (0, [.ref hax, .ref hay, .ref hau, .ref hav, .ref ham, .ref has, .ref hak, .int (nI (n + 1))])), (hax, .inl (cD, 10, .inr (.inr (.inr (.inl (vf_upd x n x0)))))), (hay, .inl (cD, 10, .inr (.inr (.inr (.inl (vf_upd y n y0)))))), (hau, .inl (cD, 10, .inr (.inr (.inr (.inl u))))), (hav, .inl (cD, 10, .inr (.inr (.inr (.inl v))))), (ham, .inl (cD, 10, .inr (.inr (.inr (.inl (vf_upd mass n m0)))))), (has, .inl (cI, 10, .inl (upd sort n s0))), (hak, .inl (cZ, 10, .inl stuck))] := hD
  refine lv_iload hx hb d_Atoms_add_50 (lv_at hl 0 rfl) ?_
  have hP9 := hP.sub (ws' := [(ha, .inr (0, [.ref hax, .ref hay, .ref hau, .ref hav, .ref ham, .ref has, .ref hak, .int (nI (n + 1))])), (hax, .inl (cD, 10, .inr (.inr (.inr (.inl (vf_upd x n x0)))))), (hay, .inl (cD, 10, .inr (.inr (.inr (.inl (vf_upd y n y0)))))), (hau, .inl (cD, 10, .inr (.inr (.inr (.inl u))))), (hav, .inl (cD, 10, .inr (.inr (.inr (.inl v))))), (ham, .inl (cD, 10, .inr (.inr (.inr (.inl (vf_upd mass n m0)))))), (has, .inl (cI, 10, .inl (upd sort n s0))), (hak, .inl (cZ, 10, .inl stuck))]) [0, 1, 2, 3, 4, 5, 6, 7] rfl
  have hD9 := hD.sub (ws' := [(ha, .inr (0, [.ref hax, .ref hay, .ref hau, .ref hav, .ref ham, .ref has, .ref hak, .int (nI (n + 1))])), (hax, .inl (cD, 10, .inr (.inr (.inr (.inl (vf_upd x n x0)))))), (hay, .inl (cD, 10, .inr (.inr (.inr (.inl (vf_upd y n y0)))))), (hau, .inl (cD, 10, .inr (.inr (.inr (.inl u))))), (hav, .inl (cD, 10, .inr (.inr (.inr (.inl v))))), (ham, .inl (cD, 10, .inr (.inr (.inr (.inl (vf_upd mass n m0)))))), (has, .inl (cI, 10, .inl (upd sort n s0))), (hak, .inl (cZ, 10, .inl stuck))]) [0, 1, 2, 3, 4, 5, 6, 7] (by decide) rfl
  exact W.iret (v := (nI n)) hx hb hr (fun t ht hW => ⟨⟨(nI n), (), rfl, rfl, by rw [ht]; exact hP9, va_K.moved hW.alike hK, hD9⟩, hS.F ht⟩) hS.2.2 d_Atoms_add_52
