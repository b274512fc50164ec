theorem d_Mover_keepOld_0 : decode b_Mover_keepOld 0 = .ok (.aload_n 0, 1) := by decide +kernel
theorem d_Mover_keepOld_1 : decode b_Mover_keepOld 1 = .ok (.getfield 28, 3) := by decide +kernel
theorem d_Mover_keepOld_4 : decode b_Mover_keepOld 4 = .ok (.getfield 91, 3) := by decide +kernel
theorem d_Mover_keepOld_7 : decode b_Mover_keepOld 7 = .ok (.iconst 0, 1) := by decide +kernel
theorem d_Mover_keepOld_8 : decode b_Mover_keepOld 8 = .ok (.aload_n 0, 1) := by decide +kernel
theorem d_Mover_keepOld_9 : decode b_Mover_keepOld 9 = .ok (.getfield 9, 3) := by decide +kernel
theorem d_Mover_keepOld_12 : decode b_Mover_keepOld 12 = .ok (.iconst 0, 1) := by decide +kernel
theorem d_Mover_keepOld_13 : decode b_Mover_keepOld 13 = .ok (.aload_n 0, 1) := by decide +kernel
theorem d_Mover_keepOld_14 : decode b_Mover_keepOld 14 = .ok (.getfield 28, 3) := by decide +kernel
theorem d_Mover_keepOld_17 : decode b_Mover_keepOld 17 = .ok (.getfield 94, 3) := by decide +kernel
theorem d_Mover_keepOld_20 : decode b_Mover_keepOld 20 = .ok (.invokestatic 97, 3) := by decide +kernel
theorem d_Mover_keepOld_23 : decode b_Mover_keepOld 23 = .ok (.aload_n 0, 1) := by decide +kernel
theorem d_Mover_keepOld_24 : decode b_Mover_keepOld 24 = .ok (.getfield 28, 3) := by decide +kernel
theorem d_Mover_keepOld_27 : decode b_Mover_keepOld 27 = .ok (.getfield 103, 3) := by decide +kernel
theorem d_Mover_keepOld_30 : decode b_Mover_keepOld 30 = .ok (.iconst 0, 1) := by decide +kernel
theorem d_Mover_keepOld_31 : decode b_Mover_keepOld 31 = .ok (.aload_n 0, 1) := by decide +kernel
theorem d_Mover_keepOld_32 : decode b_Mover_keepOld 32 = .ok (.getfield 15, 3) := by decide +kernel
theorem d_Mover_keepOld_35 : decode b_Mover_keepOld 35 = .ok (.iconst 0, 1) := by decide +kernel
theorem d_Mover_keepOld_36 : decode b_Mover_keepOld 36 = .ok (.aload_n 0, 1) := by decide +kernel
theorem d_Mover_keepOld_37 : decode b_Mover_keepOld 37 = .ok (.getfield 28, 3) := by decide +kernel
theorem d_Mover_keepOld_40 : decode b_Mover_keepOld 40 = .ok (.getfield 94, 3) := by decide +kernel
theorem d_Mover_keepOld_43 : decode b_Mover_keepOld 43 = .ok (.invokestatic 97, 3) := by decide +kernel
theorem d_Mover_keepOld_46 : decode b_Mover_keepOld 46 = .ok (.aload_n 0, 1) := by decide +kernel
theorem d_Mover_keepOld_47 : decode b_Mover_keepOld 47 = .ok (.getfield 28, 3) := by decide +kernel
theorem d_Mover_keepOld_50 : decode b_Mover_keepOld 50 = .ok (.getfield 106, 3) := by decide +kernel
theorem d_Mover_keepOld_53 : decode b_Mover_keepOld 53 = .ok (.iconst 0, 1) := by decide +kernel
theorem d_Mover_keepOld_54 : decode b_Mover_keepOld 54 = .ok (.aload_n 0, 1) := by decide +kernel
theorem d_Mover_keepOld_55 : decode b_Mover_keepOld 55 = .ok (.getfield 18, 3) := by decide +kernel
theorem d_Mover_keepOld_58 : decode b_Mover_keepOld 58 = .ok (.iconst 0, 1) := by decide +kernel
theorem d_Mover_keepOld_59 : decode b_Mover_keepOld 59 = .ok (.aload_n 0, 1) := by decide +kernel
theorem d_Mover_keepOld_60 : decode b_Mover_keepOld 60 = .ok (.getfield 28, 3) := by decide +kernel
theorem d_Mover_keepOld_63 : decode b_Mover_keepOld 63 = .ok (.getfield 94, 3) := by decide +kernel
theorem d_Mover_keepOld_66 : decode b_Mover_keepOld 66 = .ok (.invokestatic 97, 3) := by decide +kernel
theorem d_Mover_keepOld_69 : decode b_Mover_keepOld 69 = .ok (.aload_n 0, 1) := by decide +kernel
theorem d_Mover_keepOld_70 : decode b_Mover_keepOld 70 = .ok (.getfield 28, 3) := by decide +kernel
theorem d_Mover_keepOld_73 : decode b_Mover_keepOld 73 = .ok (.getfield 109, 3) := by decide +kernel
theorem d_Mover_keepOld_76 : decode b_Mover_keepOld 76 = .ok (.iconst 0, 1) := by decide +kernel
theorem d_Mover_keepOld_77 : decode b_Mover_keepOld 77 = .ok (.aload_n 0, 1) := by decide +kernel
theorem d_Mover_keepOld_78 : decode b_Mover_keepOld 78 = .ok (.getfield 21, 3) := by decide +kernel
theorem d_Mover_keepOld_81 : decode b_Mover_keepOld 81 = .ok (.iconst 0, 1) := by decide +kernel
theorem d_Mover_keepOld_82 : decode b_Mover_keepOld 82 = .ok (.aload_n 0, 1) := by decide +kernel
theorem d_Mover_keepOld_83 : decode b_Mover_keepOld 83 = .ok (.getfield 28, 3) := by decide +kernel
theorem d_Mover_keepOld_86 : decode b_Mover_keepOld 86 = .ok (.getfield 94, 3) := by decide +kernel
theorem d_Mover_keepOld_89 : decode b_Mover_keepOld 89 = .ok (.invokestatic 97, 3) := by decide +kernel
theorem d_Mover_keepOld_92 : decode b_Mover_keepOld 92 = .ok (.return_, 1) := by decide +kernel
theorem d_Mover_goBack_0 : decode b_Mover_goBack 0 = .ok (.aload_n 0, 1) := by decide +kernel
theorem d_Mover_goBack_1 : decode b_Mover_goBack 1 = .ok (.getfield 9, 3) := by decide +kernel
theorem d_Mover_goBack_4 : decode b_Mover_goBack 4 = .ok (.iconst 0, 1) := by decide +kernel
theorem d_Mover_goBack_5 : decode b_Mover_goBack 5 = .ok (.aload_n 0, 1) := by decide +kernel
theorem d_Mover_goBack_6 : decode b_Mover_goBack 6 = .ok (.getfield 28, 3) := by decide +kernel
theorem d_Mover_goBack_9 : decode b_Mover_goBack 9 = .ok (.getfield 91, 3) := by decide +kernel
theorem d_Mover_goBack_12 : decode b_Mover_goBack 12 = .ok (.iconst 0, 1) := by decide +kernel
theorem d_Mover_goBack_13 : decode b_Mover_goBack 13 = .ok (.aload_n 0, 1) := by decide +kernel
theorem d_Mover_goBack_14 : decode b_Mover_goBack 14 = .ok (.getfield 28, 3) := by decide +kernel
theorem d_Mover_goBack_17 : decode b_Mover_goBack 17 = .ok (.getfield 94, 3) := by decide +kernel
theorem d_Mover_goBack_20 : decode b_Mover_goBack 20 = .ok (.invokestatic 97, 3) := by decide +kernel
theorem d_Mover_goBack_23 : decode b_Mover_goBack 23 = .ok (.aload_n 0, 1) := by decide +kernel
theorem d_Mover_goBack_24 : decode b_Mover_goBack 24 = .ok (.getfield 15, 3) := by decide +kernel
theorem d_Mover_goBack_27 : decode b_Mover_goBack 27 = .ok (.iconst 0, 1) := by decide +kernel
theorem d_Mover_goBack_28 : decode b_Mover_goBack 28 = .ok (.aload_n 0, 1) := by decide +kernel
theorem d_Mover_goBack_29 : decode b_Mover_goBack 29 = .ok (.getfield 28, 3) := by decide +kernel
theorem d_Mover_goBack_32 : decode b_Mover_goBack 32 = .ok (.getfield 103, 3) := by decide +kernel
theorem d_Mover_goBack_35 : decode b_Mover_goBack 35 = .ok (.iconst 0, 1) := by decide +kernel
theorem d_Mover_goBack_36 : decode b_Mover_goBack 36 = .ok (.aload_n 0, 1) := by decide +kernel
theorem d_Mover_goBack_37 : decode b_Mover_goBack 37 = .ok (.getfield 28, 3) := by decide +kernel
theorem d_Mover_goBack_40 : decode b_Mover_goBack 40 = .ok (.getfield 94, 3) := by decide +kernel
theorem d_Mover_goBack_43 : decode b_Mover_goBack 43 = .ok (.invokestatic 97, 3) := by decide +kernel
theorem d_Mover_goBack_46 : decode b_Mover_goBack 46 = .ok (.aload_n 0, 1) := by decide +kernel
theorem d_Mover_goBack_47 : decode b_Mover_goBack 47 = .ok (.getfield 18, 3) := by decide +kernel
theorem d_Mover_goBack_50 : decode b_Mover_goBack 50 = .ok (.iconst 0, 1) := by decide +kernel
theorem d_Mover_goBack_51 : decode b_Mover_goBack 51 = .ok (.aload_n 0, 1) := by decide +kernel
theorem d_Mover_goBack_52 : decode b_Mover_goBack 52 = .ok (.getfield 28, 3) := by decide +kernel
theorem d_Mover_goBack_55 : decode b_Mover_goBack 55 = .ok (.getfield 106, 3) := by decide +kernel
theorem d_Mover_goBack_58 : decode b_Mover_goBack 58 = .ok (.iconst 0, 1) := by decide +kernel
theorem d_Mover_goBack_59 : decode b_Mover_goBack 59 = .ok (.aload_n 0, 1) := by decide +kernel
theorem d_Mover_goBack_60 : decode b_Mover_goBack 60 = .ok (.getfield 28, 3) := by decide +kernel
theorem d_Mover_goBack_63 : decode b_Mover_goBack 63 = .ok (.getfield 94, 3) := by decide +kernel
theorem d_Mover_goBack_66 : decode b_Mover_goBack 66 = .ok (.invokestatic 97, 3) := by decide +kernel
theorem d_Mover_goBack_69 : decode b_Mover_goBack 69 = .ok (.aload_n 0, 1) := by decide +kernel
theorem d_Mover_goBack_70 : decode b_Mover_goBack 70 = .ok (.getfield 21, 3) := by decide +kernel
theorem d_Mover_goBack_73 : decode b_Mover_goBack 73 = .ok (.iconst 0, 1) := by decide +kernel
theorem d_Mover_goBack_74 : decode b_Mover_goBack 74 = .ok (.aload_n 0, 1) := by decide +kernel
theorem d_Mover_goBack_75 : decode b_Mover_goBack 75 = .ok (.getfield 28, 3) := by decide +kernel
theorem d_Mover_goBack_78 : decode b_Mover_goBack 78 = .ok (.getfield 109, 3) := by decide +kernel
theorem d_Mover_goBack_81 : decode b_Mover_goBack 81 = .ok (.iconst 0, 1) := by decide +kernel
theorem d_Mover_goBack_82 : decode b_Mover_goBack 82 = .ok (.aload_n 0, 1) := by decide +kernel
theorem d_Mover_goBack_83 : decode b_Mover_goBack 83 = .ok (.getfield 28, 3) := by decide +kernel
theorem d_Mover_goBack_86 : decode b_Mover_goBack 86 = .ok (.getfield 94, 3) := by decide +kernel
theorem d_Mover_goBack_89 : decode b_Mover_goBack 89 = .ok (.invokestatic 97, 3) := by decide +kernel
theorem d_Mover_goBack_92 : decode b_Mover_goBack 92 = .ok (.aload_n 0, 1) := by decide +kernel
theorem d_Mover_goBack_93 : decode b_Mover_goBack 93 = .ok (.getfield 40, 3) := by decide +kernel
theorem d_Mover_goBack_96 : decode b_Mover_goBack 96 = .ok (.invokevirtual 112, 3) := by decide +kernel
theorem d_Mover_goBack_99 : decode b_Mover_goBack 99 = .ok (.return_, 1) := by decide +kernel
theorem d_Mover_push_0 : decode b_Mover_push 0 = .ok (.iconst 0, 1) := by decide +kernel
theorem d_Mover_push_1 : decode b_Mover_push 1 = .ok (.istore_n 3, 1) := by decide +kernel
theorem d_Mover_push_2 : decode b_Mover_push 2 = .ok (.iload_n 3, 1) := by decide +kernel
theorem d_Mover_push_3 : decode b_Mover_push 3 = .ok (.aload_n 0, 1) := by decide +kernel
theorem d_Mover_push_4 : decode b_Mover_push 4 = .ok (.getfield 28, 3) := by decide +kernel
theorem d_Mover_push_7 : decode b_Mover_push 7 = .ok (.getfield 94, 3) := by decide +kernel
theorem d_Mover_push_10 : decode b_Mover_push 10 = .ok (.if_icmp .ge 109, 3) := by decide +kernel
theorem d_Mover_push_13 : decode b_Mover_push 13 = .ok (.aload_n 0, 1) := by decide +kernel
theorem d_Mover_push_14 : decode b_Mover_push 14 = .ok (.getfield 28, 3) := by decide +kernel
theorem d_Mover_push_17 : decode b_Mover_push 17 = .ok (.getfield 115, 3) := by decide +kernel
theorem d_Mover_push_20 : decode b_Mover_push 20 = .ok (.iload_n 3, 1) := by decide +kernel
theorem d_Mover_push_21 : decode b_Mover_push 21 = .ok (.baload, 1) := by decide +kernel
theorem d_Mover_push_22 : decode b_Mover_push 22 = .ok (.ifCond .ne 91, 3) := by decide +kernel
theorem d_Mover_push_25 : decode b_Mover_push 25 = .ok (.aload_n 0, 1) := by decide +kernel
theorem d_Mover_push_26 : decode b_Mover_push 26 = .ok (.getfield 28, 3) := by decide +kernel
theorem d_Mover_push_29 : decode b_Mover_push 29 = .ok (.getfield 106, 3) := by decide +kernel
theorem d_Mover_push_32 : decode b_Mover_push 32 = .ok (.iload_n 3, 1) := by decide +kernel
theorem d_Mover_push_33 : decode b_Mover_push 33 = .ok (.aload_n 0, 1) := by decide +kernel
theorem d_Mover_push_34 : decode b_Mover_push 34 = .ok (.getfield 28, 3) := by decide +kernel
theorem d_Mover_push_37 : decode b_Mover_push 37 = .ok (.getfield 106, 3) := by decide +kernel
theorem d_Mover_push_40 : decode b_Mover_push 40 = .ok (.iload_n 3, 1) := by decide +kernel
theorem d_Mover_push_41 : decode b_Mover_push 41 = .ok (.daload, 1) := by decide +kernel
theorem d_Mover_push_42 : decode b_Mover_push 42 = .ok (.ldc2_w 119, 3) := by decide +kernel
theorem d_Mover_push_45 : decode b_Mover_push 45 = .ok (.dload_n 1, 1) := by decide +kernel
theorem d_Mover_push_46 : decode b_Mover_push 46 = .ok (.dmul, 1) := by decide +kernel
theorem d_Mover_push_47 : decode b_Mover_push 47 = .ok (.aload_n 0, 1) := by decide +kernel
theorem d_Mover_push_48 : decode b_Mover_push 48 = .ok (.getfield 36, 3) := by decide +kernel
theorem d_Mover_push_51 : decode b_Mover_push 51 = .ok (.getfield 121, 3) := by decide +kernel
theorem d_Mover_push_54 : decode b_Mover_push 54 = .ok (.iload_n 3, 1) := by decide +kernel
theorem d_Mover_push_55 : decode b_Mover_push 55 = .ok (.daload, 1) := by decide +kernel
theorem d_Mover_push_56 : decode b_Mover_push 56 = .ok (.aload_n 0, 1) := by decide +kernel
theorem d_Mover_push_57 : decode b_Mover_push 57 = .ok (.getfield 28, 3) := by decide +kernel
theorem d_Mover_push_60 : decode b_Mover_push 60 = .ok (.getfield 124, 3) := by decide +kernel
theorem d_Mover_push_63 : decode b_Mover_push 63 = .ok (.iload_n 3, 1) := by decide +kernel
theorem d_Mover_push_64 : decode b_Mover_push 64 = .ok (.daload, 1) := by decide +kernel
theorem d_Mover_push_65 : decode b_Mover_push 65 = .ok (.ddiv, 1) := by decide +kernel
theorem d_Mover_push_66 : decode b_Mover_push 66 = .ok (.dmul, 1) := by decide +kernel
theorem d_Mover_push_67 : decode b_Mover_push 67 = .ok (.dadd, 1) := by decide +kernel
theorem d_Mover_push_68 : decode b_Mover_push 68 = .ok (.dastore, 1) := by decide +kernel
theorem d_Mover_push_69 : decode b_Mover_push 69 = .ok (.aload_n 0, 1) := by decide +kernel
theorem d_Mover_push_70 : decode b_Mover_push 70 = .ok (.getfield 28, 3) := by decide +kernel
theorem d_Mover_push_73 : decode b_Mover_push 73 = .ok (.getfield 109, 3) := by decide +kernel
theorem d_Mover_push_76 : decode b_Mover_push 76 = .ok (.iload_n 3, 1) := by decide +kernel
theorem d_Mover_push_77 : decode b_Mover_push 77 = .ok (.aload_n 0, 1) := by decide +kernel
theorem d_Mover_push_78 : decode b_Mover_push 78 = .ok (.getfield 28, 3) := by decide +kernel
theorem d_Mover_push_81 : decode b_Mover_push 81 = .ok (.getfield 109, 3) := by decide +kernel
theorem d_Mover_push_84 : decode b_Mover_push 84 = .ok (.iload_n 3, 1) := by decide +kernel
theorem d_Mover_push_85 : decode b_Mover_push 85 = .ok (.daload, 1) := by decide +kernel
theorem d_Mover_push_86 : decode b_Mover_push 86 = .ok (.ldc2_w 119, 3) := by decide +kernel
theorem d_Mover_push_89 : decode b_Mover_push 89 = .ok (.dload_n 1, 1) := by decide +kernel
theorem d_Mover_push_90 : decode b_Mover_push 90 = .ok (.dmul, 1) := by decide +kernel
theorem d_Mover_push_91 : decode b_Mover_push 91 = .ok (.aload_n 0, 1) := by decide +kernel
theorem d_Mover_push_92 : decode b_Mover_push 92 = .ok (.getfield 36, 3) := by decide +kernel
theorem d_Mover_push_95 : decode b_Mover_push 95 = .ok (.getfield 127, 3) := by decide +kernel
theorem d_Mover_push_98 : decode b_Mover_push 98 = .ok (.iload_n 3, 1) := by decide +kernel
theorem d_Mover_push_99 : decode b_Mover_push 99 = .ok (.daload, 1) := by decide +kernel
theorem d_Mover_push_100 : decode b_Mover_push 100 = .ok (.aload_n 0, 1) := by decide +kernel
theorem d_Mover_push_101 : decode b_Mover_push 101 = .ok (.getfield 28, 3) := by decide +kernel
theorem d_Mover_push_104 : decode b_Mover_push 104 = .ok (.getfield 124, 3) := by decide +kernel
theorem d_Mover_push_107 : decode b_Mover_push 107 = .ok (.iload_n 3, 1) := by decide +kernel
theorem d_Mover_push_108 : decode b_Mover_push 108 = .ok (.daload, 1) := by decide +kernel
theorem d_Mover_push_109 : decode b_Mover_push 109 = .ok (.ddiv, 1) := by decide +kernel
theorem d_Mover_push_110 : decode b_Mover_push 110 = .ok (.dmul, 1) := by decide +kernel
theorem d_Mover_push_111 : decode b_Mover_push 111 = .ok (.dadd, 1) := by decide +kernel
theorem d_Mover_push_112 : decode b_Mover_push 112 = .ok (.dastore, 1) := by decide +kernel
theorem d_Mover_push_113 : decode b_Mover_push 113 = .ok (.iinc 3 1, 3) := by decide +kernel
theorem d_Mover_push_116 : decode b_Mover_push 116 = .ok (.goto (-114), 3) := by decide +kernel
theorem d_Mover_push_119 : decode b_Mover_push 119 = .ok (.return_, 1) := by decide +kernel
theorem d_Mover_drift_0 : decode b_Mover_drift 0 = .ok (.iconst 0, 1) := by decide +kernel
theorem d_Mover_drift_1 : decode b_Mover_drift 1 = .ok (.istore_n 3, 1) := by decide +kernel
theorem d_Mover_drift_2 : decode b_Mover_drift 2 = .ok (.iload_n 3, 1) := by decide +kernel
theorem d_Mover_drift_3 : decode b_Mover_drift 3 = .ok (.aload_n 0, 1) := by decide +kernel
theorem d_Mover_drift_4 : decode b_Mover_drift 4 = .ok (.getfield 28, 3) := by decide +kernel
theorem d_Mover_drift_7 : decode b_Mover_drift 7 = .ok (.getfield 94, 3) := by decide +kernel
theorem d_Mover_drift_10 : decode b_Mover_drift 10 = .ok (.if_icmp .ge 81, 3) := by decide +kernel
theorem d_Mover_drift_13 : decode b_Mover_drift 13 = .ok (.aload_n 0, 1) := by decide +kernel
theorem d_Mover_drift_14 : decode b_Mover_drift 14 = .ok (.getfield 28, 3) := by decide +kernel
theorem d_Mover_drift_17 : decode b_Mover_drift 17 = .ok (.getfield 115, 3) := by decide +kernel
theorem d_Mover_drift_20 : decode b_Mover_drift 20 = .ok (.iload_n 3, 1) := by decide +kernel
theorem d_Mover_drift_21 : decode b_Mover_drift 21 = .ok (.baload, 1) := by decide +kernel
theorem d_Mover_drift_22 : decode b_Mover_drift 22 = .ok (.ifCond .ne 63, 3) := by decide +kernel
theorem d_Mover_drift_25 : decode b_Mover_drift 25 = .ok (.aload_n 0, 1) := by decide +kernel
theorem d_Mover_drift_26 : decode b_Mover_drift 26 = .ok (.getfield 28, 3) := by decide +kernel
theorem d_Mover_drift_29 : decode b_Mover_drift 29 = .ok (.getfield 91, 3) := by decide +kernel
theorem d_Mover_drift_32 : decode b_Mover_drift 32 = .ok (.iload_n 3, 1) := by decide +kernel
theorem d_Mover_drift_33 : decode b_Mover_drift 33 = .ok (.aload_n 0, 1) := by decide +kernel
theorem d_Mover_drift_34 : decode b_Mover_drift 34 = .ok (.getfield 28, 3) := by decide +kernel
theorem d_Mover_drift_37 : decode b_Mover_drift 37 = .ok (.getfield 91, 3) := by decide +kernel
theorem d_Mover_drift_40 : decode b_Mover_drift 40 = .ok (.iload_n 3, 1) := by decide +kernel
theorem d_Mover_drift_41 : decode b_Mover_drift 41 = .ok (.daload, 1) := by decide +kernel
theorem d_Mover_drift_42 : decode b_Mover_drift 42 = .ok (.dload_n 1, 1) := by decide +kernel
theorem d_Mover_drift_43 : decode b_Mover_drift 43 = .ok (.aload_n 0, 1) := by decide +kernel
theorem d_Mover_drift_44 : decode b_Mover_drift 44 = .ok (.getfield 28, 3) := by decide +kernel
theorem d_Mover_drift_47 : decode b_Mover_drift 47 = .ok (.getfield 106, 3) := by decide +kernel
theorem d_Mover_drift_50 : decode b_Mover_drift 50 = .ok (.iload_n 3, 1) := by decide +kernel
theorem d_Mover_drift_51 : decode b_Mover_drift 51 = .ok (.daload, 1) := by decide +kernel
theorem d_Mover_drift_52 : decode b_Mover_drift 52 = .ok (.dmul, 1) := by decide +kernel
theorem d_Mover_drift_53 : decode b_Mover_drift 53 = .ok (.dadd, 1) := by decide +kernel
theorem d_Mover_drift_54 : decode b_Mover_drift 54 = .ok (.dastore, 1) := by decide +kernel
theorem d_Mover_drift_55 : decode b_Mover_drift 55 = .ok (.aload_n 0, 1) := by decide +kernel
theorem d_Mover_drift_56 : decode b_Mover_drift 56 = .ok (.getfield 28, 3) := by decide +kernel
theorem d_Mover_drift_59 : decode b_Mover_drift 59 = .ok (.getfield 103, 3) := by decide +kernel
theorem d_Mover_drift_62 : decode b_Mover_drift 62 = .ok (.iload_n 3, 1) := by decide +kernel
theorem d_Mover_drift_63 : decode b_Mover_drift 63 = .ok (.aload_n 0, 1) := by decide +kernel
theorem d_Mover_drift_64 : decode b_Mover_drift 64 = .ok (.getfield 28, 3) := by decide +kernel
theorem d_Mover_drift_67 : decode b_Mover_drift 67 = .ok (.getfield 103, 3) := by decide +kernel
theorem d_Mover_drift_70 : decode b_Mover_drift 70 = .ok (.iload_n 3, 1) := by decide +kernel
theorem d_Mover_drift_71 : decode b_Mover_drift 71 = .ok (.daload, 1) := by decide +kernel
theorem d_Mover_drift_72 : decode b_Mover_drift 72 = .ok (.dload_n 1, 1) := by decide +kernel
theorem d_Mover_drift_73 : decode b_Mover_drift 73 = .ok (.aload_n 0, 1) := by decide +kernel
theorem d_Mover_drift_74 : decode b_Mover_drift 74 = .ok (.getfield 28, 3) := by decide +kernel
theorem d_Mover_drift_77 : decode b_Mover_drift 77 = .ok (.getfield 109, 3) := by decide +kernel
theorem d_Mover_drift_80 : decode b_Mover_drift 80 = .ok (.iload_n 3, 1) := by decide +kernel
theorem d_Mover_drift_81 : decode b_Mover_drift 81 = .ok (.daload, 1) := by decide +kernel
theorem d_Mover_drift_82 : decode b_Mover_drift 82 = .ok (.dmul, 1) := by decide +kernel
theorem d_Mover_drift_83 : decode b_Mover_drift 83 = .ok (.dadd, 1) := by decide +kernel
theorem d_Mover_drift_84 : decode b_Mover_drift 84 = .ok (.dastore, 1) := by decide +kernel
theorem d_Mover_drift_85 : decode b_Mover_drift 85 = .ok (.iinc 3 1, 3) := by decide +kernel
theorem d_Mover_drift_88 : decode b_Mover_drift 88 = .ok (.goto (-86), 3) := by decide +kernel
theorem d_Mover_drift_91 : decode b_Mover_drift 91 = .ok (.return_, 1) := by decide +kernel
set_option maxHeartbeats 4000000 in
set_option maxRecDepth 100000 in
/-- keepOld -/
theorem c_Mover_keepOld (l : Launch) (dC : Nat → ClassId) (dI : Nat → Nat → Nat) (cI cD cZ : ClassId) (sz : Nat) (hmv : Nat) (hr0 : Nat) (hp : Nat) (hn0 : Nat) (hox : Nat) (hoy : Nat) (hou : Nat) (hov : Nat) (rd : Int32) (hq : Nat) (ha : Nat) (hax : Nat) (hay : Nat) (hau : Nat) (hav : Nat) (ham : Nat) (has : Nat) (hak : Nat) (x : Nat → UInt64) (y : Nat → UInt64) (u : Nat → UInt64) (v : Nat → UInt64) (mass : Nat → UInt64) (sort : Nat → Int32) (stuck : Nat → Int32) (n : Nat) (ox : Nat → UInt64) (oy : Nat → UInt64) (ou : Nat → UInt64) (ov : Nat → UInt64) (hn : n ≤ 10) : Met l y_Mover_keepOld w_Mover_keepOld ({ frames := 1, cells := 0, slots := 0, locals := 24 }) (va_Pc [.ref hmv] (gx_B (dC, dI) classes (gx_T cI cD cZ) [(hmv, .inr (2, [.ref hq, .ref ha, .ref hr0, .ref hp, .ref hn0, .ref hox, .ref hoy, .ref hou, .ref hov, .int rd])), (ha, .inr (0, [.ref hax, .ref hay, .ref hau, .ref hav, .ref ham, .ref has, .ref hak, .int (nI n)])), (hax, .inl (cD, 10, .inr (.inr (.inr (.inl x))))), (hay, .inl (cD, 10, .inr (.inr (.inr (.inl y))))), (hau, .inl (cD, 10, .inr (.inr (.inr (.inl u))))), (hav, .inl (cD, 10, .inr (.inr (.inr (.inl v))))), (ham, .inl (cD, 10, .inr (.inr (.inr (.inl mass))))), (has, .inl (cI, 10, .inl sort)), (hak, .inl (cZ, 10, .inl stuck)), (hox, .inl (cD, 10, .inr (.inr (.inr (.inl ox))))), (hoy, .inl (cD, 10, .inr (.inr (.inr (.inl oy))))), (hou, .inl (cD, 10, .inr (.inr (.inr (.inl ou))))), (hov, .inl (cD, 10, .inr (.inr (.inr (.inl ov)))))] sz)) (va_Qv (fun (uu : Unit) => True) (fun (uu : Unit) t => gx_E (dC, dI) classes (gx_T cI cD cZ) (va_A [(hmv, .inr (2, [.ref hq, .ref ha, .ref hr0, .ref hp, .ref hn0, .ref hox, .ref hoy, .ref hou, .ref hov, .int rd])), (ha, .inr (0, [.ref hax, .ref hay, .ref hau, .ref hav, .ref ham, .ref has, .ref hak, .int (nI n)])), (hax, .inl (cD, 10, .inr (.inr (.inr (.inl x))))), (hay, .inl (cD, 10, .inr (.inr (.inr (.inl y))))), (hau, .inl (cD, 10, .inr (.inr (.inr (.inl u))))), (hav, .inl (cD, 10, .inr (.inr (.inr (.inl v))))), (ham, .inl (cD, 10, .inr (.inr (.inr (.inl mass))))), (has, .inl (cI, 10, .inl sort)), (hak, .inl (cZ, 10, .inl stuck)), (hox, .inl (cD, 10, .inr (.inr (.inr (.inl ox))))), (hoy, .inl (cD, 10, .inr (.inr (.inr (.inl oy))))), (hou, .inl (cD, 10, .inr (.inr (.inr (.inl ou))))), (hov, .inl (cD, 10, .inr (.inr (.inr (.inl ov)))))] sz) [(hmv, .inr (2, [.ref hq, .ref ha, .ref hr0, .ref hp, .ref hn0, .ref hox, .ref hoy, .ref hou, .ref hov, .int rd])), (ha, .inr (0, [.ref hax, .ref hay, .ref hau, .ref hav, .ref ham, .ref has, .ref hak, .int (nI n)])), (hax, .inl (cD, 10, .inr (.inr (.inr (.inl x))))), (hay, .inl (cD, 10, .inr (.inr (.inr (.inl y))))), (hau, .inl (cD, 10, .inr (.inr (.inr (.inl u))))), (hav, .inl (cD, 10, .inr (.inr (.inr (.inl v))))), (ham, .inl (cD, 10, .inr (.inr (.inr (.inl mass))))), (has, .inl (cI, 10, .inl sort)), (hak, .inl (cZ, 10, .inl stuck)), (hox, .inl (cD, 10, .inr (.inr (.inr (.inl (pb_fill x ox n)))))), (hoy, .inl (cD, 10, .inr (.inr (.inr (.inl (pb_fill y oy n)))))), (hou, .inl (cD, 10, .inr (.inr (.inr (.inl (pb_fill u ou n)))))), (hov, .inl (cD, 10, .inr (.inr (.inr (.inl (pb_fill v ov n))))))] t) (va_A [(hmv, .inr (2, [.ref hq, .ref ha, .ref hr0, .ref hp, .ref hn0, .ref hox, .ref hoy, .ref hou, .ref hov, .int rd])), (ha, .inr (0, [.ref hax, .ref hay, .ref hau, .ref hav, .ref ham, .ref has, .ref hak, .int (nI n)])), (hax, .inl (cD, 10, .inr (.inr (.inr (.inl x))))), (hay, .inl (cD, 10, .inr (.inr (.inr (.inl y))))), (hau, .inl (cD, 10, .inr (.inr (.inr (.inl u))))), (hav, .inl (cD, 10, .inr (.inr (.inr (.inl v))))), (ham, .inl (cD, 10, .inr (.inr (.inr (.inl mass))))), (has, .inl (cI, 10, .inl sort)), (hak, .inl (cZ, 10, .inl stuck)), (hox, .inl (cD, 10, .inr (.inr (.inr (.inl ox))))), (hoy, .inl (cD, 10, .inr (.inr (.inr (.inl oy))))), (hou, .inl (cD, 10, .inr (.inr (.inr (.inl ou))))), (hov, .inl (cD, 10, .inr (.inr (.inr (.inl ov)))))] sz)) 0 0 (va_A [(hmv, .inr (2, [.ref hq, .ref ha, .ref hr0, .ref hp, .ref hn0, .ref hox, .ref hoy, .ref hou, .ref hov, .int rd])), (ha, .inr (0, [.ref hax, .ref hay, .ref hau, .ref hav, .ref ham, .ref has, .ref hak, .int (nI n)])), (hax, .inl (cD, 10, .inr (.inr (.inr (.inl x))))), (hay, .inl (cD, 10, .inr (.inr (.inr (.inl y))))), (hau, .inl (cD, 10, .inr (.inr (.inr (.inl u))))), (hav, .inl (cD, 10, .inr (.inr (.inr (.inl v))))), (ham, .inl (cD, 10, .inr (.inr (.inr (.inl mass))))), (has, .inl (cI, 10, .inl sort)), (hak, .inl (cZ, 10, .inl stuck)), (hox, .inl (cD, 10, .inr (.inr (.inr (.inl ox))))), (hoy, .inl (cD, 10, .inr (.inr (.inr (.inl oy))))), (hou, .inl (cD, 10, .inr (.inr (.inr (.inl ou))))), (hov, .inl (cD, 10, .inr (.inr (.inr (.inl ov)))))] sz) := by
  refine Met.ofW (cc := b_Mover_keepOld) (maxL := 1) (ret := none) (by decide) rfl ?_
  intro p e s m args below meth c s₁ B hml hv
  obtain ⟨rfl, hsz, hP, hK, hD0, hN⟩ := hv
  have hx := B.exec
  have hb := B.bytes
  have hr := B.returns
  have hts := atoms_spec (ws := w_Mover_keepOld) B.pre
  have hown : s.vm.findClass R_Mover = some m.cls := findClass_of_methodNamed B.named
  have hlocks := B.notSynchronized
  subst hsz
  have hD := hD0.self (sz := s.heap.size)
  generalize hAe : va_A [(hmv, .inr (2, [.ref hq, .ref ha, .ref hr0, .ref hp, .ref hn0, .ref hox, .ref hoy, .ref hou, .ref hov, .int rd])), (ha, .inr (0, [.ref hax, .ref hay, .ref hau, .ref hav, .ref ham, .ref has, .ref hak, .int (nI n)])), (hax, .inl (cD, 10, .inr (.inr (.inr (.inl x))))), (hay, .inl (cD, 10, .inr (.inr (.inr (.inl y))))), (hau, .inl (cD, 10, .inr (.inr (.inr (.inl u))))), (hav, .inl (cD, 10, .inr (.inr (.inr (.inl v))))), (ham, .inl (cD, 10, .inr (.inr (.inr (.inl mass))))), (has, .inl (cI, 10, .inl sort)), (hak, .inl (cZ, 10, .inl stuck)), (hox, .inl (cD, 10, .inr (.inr (.inr (.inl ox))))), (hoy, .inl (cD, 10, .inr (.inr (.inr (.inl oy))))), (hou, .inl (cD, 10, .inr (.inr (.inr (.inl ou))))), (hov, .inl (cD, 10, .inr (.inr (.inr (.inl ov)))))] s.heap.size = A at hD ⊢
  have hA : ∀ q : Nat, s.heap.size ≤ q → A q := fun q h => by rw [← hAe]; exact Or.inr h
  have hS : va_S A s.heap s.heap [] := va_S.rf
  have hl := lv_entry ([.ref hmv]) (n := 1) (Nat.le_of_ble_eq_true rfl)
  rw [lg_entry_eq]
  generalize (lg_sl ([.ref hmv]) ++ List.replicate (1 - (lg_sl ([.ref hmv])).length) Slot.unset).toArray = ls at hl ⊢
  have hl : lv_has ls 1 [(0, .ref hmv)] := hl
  obtain ⟨H, hH⟩ : ∃ H, H = s.heap := ⟨_, rfl⟩
  rw [← hH] at hP
  have hS : va_S A s.heap H [] := by rw [hH]; exact hS
  refine gx_start hH ?_
  refine lv_aload_n hx hb d_Mover_keepOld_0 rfl (lv_at hl 0 rfl) ?_
  refine va_get (D := (dC, dI)) (ci := 2) (v := .ref ha) (C := R_Mover) (T := F_Mover) (N := 10) hx hb hts (fun w h => List.mem_cons_of_mem _ (i_Mover w h)) hown hK hP 0 rfl rfl 1 (by decide) (hts _ (List.mem_cons_of_mem _ kw_290)) (fun _ h9 => h9) rfl d_Mover_keepOld_1 ?_
  refine va_get (D := (dC, dI)) (ci := 0) (v := .ref hax) (C := R_Atoms) (T := F_Atoms) (N := 8) hx hb hts (fun w h => List.mem_cons_of_mem _ (i_Atoms w h)) hown hK hP 1 rfl rfl 0 (by decide) (hts _ (List.mem_cons_of_mem _ kw_113)) (fun _ h9 => h9) rfl d_Mover_keepOld_4 ?_
  refine lv_iconst (v := 0) hx hb d_Mover_keepOld_7 (by decide) ?_
  refine lv_aload_n hx hb d_Mover_keepOld_8 rfl (lv_at hl 0 rfl) ?_
  refine va_get (D := (dC, dI)) (ci := 2) (v := .ref hox) (C := R_Mover) (T := F_Mover) (N := 10) hx hb hts (fun w h => List.mem_cons_of_mem _ (i_Mover w h)) hown hK hP 0 rfl rfl 5 (by decide) (hts _ (List.mem_cons_of_mem _ kw_294)) (fun _ h9 => h9) rfl d_Mover_keepOld_9 ?_
  refine lv_iconst (v := 0) hx hb d_Mover_keepOld_12 (by decide) ?_
  refine lv_aload_n hx hb d_Mover_keepOld_13 rfl (lv_at hl 0 rfl) ?_
  refine va_get (D := (dC, dI)) (ci := 2) (v := .ref ha) (C := R_Mover) (T := F_Mover) (N := 10) hx hb hts (fun w h => List.mem_cons_of_mem _ (i_Mover w h)) hown hK hP 0 rfl rfl 1 (by decide) (hts _ (List.mem_cons_of_mem _ kw_290)) (fun _ h9 => h9) rfl d_Mover_keepOld_14 ?_
  refine va_get (D := (dC, dI)) (ci := 0) (v := .int (nI n)) (C := R_Atoms) (T := F_Atoms) (N := 8) hx hb hts (fun w h => List.mem_cons_of_mem _ (i_Atoms w h)) hown hK hP 1 rfl rfl 7 (by decide) (hts _ (List.mem_cons_of_mem _ kw_141)) (fun _ h9 => h9) rfl d_Mover_keepOld_17 ?_
  refine gx_copy (k := n) (rest := []) hx hb (hml.trans hl.1.symm) hown (hts _ (List.mem_cons_of_mem _ kw_638)) (hts _ (List.mem_cons_of_mem _ kw_640)) (hts _ (List.mem_cons_of_mem _ kw_639)) (hts _ (List.mem_cons_of_mem _ kw_60)) hK hP hD hS 2 9 1 rfl rfl rfl (by omega) (by omega) (by omega) (Nat.le_of_ble_eq_true rfl) (Nat.le_of_ble_eq_true rfl) d_Mover_keepOld_20 (fun H locs hP hD hS => ?_)
  have hP : va_P (dC, dI) classes [(hmv, .inr (2, [.ref hq, .ref ha, .ref hr0, .ref hp, .ref hn0, .ref hox, .ref hoy, .ref hou, .ref hov, .int rd])), (ha, .inr (0, [.ref hax, .ref hay, .ref hau, .ref hav, .ref ham, .ref has, .ref hak, .int (nI n)])), (hax, .inl (cD, 10, .inr (.inr (.inr (.inl x))))), (hay, .inl (cD, 10, .inr (.inr (.inr (.inl y))))), (hau, .inl (cD, 10, .inr (.inr (.inr (.inl u))))), (hav, .inl (cD, 10, .inr (.inr (.inr (.inl v))))), (ham, .inl (cD, 10, .inr (.inr (.inr (.inl mass))))), (has, .inl (cI, 10, .inl sort)), (hak, .inl (cZ, 10, .inl stuck)), (hox, .inl (cD, 10, .inr (.inr (.inr (.inl (pb_fill x ox n)))))), (hoy, .inl (cD, 10, .inr (.inr (.inr (.inl oy))))), (hou, .inl (cD, 10, .inr (.inr (.inr (.inl ou))))), (hov, .inl (cD, 10, .inr (.inr (.inr (.inl ov)))))] H := hP
  have hD : va_D A [(hmv, .inr (2, [.ref hq, .ref ha, .ref hr0, .ref hp, .ref hn0, .ref hox, .ref hoy, .ref hou, .ref hov, .int rd])), (ha, .inr (0, [.ref hax, .ref hay, .ref hau, .ref hav, .ref ham, .ref has, .ref hak, .int (nI n)])), (hax, .inl (cD, 10, .inr (.inr (.inr (.inl x))))), (hay, .inl (cD, 10, .inr (.inr (.inr (.inl y))))), (hau, .inl (cD, 10, .inr (.inr (.inr (.inl u))))), (hav, .inl (cD, 10, .inr (.inr (.inr (.inl v))))), (ham, .inl (cD, 10, .inr (.inr (.inr (.inl mass))))), (has, .inl (cI, 10, .inl sort)), (hak, .inl (cZ, 10, .inl stuck)), (hox, .inl (cD, 10, .inr (.inr (.inr (.inl (pb_fill x ox n)))))), (hoy, .inl (cD, 10, .inr (.inr (.inr (.inl oy))))), (hou, .inl (cD, 10, .inr (.inr (.inr (.inl ou))))), (hov, .inl (cD, 10, .inr (.inr (.inr (.inl ov)))))] := hD
  refine lv_aload_n hx hb d_Mover_keepOld_23 rfl (lv_at hl 0 rfl) ?_
  refine va_get (D := (dC, dI)) (ci := 2) (v := .ref ha) (C := R_Mover) (T := F_Mover) (N := 10) hx hb hts (fun w h => List.mem_cons_of_mem _ (i_Mover w h)) hown hK hP 0 rfl rfl 1 (by decide) (hts _ (List.mem_cons_of_mem _ kw_290)) (fun _ h9 => h9) rfl d_Mover_keepOld_24 ?_
  refine va_get (D := (dC, dI)) (ci := 0) (v := .ref hay) (C := R_Atoms) (T := F_Atoms) (N := 8) hx hb hts (fun w h => List.mem_cons_of_mem _ (i_Atoms w h)) hown hK hP 1 rfl rfl 1 (by decide) (hts _ (List.mem_cons_of_mem _ kw_118)) (fun _ h9 => h9) rfl d_Mover_keepOld_27 ?_
  refine lv_iconst (v := 0) hx hb d_Mover_keepOld_30 (by decide) ?_
  refine lv_aload_n hx hb d_Mover_keepOld_31 rfl (lv_at hl 0 rfl) ?_
  refine va_get (D := (dC, dI)) (ci := 2) (v := .ref hoy) (C := R_Mover) (T := F_Mover) (N := 10) hx hb hts (fun w h => List.mem_cons_of_mem _ (i_Mover w h)) hown hK hP 0 rfl rfl 6 (by decide) (hts _ (List.mem_cons_of_mem _ kw_295)) (fun _ h9 => h9) rfl d_Mover_keepOld_32 ?_
  refine lv_iconst (v := 0) hx hb d_Mover_keepOld_35 (by decide) ?_
  refine lv_aload_n hx hb d_Mover_keepOld_36 rfl (lv_at hl 0 rfl) ?_
  refine va_get (D := (dC, dI)) (ci := 2) (v := .ref ha) (C := R_Mover) (T := F_Mover) (N := 10) hx hb hts (fun w h => List.mem_cons_of_mem _ (i_Mover w h)) hown hK hP 0 rfl rfl 1 (by decide) (hts _ (List.mem_cons_of_mem _ kw_290)) (fun _ h9 => h9) rfl d_Mover_keepOld_37 ?_
  refine va_get (D := (dC, dI)) (ci := 0) (v := .int (nI n)) (C := R_Atoms) (T := F_Atoms) (N := 8) hx hb hts (fun w h => List.mem_cons_of_mem _ (i_Atoms w h)) hown hK hP 1 rfl rfl 7 (by decide) (hts _ (List.mem_cons_of_mem _ kw_141)) (fun _ h9 => h9) rfl d_Mover_keepOld_40 ?_
  refine gx_copy (k := n) (rest := []) hx hb (hml.trans hl.1.symm) hown (hts _ (List.mem_cons_of_mem _ kw_638)) (hts _ (List.mem_cons_of_mem _ kw_640)) (hts _ (List.mem_cons_of_mem _ kw_639)) (hts _ (List.mem_cons_of_mem _ kw_60)) hK hP hD hS 3 10 1 rfl rfl rfl (by omega) (by omega) (by omega) (Nat.le_of_ble_eq_true rfl) (Nat.le_of_ble_eq_true rfl) d_Mover_keepOld_43 (fun H locs hP hD hS => ?_)
  have hP : va_P (dC, dI) classes [(hmv, .inr (2, [.ref hq, .ref ha, .ref hr0, .ref hp, .ref hn0, .ref hox, .ref hoy, .ref hou, .ref hov, .int rd])), (ha, .inr (0, [.ref hax, .ref hay, .ref hau, .ref hav, .ref ham, .ref has, .ref hak, .int (nI n)])), (hax, .inl (cD, 10, .inr (.inr (.inr (.inl x))))), (hay, .inl (cD, 10, .inr (.inr (.inr (.inl y))))), (hau, .inl (cD, 10, .inr (.inr (.inr (.inl u))))), (hav, .inl (cD, 10, .inr (.inr (.inr (.inl v))))), (ham, .inl (cD, 10, .inr (.inr (.inr (.inl mass))))), (has, .inl (cI, 10, .inl sort)), (hak, .inl (cZ, 10, .inl stuck)), (hox, .inl (cD, 10, .inr (.inr (.inr (.inl (pb_fill x ox n)))))), (hoy, .inl (cD, 10, .inr (.inr (.inr (.inl (pb_fill y oy n)))))), (hou, .inl (cD, 10, .inr (.inr (.inr (.inl ou))))), (hov, .inl (cD, 10, .inr (.inr (.inr (.inl ov)))))] H := hP
  have hD : va_D A [(hmv, .inr (2, [.ref hq, .ref ha, .ref hr0, .ref hp, .ref hn0, .ref hox, .ref hoy, .ref hou, .ref hov, .int rd])), (ha, .inr (0, [.ref hax, .ref hay, .ref hau, .ref hav, .ref ham, .ref has, .ref hak, .int (nI n)])), (hax, .inl (cD, 10, .inr (.inr (.inr (.inl x))))), (hay, .inl (cD, 10, .inr (.inr (.inr (.inl y))))), (hau, .inl (cD, 10, .inr (.inr (.inr (.inl u))))), (hav, .inl (cD, 10, .inr (.inr (.inr (.inl v))))), (ham, .inl (cD, 10, .inr (.inr (.inr (.inl mass))))), (has, .inl (cI, 10, .inl sort)), (hak, .inl (cZ, 10, .inl stuck)), (hox, .inl (cD, 10, .inr (.inr (.inr (.inl (pb_fill x ox n)))))), (hoy, .inl (cD, 10, .inr (.inr (.inr (.inl (pb_fill y oy n)))))), (hou, .inl (cD, 10, .inr (.inr (.inr (.inl ou))))), (hov, .inl (cD, 10, .inr (.inr (.inr (.inl ov)))))] := hD
  refine lv_aload_n hx hb d_Mover_keepOld_46 rfl (lv_at hl 0 rfl) ?_
  refine va_get (D := (dC, dI)) (ci := 2) (v := .ref ha) (C := R_Mover) (T := F_Mover) (N := 10) hx hb hts (fun w h => List.mem_cons_of_mem _ (i_Mover w h)) hown hK hP 0 rfl rfl 1 (by decide) (hts _ (List.mem_cons_of_mem _ kw_290)) (fun _ h9 => h9) rfl d_Mover_keepOld_47 ?_
  refine va_get (D := (dC, dI)) (ci := 0) (v := .ref hau) (C := R_Atoms) (T := F_Atoms) (N := 8) hx hb hts (fun w h => List.mem_cons_of_mem _ (i_Atoms w h)) hown hK hP 1 rfl rfl 2 (by decide) (hts _ (List.mem_cons_of_mem _ kw_123)) (fun _ h9 => h9) rfl d_Mover_keepOld_50 ?_
  refine lv_iconst (v := 0) hx hb d_Mover_keepOld_53 (by decide) ?_
  refine lv_aload_n hx hb d_Mover_keepOld_54 rfl (lv_at hl 0 rfl) ?_
  refine va_get (D := (dC, dI)) (ci := 2) (v := .ref hou) (C := R_Mover) (T := F_Mover) (N := 10) hx hb hts (fun w h => List.mem_cons_of_mem _ (i_Mover w h)) hown hK hP 0 rfl rfl 7 (by decide) (hts _ (List.mem_cons_of_mem _ kw_296)) (fun _ h9 => h9) rfl d_Mover_keepOld_55 ?_
  refine lv_iconst (v := 0) hx hb d_Mover_keepOld_58 (by decide) ?_
  refine lv_aload_n hx hb d_Mover_keepOld_59 rfl (lv_at hl 0 rfl) ?_
  refine va_get (D := (dC, dI)) (ci := 2) (v := .ref ha) (C := R_Mover) (T := F_Mover) (N := 10) hx hb hts (fun w h => List.mem_cons_of_mem _ (i_Mover w h)) hown hK hP 0 rfl rfl 1 (by decide) (hts _ (List.mem_cons_of_mem _ kw_290)) (fun _ h9 => h9) rfl d_Mover_keepOld_60 ?_
  refine va_get (D := (dC, dI)) (ci := 0) (v := .int (nI n)) (C := R_Atoms) (T := F_Atoms) (N := 8) hx hb hts (fun w h => List.mem_cons_of_mem _ (i_Atoms w h)) hown hK hP 1 rfl rfl 7 (by decide) (hts _ (List.mem_cons_of_mem _ kw_141)) (fun _ h9 => h9) rfl d_Mover_keepOld_63 ?_
  refine gx_copy (k := n) (rest := []) hx hb (hml.trans hl.1.symm) hown (hts _ (List.mem_cons_of_mem _ kw_638)) (hts _ (List.mem_cons_of_mem _ kw_640)) (hts _ (List.mem_cons_of_mem _ kw_639)) (hts _ (List.mem_cons_of_mem _ kw_60)) hK hP hD hS 4 11 1 rfl rfl rfl (by omega) (by omega) (by omega) (Nat.le_of_ble_eq_true rfl) (Nat.le_of_ble_eq_true rfl) d_Mover_keepOld_66 (fun H locs hP hD hS => ?_)
  have hP : va_P (dC, dI) classes [(hmv, .inr (2, [.ref hq, .ref ha, .ref hr0, .ref hp, .ref hn0, .ref hox, .ref hoy, .ref hou, .ref hov, .int rd])), (ha, .inr (0, [.ref hax, .ref hay, .ref hau, .ref hav, .ref ham, .ref has, .ref hak, .int (nI n)])), (hax, .inl (cD, 10, .inr (.inr (.inr (.inl x))))), (hay, .inl (cD, 10, .inr (.inr (.inr (.inl y))))), (hau, .inl (cD, 10, .inr (.inr (.inr (.inl u))))), (hav, .inl (cD, 10, .inr (.inr (.inr (.inl v))))), (ham, .inl (cD, 10, .inr (.inr (.inr (.inl mass))))), (has, .inl (cI, 10, .inl sort)), (hak, .inl (cZ, 10, .inl stuck)), (hox, .inl (cD, 10, .inr (.inr (.inr (.inl (pb_fill x ox n)))))), (hoy, .inl (cD, 10, .inr (.inr (.inr (.inl (pb_fill y oy n)))))), (hou, .inl (cD, 10, .inr (.inr (.inr (.inl (pb_fill u ou n)))))), (hov, .inl (cD, 10, .inr (.inr (.inr (.inl ov)))))] H := hP
  have hD : va_D A [(hmv, .inr (2, [.ref hq, .ref ha, .ref hr0, .ref hp, .ref hn0, .ref hox, .ref hoy, .ref hou, .ref hov, .int rd])), (ha, .inr (0, [.ref hax, .ref hay, .ref hau, .ref hav, .ref ham, .ref has, .ref hak, .int (nI n)])), (hax, .inl (cD, 10, .inr (.inr (.inr (.inl x))))), (hay, .inl (cD, 10, .inr (.inr (.inr (.inl y))))), (hau, .inl (cD, 10, .inr (.inr (.inr (.inl u))))), (hav, .inl (cD, 10, .inr (.inr (.inr (.inl v))))), (ham, .inl (cD, 10, .inr (.inr (.inr (.inl mass))))), (has, .inl (cI, 10, .inl sort)), (hak, .inl (cZ, 10, .inl stuck)), (hox, .inl (cD, 10, .inr (.inr (.inr (.inl (pb_fill x ox n)))))), (hoy, .inl (cD, 10, .inr (.inr (.inr (.inl (pb_fill y oy n)))))), (hou, .inl (cD, 10, .inr (.inr (.inr (.inl (pb_fill u ou n)))))), (hov, .inl (cD, 10, .inr (.inr (.inr (.inl ov)))))] := hD
  refine lv_aload_n hx hb d_Mover_keepOld_69 rfl (lv_at hl 0 rfl) ?_
  refine va_get (D := (dC, dI)) (ci := 2) (v := .ref ha) (C := R_Mover) (T := F_Mover) (N := 10) hx hb hts (fun w h => List.mem_cons_of_mem _ (i_Mover w h)) hown hK hP 0 rfl rfl 1 (by decide) (hts _ (List.mem_cons_of_mem _ kw_290)) (fun _ h9 => h9) rfl d_Mover_keepOld_70 ?_
  refine va_get (D := (dC, dI)) (ci := 0) (v := .ref hav) (C := R_Atoms) (T := F_Atoms) (N := 8) hx hb hts (fun w h => List.mem_cons_of_mem _ (i_Atoms w h)) hown hK hP 1 rfl rfl 3 (by decide) (hts _ (List.mem_cons_of_mem _ kw_126)) (fun _ h9 => h9) rfl d_Mover_keepOld_73 ?_
  refine lv_iconst (v := 0) hx hb d_Mover_keepOld_76 (by decide) ?_
  refine lv_aload_n hx hb d_Mover_keepOld_77 rfl (lv_at hl 0 rfl) ?_
  refine va_get (D := (dC, dI)) (ci := 2) (v := .ref hov) (C := R_Mover) (T := F_Mover) (N := 10) hx hb hts (fun w h => List.mem_cons_of_mem _ (i_Mover w h)) hown hK hP 0 rfl rfl 8 (by decide) (hts _ (List.mem_cons_of_mem _ kw_297)) (fun _ h9 => h9) rfl d_Mover_keepOld_78 ?_
  refine lv_iconst (v := 0) hx hb d_Mover_keepOld_81 (by decide) ?_
  refine lv_aload_n hx hb d_Mover_keepOld_82 rfl (lv_at hl 0 rfl) ?_
  refine va_get (D := (dC, dI)) (ci := 2) (v := .ref ha) (C := R_Mover) (T := F_Mover) (N := 10) hx hb hts (fun w h => List.mem_cons_of_mem _ (i_Mover w h)) hown hK hP 0 rfl rfl 1 (by decide) (hts _ (List.mem_cons_of_mem _ kw_290)) (fun _ h9 => h9) rfl d_Mover_keepOld_83 ?_
  refine va_get (D := (dC, dI)) (ci := 0) (v := .int (nI n)) (C := R_Atoms) (T := F_Atoms) (N := 8) hx hb hts (fun w h => List.mem_cons_of_mem _ (i_Atoms w h)) hown hK hP 1 rfl rfl 7 (by decide) (hts _ (List.mem_cons_of_mem _ kw_141)) (fun _ h9 => h9) rfl d_Mover_keepOld_86 ?_
  refine gx_copy (k := n) (rest := []) hx hb (hml.trans hl.1.symm) hown (hts _ (List.mem_cons_of_mem _ kw_638)) (hts _ (List.mem_cons_of_mem _ kw_640)) (hts _ (List.mem_cons_of_mem _ kw_639)) (hts _ (List.mem_cons_of_mem _ kw_60)) hK hP hD hS 5 12 1 rfl rfl rfl (by omega) (by omega) (by omega) (Nat.le_of_ble_eq_true rfl) (Nat.le_of_ble_eq_true rfl) d_Mover_keepOld_89 (fun H locs hP hD hS => ?_)
  have hP : va_P (dC, dI) classes [(hmv, .inr (2, [.ref hq, .ref ha, .ref hr0, .ref hp, .ref hn0, .ref hox, .ref hoy, .ref hou, .ref hov, .int rd])), (ha, .inr (0, [.ref hax, .ref hay, .ref hau, .ref hav, .ref ham, .ref has, .ref hak, .int (nI n)])), (hax, .inl (cD, 10, .inr (.inr (.inr (.inl x))))), (hay, .inl (cD, 10, .inr (.inr (.inr (.inl y))))), (hau, .inl (cD, 10, .inr (.inr (.inr (.inl u))))), (hav, .inl (cD, 10, .inr (.inr (.inr (.inl v))))), (ham, .inl (cD, 10, .inr (.inr (.inr (.inl mass))))), (has, .inl (cI, 10, .inl sort)), (hak, .inl (cZ, 10, .inl stuck)), (hox, .inl (cD, 10, .inr (.inr (.inr (.inl (pb_fill x ox n)))))), (hoy, .inl (cD, 10, .inr (.inr (.inr (.inl (pb_fill y oy n)))))), (hou, .inl (cD, 10, .inr (.inr (.inr (.inl (pb_fill u ou n)))))), (hov, .inl (cD, 10, .inr (.inr (.inr (.inl (pb_fill v ov n))))))] H := hP
  have hD : va_D A [(hmv, .inr (2, [.ref hq, .ref ha, .ref hr0, .ref hp, .ref hn0, .ref hox, .ref hoy, .ref hou, .ref hov, .int rd])), (ha, .inr (0, [.ref hax, .ref hay, .ref hau, .ref hav, .ref ham, .ref has, .ref hak, .int (nI n)])), (hax, .inl (cD, 10, .inr (.inr (.inr (.inl x))))), (hay, .inl (cD, 10, .inr (.inr (.inr (.inl y))))), (hau, .inl (cD, 10, .inr (.inr (.inr (.inl u))))), (hav, .inl (cD, 10, .inr (.inr (.inr (.inl v))))), (ham, .inl (cD, 10, .inr (.inr (.inr (.inl mass))))), (has, .inl (cI, 10, .inl sort)), (hak, .inl (cZ, 10, .inl stuck)), (hox, .inl (cD, 10, .inr (.inr (.inr (.inl (pb_fill x ox n)))))), (hoy, .inl (cD, 10, .inr (.inr (.inr (.inl (pb_fill y oy n)))))), (hou, .inl (cD, 10, .inr (.inr (.inr (.inl (pb_fill u ou n)))))), (hov, .inl (cD, 10, .inr (.inr (.inr (.inl (pb_fill v ov n))))))] := hD
  have hP9 := hP.sub (ws' := [(hmv, .inr (2, [.ref hq, .ref ha, .ref hr0, .ref hp, .ref hn0, .ref hox, .ref hoy, .ref hou, .ref hov, .int rd])), (ha, .inr (0, [.ref hax, .ref hay, .ref hau, .ref hav, .ref ham, .ref has, .ref hak, .int (nI n)])), (hax, .inl (cD, 10, .inr (.inr (.inr (.inl x))))), (hay, .inl (cD, 10, .inr (.inr (.inr (.inl y))))), (hau, .inl (cD, 10, .inr (.inr (.inr (.inl u))))), (hav, .inl (cD, 10, .inr (.inr (.inr (.inl v))))), (ham, .inl (cD, 10, .inr (.inr (.inr (.inl mass))))), (has, .inl (cI, 10, .inl sort)), (hak, .inl (cZ, 10, .inl stuck)), (hox, .inl (cD, 10, .inr (.inr (.inr (.inl (pb_fill x ox n)))))), (hoy, .inl (cD, 10, .inr (.inr (.inr (.inl (pb_fill y oy n)))))), (hou, .inl (cD, 10, .inr (.inr (.inr (.inl (pb_fill u ou n)))))), (hov, .inl (cD, 10, .inr (.inr (.inr (.inl (pb_fill v ov n))))))]) [0, 1, 2, 3, 4, 5, 6, 7, 8, 9, 10, 11, 12] rfl
  have hD9 := hD.sub (ws' := [(hmv, .inr (2, [.ref hq, .ref ha, .ref hr0, .ref hp, .ref hn0, .ref hox, .ref hoy, .ref hou, .ref hov, .int rd])), (ha, .inr (0, [.ref hax, .ref hay, .ref hau, .ref hav, .ref ham, .ref has, .ref hak, .int (nI n)])), (hax, .inl (cD, 10, .inr (.inr (.inr (.inl x))))), (hay, .inl (cD, 10, .inr (.inr (.inr (.inl y))))), (hau, .inl (cD, 10, .inr (.inr (.inr (.inl u))))), (hav, .inl (cD, 10, .inr (.inr (.inr (.inl v))))), (ham, .inl (cD, 10, .inr (.inr (.inr (.inl mass))))), (has, .inl (cI, 10, .inl sort)), (hak, .inl (cZ, 10, .inl stuck)), (hox, .inl (cD, 10, .inr (.inr (.inr (.inl (pb_fill x ox n)))))), (hoy, .inl (cD, 10, .inr (.inr (.inr (.inl (pb_fill y oy n)))))), (hou, .inl (cD, 10, .inr (.inr (.inr (.inl (pb_fill u ou n)))))), (hov, .inl (cD, 10, .inr (.inr (.inr (.inl (pb_fill v ov n))))))]) [0, 1, 2, 3, 4, 5, 6, 7, 8, 9, 10, 11, 12] (by decide) rfl
  exact W.vret hx hb hr (fun t ht hW => ⟨⟨(), rfl, trivial, by rw [ht]; exact hP9, va_K.moved hW.alike hK, hD9⟩, hS.F ht⟩) hS.2.2 d_Mover_keepOld_92
set_option maxHeartbeats 4000000 in
set_option maxRecDepth 100000 in
/-- goBack -/
theorem c_Mover_goBack (l : Launch) (dC : Nat → ClassId) (dI : Nat → Nat → Nat) (cI cD cZ : ClassId) (sz : Nat) (hmv : Nat) (hr0 : Nat) (hp : Nat) (hn0 : Nat) (hox : Nat) (hoy : Nat) (hou : Nat) (hov : Nat) (rd : Int32) (hq : Nat) (ha : Nat) (hax : Nat) (hay : Nat) (hau : Nat) (hav : Nat) (ham : Nat) (has : Nat) (hak : Nat) (x : Nat → UInt64) (y : Nat → UInt64) (u : Nat → UInt64) (v : Nat → UInt64) (mass : Nat → UInt64) (sort : Nat → Int32) (stuck : Nat → Int32) (n : Nat) (ox : Nat → UInt64) (oy : Nat → UInt64) (ou : Nat → UInt64) (ov : Nat → UInt64) (hmx : Nat) (hmy : Nat) (isT : Int32) (skin : UInt64) (tm : Int32) (hn : n ≤ 10) : Met l y_Mover_goBack w_Mover_goBack ({ frames := 1, cells := 0, slots := 0, locals := 24 }) (va_Pc [.ref hmv] (gx_B (dC, dI) classes (gx_T cI cD cZ) [(hmv, .inr (2, [.ref hq, .ref ha, .ref hr0, .ref hp, .ref hn0, .ref hox, .ref hoy, .ref hou, .ref hov, .int rd])), (ha, .inr (0, [.ref hax, .ref hay, .ref hau, .ref hav, .ref ham, .ref has, .ref hak, .int (nI n)])), (hax, .inl (cD, 10, .inr (.inr (.inr (.inl x))))), (hay, .inl (cD, 10, .inr (.inr (.inr (.inl y))))), (hau, .inl (cD, 10, .inr (.inr (.inr (.inl u))))), (hav, .inl (cD, 10, .inr (.inr (.inr (.inl v))))), (ham, .inl (cD, 10, .inr (.inr (.inr (.inl mass))))), (has, .inl (cI, 10, .inl sort)), (hak, .inl (cZ, 10, .inl stuck)), (hox, .inl (cD, 10, .inr (.inr (.inr (.inl ox))))), (hoy, .inl (cD, 10, .inr (.inr (.inr (.inl oy))))), (hou, .inl (cD, 10, .inr (.inr (.inr (.inl ou))))), (hov, .inl (cD, 10, .inr (.inr (.inr (.inl ov))))), (hn0, .inr (3, [.ref hq, .ref ha, .ref hmx, .ref hmy, .int isT, .double skin, .int tm]))] sz)) (va_Qv (fun (uu : Unit) => True) (fun (uu : Unit) t => gx_E (dC, dI) classes (gx_T cI cD cZ) (va_A [(hmv, .inr (2, [.ref hq, .ref ha, .ref hr0, .ref hp, .ref hn0, .ref hox, .ref hoy, .ref hou, .ref hov, .int rd])), (ha, .inr (0, [.ref hax, .ref hay, .ref hau, .ref hav, .ref ham, .ref has, .ref hak, .int (nI n)])), (hax, .inl (cD, 10, .inr (.inr (.inr (.inl x))))), (hay, .inl (cD, 10, .inr (.inr (.inr (.inl y))))), (hau, .inl (cD, 10, .inr (.inr (.inr (.inl u))))), (hav, .inl (cD, 10, .inr (.inr (.inr (.inl v))))), (ham, .inl (cD, 10, .inr (.inr (.inr (.inl mass))))), (has, .inl (cI, 10, .inl sort)), (hak, .inl (cZ, 10, .inl stuck)), (hox, .inl (cD, 10, .inr (.inr (.inr (.inl ox))))), (hoy, .inl (cD, 10, .inr (.inr (.inr (.inl oy))))), (hou, .inl (cD, 10, .inr (.inr (.inr (.inl ou))))), (hov, .inl (cD, 10, .inr (.inr (.inr (.inl ov))))), (hn0, .inr (3, [.ref hq, .ref ha, .ref hmx, .ref hmy, .int isT, .double skin, .int tm]))] sz) [(hmv, .inr (2, [.ref hq, .ref ha, .ref hr0, .ref hp, .ref hn0, .ref hox, .ref hoy, .ref hou, .ref hov, .int rd])), (ha, .inr (0, [.ref hax, .ref hay, .ref hau, .ref hav, .ref ham, .ref has, .ref hak, .int (nI n)])), (hax, .inl (cD, 10, .inr (.inr (.inr (.inl (pb_fill ox x n)))))), (hay, .inl (cD, 10, .inr (.inr (.inr (.inl (pb_fill oy y n)))))), (hau, .inl (cD, 10, .inr (.inr (.inr (.inl (pb_fill ou u n)))))), (hav, .inl (cD, 10, .inr (.inr (.inr (.inl (pb_fill ov v n)))))), (ham, .inl (cD, 10, .inr (.inr (.inr (.inl mass))))), (has, .inl (cI, 10, .inl sort)), (hak, .inl (cZ, 10, .inl stuck)), (hox, .inl (cD, 10, .inr (.inr (.inr (.inl ox))))), (hoy, .inl (cD, 10, .inr (.inr (.inr (.inl oy))))), (hou, .inl (cD, 10, .inr (.inr (.inr (.inl ou))))), (hov, .inl (cD, 10, .inr (.inr (.inr (.inl ov))))), (hn0, .inr (3, [.ref hq, .ref ha, .ref hmx, .ref hmy, .int 0, .double skin, .int tm]))] t) (va_A [(hmv, .inr (2, [.ref hq, .ref ha, .ref hr0, .ref hp, .ref hn0, .ref hox, .ref hoy, .ref hou, .ref hov, .int rd])), (ha, .inr (0, [.ref hax, .ref hay, .ref hau, .ref hav, .ref ham, .ref has, .ref hak, .int (nI n)])), (hax, .inl (cD, 10, .inr (.inr (.inr (.inl x))))), (hay, .inl (cD, 10, .inr (.inr (.inr (.inl y))))), (hau, .inl (cD, 10, .inr (.inr (.inr (.inl u))))), (hav, .inl (cD, 10, .inr (.inr (.inr (.inl v))))), (ham, .inl (cD, 10, .inr (.inr (.inr (.inl mass))))), (has, .inl (cI, 10, .inl sort)), (hak, .inl (cZ, 10, .inl stuck)), (hox, .inl (cD, 10, .inr (.inr (.inr (.inl ox))))), (hoy, .inl (cD, 10, .inr (.inr (.inr (.inl oy))))), (hou, .inl (cD, 10, .inr (.inr (.inr (.inl ou))))), (hov, .inl (cD, 10, .inr (.inr (.inr (.inl ov))))), (hn0, .inr (3, [.ref hq, .ref ha, .ref hmx, .ref hmy, .int isT, .double skin, .int tm]))] sz)) 0 0 (va_A [(hmv, .inr (2, [.ref hq, .ref ha, .ref hr0, .ref hp, .ref hn0, .ref hox, .ref hoy, .ref hou, .ref hov, .int rd])), (ha, .inr (0, [.ref hax, .ref hay, .ref hau, .ref hav, .ref ham, .ref has, .ref hak, .int (nI n)])), (hax, .inl (cD, 10, .inr (.inr (.inr (.inl x))))), (hay, .inl (cD, 10, .inr (.inr (.inr (.inl y))))), (hau, .inl (cD, 10, .inr (.inr (.inr (.inl u))))), (hav, .inl (cD, 10, .inr (.inr (.inr (.inl v))))), (ham, .inl (cD, 10, .inr (.inr (.inr (.inl mass))))), (has, .inl (cI, 10, .inl sort)), (hak, .inl (cZ, 10, .inl stuck)), (hox, .inl (cD, 10, .inr (.inr (.inr (.inl ox))))), (hoy, .inl (cD, 10, .inr (.inr (.inr (.inl oy))))), (hou, .inl (cD, 10, .inr (.inr (.inr (.inl ou))))), (hov, .inl (cD, 10, .inr (.inr (.inr (.inl ov))))), (hn0, .inr (3, [.ref hq, .ref ha, .ref hmx, .ref hmy, .int isT, .double skin, .int tm]))] sz) := by
  refine Met.ofW (cc := b_Mover_goBack) (maxL := 1) (ret := none) (by decide) rfl ?_
  intro p e s m args below meth c s₁ B hml hv
  obtain ⟨rfl, hsz, hP, hK, hD0, hN⟩ := hv
  have hx := B.exec
  have hb := B.bytes
  have hr := B.returns
  have hts := atoms_spec (ws := w_Mover_goBack) B.pre
  have hown : s.vm.findClass R_Mover = some m.cls := findClass_of_methodNamed B.named
  have hlocks := B.notSynchronized
  subst hsz
  have hD := hD0.self (sz := s.heap.size)
  generalize hAe : va_A [(hmv, .inr (2, [.ref hq, .ref ha, .ref hr0, .ref hp, .ref hn0, .ref hox, .ref hoy, .ref hou, .ref hov, .int rd])), (ha, .inr (0, [.ref hax, .ref hay, .ref hau, .ref hav, .ref ham, .ref has, .ref hak, .int (nI n)])), (hax, .inl (cD, 10, .inr (.inr (.inr (.inl x))))), (hay, .inl (cD, 10, .inr (.inr (.inr (.inl y))))), (hau, .inl (cD, 10, .inr (.inr (.inr (.inl u))))), (hav, .inl (cD, 10, .inr (.inr (.inr (.inl v))))), (ham, .inl (cD, 10, .inr (.inr (.inr (.inl mass))))), (has, .inl (cI, 10, .inl sort)), (hak, .inl (cZ, 10, .inl stuck)), (hox, .inl (cD, 10, .inr (.inr (.inr (.inl ox))))), (hoy, .inl (cD, 10, .inr (.inr (.inr (.inl oy))))), (hou, .inl (cD, 10, .inr (.inr (.inr (.inl ou))))), (hov, .inl (cD, 10, .inr (.inr (.inr (.inl ov))))), (hn0, .inr (3, [.ref hq, .ref ha, .ref hmx, .ref hmy, .int isT, .double skin, .int tm]))] s.heap.size = A at hD ⊢
  have hA : ∀ q : Nat, s.heap.size ≤ q → A q := fun q h => by rw [← hAe]; exact Or.inr h
  have hS : va_S A s.heap s.heap [] := va_S.rf
  have hl := lv_entry ([.ref hmv]) (n := 1) (Nat.le_of_ble_eq_true rfl)
  rw [lg_entry_eq]
  generalize (lg_sl ([.ref hmv]) ++ List.replicate (1 - (lg_sl ([.ref hmv])).length) Slot.unset).toArray = ls at hl ⊢
  have hl : lv_has ls 1 [(0, .ref hmv)] := hl
  obtain ⟨H, hH⟩ : ∃ H, H = s.heap := ⟨_, rfl⟩
  rw [← hH] at hP
  have hS : va_S A s.heap H [] := by rw [hH]; exact hS
  refine gx_start hH ?_
  refine lv_aload_n hx hb d_Mover_goBack_0 rfl (lv_at hl 0 rfl) ?_
  refine va_get (D := (dC, dI)) (ci := 2) (v := .ref hox) (C := R_Mover) (T := F_Mover) (N := 10) hx hb hts (fun w h => List.mem_cons_of_mem _ (i_Mover w h)) hown hK hP 0 rfl rfl 5 (by decide) (hts _ (List.mem_cons_of_mem _ kw_294)) (fun _ h9 => h9) rfl d_Mover_goBack_1 ?_
  refine lv_iconst (v := 0) hx hb d_Mover_goBack_4 (by decide) ?_
  refine lv_aload_n hx hb d_Mover_goBack_5 rfl (lv_at hl 0 rfl) ?_
  refine va_get (D := (dC, dI)) (ci := 2) (v := .ref ha) (C := R_Mover) (T := F_Mover) (N := 10) hx hb hts (fun w h => List.mem_cons_of_mem _ (i_Mover w h)) hown hK hP 0 rfl rfl 1 (by decide) (hts _ (List.mem_cons_of_mem _ kw_290)) (fun _ h9 => h9) rfl d_Mover_goBack_6 ?_
  refine va_get (D := (dC, dI)) (ci := 0) (v := .ref hax) (C := R_Atoms) (T := F_Atoms) (N := 8) hx hb hts (fun w h => List.mem_cons_of_mem _ (i_Atoms w h)) hown hK hP 1 rfl rfl 0 (by decide) (hts _ (List.mem_cons_of_mem _ kw_113)) (fun _ h9 => h9) rfl d_Mover_goBack_9 ?_
  refine lv_iconst (v := 0) hx hb d_Mover_goBack_12 (by decide) ?_
  refine lv_aload_n hx hb d_Mover_goBack_13 rfl (lv_at hl 0 rfl) ?_
  refine va_get (D := (dC, dI)) (ci := 2) (v := .ref ha) (C := R_Mover) (T := F_Mover) (N := 10) hx hb hts (fun w h => List.mem_cons_of_mem _ (i_Mover w h)) hown hK hP 0 rfl rfl 1 (by decide) (hts _ (List.mem_cons_of_mem _ kw_290)) (fun _ h9 => h9) rfl d_Mover_goBack_14 ?_
  refine va_get (D := (dC, dI)) (ci := 0) (v := .int (nI n)) (C := R_Atoms) (T := F_Atoms) (N := 8) hx hb hts (fun w h => List.mem_cons_of_mem _ (i_Atoms w h)) hown hK hP 1 rfl rfl 7 (by decide) (hts _ (List.mem_cons_of_mem _ kw_141)) (fun _ h9 => h9) rfl d_Mover_goBack_17 ?_
  refine gx_copy (k := n) (rest := []) hx hb (hml.trans hl.1.symm) hown (hts _ (List.mem_cons_of_mem _ kw_638)) (hts _ (List.mem_cons_of_mem _ kw_640)) (hts _ (List.mem_cons_of_mem _ kw_639)) (hts _ (List.mem_cons_of_mem _ kw_60)) hK hP hD hS 9 2 1 rfl rfl rfl (by omega) (by omega) (by omega) (Nat.le_of_ble_eq_true rfl) (Nat.le_of_ble_eq_true rfl) d_Mover_goBack_20 (fun H locs hP hD hS => ?_)
  have hP : va_P (dC, dI) classes [(hmv, .inr (2, [.ref hq, .ref ha, .ref hr0, .ref hp, .ref hn0, .ref hox, .ref hoy, .ref hou, .ref hov, .int rd])), (ha, .inr (0, [.ref hax, .ref hay, .ref hau, .ref hav, .ref ham, .ref has, .ref hak, .int (nI n)])), (hax, .inl (cD, 10, .inr (.inr (.inr (.inl (pb_fill ox x n)))))), (hay, .inl (cD, 10, .inr (.inr (.inr (.inl y))))), (hau, .inl (cD, 10, .inr (.inr (.inr (.inl u))))), (hav, .inl (cD, 10, .inr (.inr (.inr (.inl v))))), (ham, .inl (cD, 10, .inr (.inr (.inr (.inl mass))))), (has, .inl (cI, 10, .inl sort)), (hak, .inl (cZ, 10, .inl stuck)), (hox, .inl (cD, 10, .inr (.inr (.inr (.inl ox))))), (hoy, .inl (cD, 10, .inr (.inr (.inr (.inl oy))))), (hou, .inl (cD, 10, .inr (.inr (.inr (.inl ou))))), (hov, .inl (cD, 10, .inr (.inr (.inr (.inl ov))))), (hn0, .inr (3, [.ref hq, .ref ha, .ref hmx, .ref hmy, .int isT, .double skin, .int tm]))] H := hP
  have hD : va_D A [(hmv, .inr (2, [.ref hq, .ref ha, .ref hr0, .ref hp, .ref hn0, .ref hox, .ref hoy, .ref hou, .ref hov, .int rd])), (ha, .inr (0, [.ref hax, .ref hay, .ref hau, .ref hav, .ref ham, .ref has, .ref hak, .int (nI n)])), (hax, .inl (cD, 10, .inr (.inr (.inr (.inl (pb_fill ox x n)))))), (hay, .inl (cD, 10, .inr (.inr (.inr (.inl y))))), (hau, .inl (cD, 10, .inr (.inr (.inr (.inl u))))), (hav, .inl (cD, 10, .inr (.inr (.inr (.inl v))))), (ham, .inl (cD, 10, .inr (.inr (.inr (.inl mass))))), (has, .inl (cI, 10, .inl sort)), (hak, .inl (cZ, 10, .inl stuck)), (hox, .inl (cD, 10, .inr (.inr (.inr (.inl ox))))), (hoy, .inl (cD, 10, .inr (.inr (.inr (.inl oy))))), (hou, .inl (cD, 10, .inr (.inr (.inr (.inl ou))))), (hov, .inl (cD, 10, .inr (.inr (.inr (.inl ov))))), (hn0, .inr (3, [.ref hq, .ref ha, .ref hmx, .ref hmy, .int isT, .double skin, .int tm]))] := hD
  refine lv_aload_n hx hb d_Mover_goBack_23 rfl (lv_at hl 0 rfl) ?_
  refine va_get (D := (dC, dI)) (ci := 2) (v := .ref hoy) (C := R_Mover) (T := F_Mover) (N := 10) hx hb hts (fun w h => List.mem_cons_of_mem _ (i_Mover w h)) hown hK hP 0 rfl rfl 6 (by decide) (hts _ (List.mem_cons_of_mem _ kw_295)) (fun _ h9 => h9) rfl d_Mover_goBack_24 ?_
  refine lv_iconst (v := 0) hx hb d_Mover_goBack_27 (by decide) ?_
  refine lv_aload_n hx hb d_Mover_goBack_28 rfl (lv_at hl 0 rfl) ?_
  refine va_get (D := (dC, dI)) (ci := 2) (v := .ref ha) (C := R_Mover) (T := F_Mover) (N := 10) hx hb hts (fun w h => List.mem_cons_of_mem _ (i_Mover w h)) hown hK hP 0 rfl rfl 1 (by decide) (hts _ (List.mem_cons_of_mem _ kw_290)) (fun _ h9 => h9) rfl d_Mover_goBack_29 ?_
  refine va_get (D := (dC, dI)) (ci := 0) (v := .ref hay) (C := R_Atoms) (T := F_Atoms) (N := 8) hx hb hts (fun w h => List.mem_cons_of_mem _ (i_Atoms w h)) hown hK hP 1 rfl rfl 1 (by decide) (hts _ (List.mem_cons_of_mem _ kw_118)) (fun _ h9 => h9) rfl d_Mover_goBack_32 ?_
  refine lv_iconst (v := 0) hx hb d_Mover_goBack_35 (by decide) ?_
  refine lv_aload_n hx hb d_Mover_goBack_36 rfl (lv_at hl 0 rfl) ?_
  refine va_get (D := (dC, dI)) (ci := 2) (v := .ref ha) (C := R_Mover) (T := F_Mover) (N := 10) hx hb hts (fun w h => List.mem_cons_of_mem _ (i_Mover w h)) hown hK hP 0 rfl rfl 1 (by decide) (hts _ (List.mem_cons_of_mem _ kw_290)) (fun _ h9 => h9) rfl d_Mover_goBack_37 ?_
  refine va_get (D := (dC, dI)) (ci := 0) (v := .int (nI n)) (C := R_Atoms) (T := F_Atoms) (N := 8) hx hb hts (fun w h => List.mem_cons_of_mem _ (i_Atoms w h)) hown hK hP 1 rfl rfl 7 (by decide) (hts _ (List.mem_cons_of_mem _ kw_141)) (fun _ h9 => h9) rfl d_Mover_goBack_40 ?_
  refine gx_copy (k := n) (rest := []) hx hb (hml.trans hl.1.symm) hown (hts _ (List.mem_cons_of_mem _ kw_638)) (hts _ (List.mem_cons_of_mem _ kw_640)) (hts _ (List.mem_cons_of_mem _ kw_639)) (hts _ (List.mem_cons_of_mem _ kw_60)) hK hP hD hS 10 3 1 rfl rfl rfl (by omega) (by omega) (by omega) (Nat.le_of_ble_eq_true rfl) (Nat.le_of_ble_eq_true rfl) d_Mover_goBack_43 (fun H locs hP hD hS => ?_)
  have hP : va_P (dC, dI) classes [(hmv, .inr (2, [.ref hq, .ref ha, .ref hr0, .ref hp, .ref hn0, .ref hox, .ref hoy, .ref hou, .ref hov, .int rd])), (ha, .inr (0, [.ref hax, .ref hay, .ref hau, .ref hav, .ref ham, .ref has, .ref hak, .int (nI n)])), (hax, .inl (cD, 10, .inr (.inr (.inr (.inl (pb_fill ox x n)))))), (hay, .inl (cD, 10, .inr (.inr (.inr (.inl (pb_fill oy y n)))))), (hau, .inl (cD, 10, .inr (.inr (.inr (.inl u))))), (hav, .inl (cD, 10, .inr (.inr (.inr (.inl v))))), (ham, .inl (cD, 10, .inr (.inr (.inr (.inl mass))))), (has, .inl (cI, 10, .inl sort)), (hak, .inl (cZ, 10, .inl stuck)), (hox, .inl (cD, 10, .inr (.inr (.inr (.inl ox))))), (hoy, .inl (cD, 10, .inr (.inr (.inr (.inl oy))))), (hou, .inl (cD, 10, .inr (.inr (.inr (.inl ou))))), (hov, .inl (cD, 10, .inr (.inr (.inr (.inl ov))))), (hn0, .inr (3, [.ref hq, .ref ha, .ref hmx, .ref hmy, .int isT, .double skin, .int tm]))] H := hP
  have hD : va_D A [(hmv, .inr (2, [.ref hq, .ref ha, .ref hr0, .ref hp, .ref hn0, .ref hox, .ref hoy, .ref hou, .ref hov, .int rd])), (ha, .inr (0, [.ref hax, .ref hay, .ref hau, .ref hav, .ref ham, .ref has, .ref hak, .int (nI n)])), (hax, .inl (cD, 10, .inr (.inr (.inr (.inl (pb_fill ox x n)))))), (hay, .inl (cD, 10, .inr (.inr (.inr (.inl (pb_fill oy y n)))))), (hau, .inl (cD, 10, .inr (.inr (.inr (.inl u))))), (hav, .inl (cD, 10, .inr (.inr (.inr (.inl v))))), (ham, .inl (cD, 10, .inr (.inr (.inr (.inl mass))))), (has, .inl (cI, 10, .inl sort)), (hak, .inl (cZ, 10, .inl stuck)), (hox, .inl (cD, 10, .inr (.inr (.inr (.inl ox))))), (hoy, .inl (cD, 10, .inr (.inr (.inr (.inl oy))))), (hou, .inl (cD, 10, .inr (.inr (.inr (.inl ou))))), (hov, .inl (cD, 10, .inr (.inr (.inr (.inl ov))))), (hn0, .inr (3, [.ref hq, .ref ha, .ref hmx, .ref hmy, .int isT, .double skin, .int tm]))] := hD
  refine lv_aload_n hx hb d_Mover_goBack_46 rfl (lv_at hl 0 rfl) ?_
  refine va_get (D := (dC, dI)) (ci := 2) (v := .ref hou) (C := R_Mover) (T := F_Mover) (N := 10) hx hb hts (fun w h => List.mem_cons_of_mem _ (i_Mover w h)) hown hK hP 0 rfl rfl 7 (by decide) (hts _ (List.mem_cons_of_mem _ kw_296)) (fun _ h9 => h9) rfl d_Mover_goBack_47 ?_
  refine lv_iconst (v := 0) hx hb d_Mover_goBack_50 (by decide) ?_
  refine lv_aload_n hx hb d_Mover_goBack_51 rfl (lv_at hl 0 rfl) ?_
  refine va_get (D := (dC, dI)) (ci := 2) (v := .ref ha) (C := R_Mover) (T := F_Mover) (N := 10) hx hb hts (fun w h => List.mem_cons_of_mem _ (i_Mover w h)) hown hK hP 0 rfl rfl 1 (by decide) (hts _ (List.mem_cons_of_mem _ kw_290)) (fun _ h9 => h9) rfl d_Mover_goBack_52 ?_
  refine va_get (D := (dC, dI)) (ci := 0) (v := .ref hau) (C := R_Atoms) (T := F_Atoms) (N := 8) hx hb hts (fun w h => List.mem_cons_of_mem _ (i_Atoms w h)) hown hK hP 1 rfl rfl 2 (by decide) (hts _ (List.mem_cons_of_mem _ kw_123)) (fun _ h9 => h9) rfl d_Mover_goBack_55 ?_
  refine lv_iconst (v := 0) hx hb d_Mover_goBack_58 (by decide) ?_
  refine lv_aload_n hx hb d_Mover_goBack_59 rfl (lv_at hl 0 rfl) ?_
  refine va_get (D := (dC, dI)) (ci := 2) (v := .ref ha) (C := R_Mover) (T := F_Mover) (N := 10) hx hb hts (fun w h => List.mem_cons_of_mem _ (i_Mover w h)) hown hK hP 0 rfl rfl 1 (by decide) (hts _ (List.mem_cons_of_mem _ kw_290)) (fun _ h9 => h9) rfl d_Mover_goBack_60 ?_
  refine va_get (D := (dC, dI)) (ci := 0) (v := .int (nI n)) (C := R_Atoms) (T := F_Atoms) (N := 8) hx hb hts (fun w h => List.mem_cons_of_mem _ (i_Atoms w h)) hown hK hP 1 rfl rfl 7 (by decide) (hts _ (List.mem_cons_of_mem _ kw_141)) (fun _ h9 => h9) rfl d_Mover_goBack_63 ?_
  refine gx_copy (k := n) (rest := []) hx hb (hml.trans hl.1.symm) hown (hts _ (List.mem_cons_of_mem _ kw_638)) (hts _ (List.mem_cons_of_mem _ kw_640)) (hts _ (List.mem_cons_of_mem _ kw_639)) (hts _ (List.mem_cons_of_mem _ kw_60)) hK hP hD hS 11 4 1 rfl rfl rfl (by omega) (by omega) (by omega) (Nat.le_of_ble_eq_true rfl) (Nat.le_of_ble_eq_true rfl) d_Mover_goBack_66 (fun H locs hP hD hS => ?_)
  have hP : va_P (dC, dI) classes [(hmv, .inr (2, [.ref hq, .ref ha, .ref hr0, .ref hp, .ref hn0, .ref hox, .ref hoy, .ref hou, .ref hov, .int rd])), (ha, .inr (0, [.ref hax, .ref hay, .ref hau, .ref hav, .ref ham, .ref has, .ref hak, .int (nI n)])), (hax, .inl (cD, 10, .inr (.inr (.inr (.inl (pb_fill ox x n)))))), (hay, .inl (cD, 10, .inr (.inr (.inr (.inl (pb_fill oy y n)))))), (hau, .inl (cD, 10, .inr (.inr (.inr (.inl (pb_fill ou u n)))))), (hav, .inl (cD, 10, .inr (.inr (.inr (.inl v))))), (ham, .inl (cD, 10, .inr (.inr (.inr (.inl mass))))), (has, .inl (cI, 10, .inl sort)), (hak, .inl (cZ, 10, .inl stuck)), (hox, .inl (cD, 10, .inr (.inr (.inr (.inl ox))))), (hoy, .inl (cD, 10, .inr (.inr (.inr (.inl oy))))), (hou, .inl (cD, 10, .inr (.inr (.inr (.inl ou))))), (hov, .inl (cD, 10, .inr (.inr (.inr (.inl ov))))), (hn0, .inr (3, [.ref hq, .ref ha, .ref hmx, .ref hmy, .int isT, .double skin, .int tm]))] H := hP
  have hD : va_D A [(hmv, .inr (2, [.ref hq, .ref ha, .ref hr0, .ref hp, .ref hn0, .ref hox, .ref hoy, .ref hou, .ref hov, .int rd])), (ha, .inr (0, [.ref hax, .ref hay, .ref hau, .ref hav, .ref ham, .ref has, .ref hak, .int (nI n)])), (hax, .inl (cD, 10, .inr (.inr (.inr (.inl (pb_fill ox x n)))))), (hay, .inl (cD, 10, .inr (.inr (.inr (.inl (pb_fill oy y n)))))), (hau, .inl (cD, 10, .inr (.inr (.inr (.inl (pb_fill ou u n)))))), (hav, .inl (cD, 10, .inr (.inr (.inr (.inl v))))), (ham, .inl (cD, 10, .inr (.inr (.inr (.inl mass))))), (has, .inl (cI, 10, .inl sort)), (hak, .inl (cZ, 10, .inl stuck)), (hox, .inl (cD, 10, .inr (.inr (.inr (.inl ox))))), (hoy, .inl (cD, 10, .inr (.inr (.inr (.inl oy))))), (hou, .inl (cD, 10, .inr (.inr (.inr (.inl ou))))), (hov, .inl (cD, 10, .inr (.inr (.inr (.inl ov))))), (hn0, .inr (3, [.ref hq, .ref ha, .ref hmx, .ref hmy, .int isT, .double skin, .int tm]))] := hD
  refine lv_aload_n hx hb d_Mover_goBack_69 rfl (lv_at hl 0 rfl) ?_
  refine va_get (D := (dC, dI)) (ci := 2) (v := .ref hov) (C := R_Mover) (T := F_Mover) (N := 10) hx hb hts (fun w h => List.mem_cons_of_mem _ (i_Mover w h)) hown hK hP 0 rfl rfl 8 (by decide) (hts _ (List.mem_cons_of_mem _ kw_297)) (fun _ h9 => h9) rfl d_Mover_goBack_70 ?_
  refine lv_iconst (v := 0) hx hb d_Mover_goBack_73 (by decide) ?_
  refine lv_aload_n hx hb d_Mover_goBack_74 rfl (lv_at hl 0 rfl) ?_
  refine va_get (D := (dC, dI)) (ci := 2) (v := .ref ha) (C := R_Mover) (T := F_Mover) (N := 10) hx hb hts (fun w h => List.mem_cons_of_mem _ (i_Mover w h)) hown hK hP 0 rfl rfl 1 (by decide) (hts _ (List.mem_cons_of_mem _ kw_290)) (fun _ h9 => h9) rfl d_Mover_goBack_75 ?_
  refine va_get (D := (dC, dI)) (ci := 0) (v := .ref hav) (C := R_Atoms) (T := F_Atoms) (N := 8) hx hb hts (fun w h => List.mem_cons_of_mem _ (i_Atoms w h)) hown hK hP 1 rfl rfl 3 (by decide) (hts _ (List.mem_cons_of_mem _ kw_126)) (fun _ h9 => h9) rfl d_Mover_goBack_78 ?_
  refine lv_iconst (v := 0) hx hb d_Mover_goBack_81 (by decide) ?_
  refine lv_aload_n hx hb d_Mover_goBack_82 rfl (lv_at hl 0 rfl) ?_
  refine va_get (D := (dC, dI)) (ci := 2) (v := .ref ha) (C := R_Mover) (T := F_Mover) (N := 10) hx hb hts (fun w h => List.mem_cons_of_mem _ (i_Mover w h)) hown hK hP 0 rfl rfl 1 (by decide) (hts _ (List.mem_cons_of_mem _ kw_290)) (fun _ h9 => h9) rfl d_Mover_goBack_83 ?_
  refine va_get (D := (dC, dI)) (ci := 0) (v := .int (nI n)) (C := R_Atoms) (T := F_Atoms) (N := 8) hx hb hts (fun w h => List.mem_cons_of_mem _ (i_Atoms w h)) hown hK hP 1 rfl rfl 7 (by decide) (hts _ (List.mem_cons_of_mem _ kw_141)) (fun _ h9 => h9) rfl d_Mover_goBack_86 ?_
  refine gx_copy (k := n) (rest := []) hx hb (hml.trans hl.1.symm) hown (hts _ (List.mem_cons_of_mem _ kw_638)) (hts _ (List.mem_cons_of_mem _ kw_640)) (hts _ (List.mem_cons_of_mem _ kw_639)) (hts _ (List.mem_cons_of_mem _ kw_60)) hK hP hD hS 12 5 1 rfl rfl rfl (by omega) (by omega) (by omega) (Nat.le_of_ble_eq_true rfl) (Nat.le_of_ble_eq_true rfl) d_Mover_goBack_89 (fun H locs hP hD hS => ?_)
  have hP : va_P (dC, dI) classes [(hmv, .inr (2, [.ref hq, .ref ha, .ref hr0, .ref hp, .ref hn0, .ref hox, .ref hoy, .ref hou, .ref hov, .int rd])), (ha, .inr (0, [.ref hax, .ref hay, .ref hau, .ref hav, .ref ham, .ref has, .ref hak, .int (nI n)])), (hax, .inl (cD, 10, .inr (.inr (.inr (.inl (pb_fill ox x n)))))), (hay, .inl (cD, 10, .inr (.inr (.inr (.inl (pb_fill oy y n)))))), (hau, .inl (cD, 10, .inr (.inr (.inr (.inl (pb_fill ou u n)))))), (hav, .inl (cD, 10, .inr (.inr (.inr (.inl (pb_fill ov v n)))))), (ham, .inl (cD, 10, .inr (.inr (.inr (.inl mass))))), (has, .inl (cI, 10, .inl sort)), (hak, .inl (cZ, 10, .inl stuck)), (hox, .inl (cD, 10, .inr (.inr (.inr (.inl ox))))), (hoy, .inl (cD, 10, .inr (.inr (.inr (.inl oy))))), (hou, .inl (cD, 10, .inr (.inr (.inr (.inl ou))))), (hov, .inl (cD, 10, .inr (.inr (.inr (.inl ov))))), (hn0, .inr (3, [.ref hq, .ref ha, .ref hmx, .ref hmy, .int isT, .double skin, .int tm]))] H := hP
  have hD : va_D A [(hmv, .inr (2, [.ref hq, .ref ha, .ref hr0, .ref hp, .ref hn0, .ref hox, .ref hoy, .ref hou, .ref hov, .int rd])), (ha, .inr (0, [.ref hax, .ref hay, .ref hau, .ref hav, .ref ham, .ref has, .ref hak, .int (nI n)])), (hax, .inl (cD, 10, .inr (.inr (.inr (.inl (pb_fill ox x n)))))), (hay, .inl (cD, 10, .inr (.inr (.inr (.inl (pb_fill oy y n)))))), (hau, .inl (cD, 10, .inr (.inr (.inr (.inl (pb_fill ou u n)))))), (hav, .inl (cD, 10, .inr (.inr (.inr (.inl (pb_fill ov v n)))))), (ham, .inl (cD, 10, .inr (.inr (.inr (.inl mass))))), (has, .inl (cI, 10, .inl sort)), (hak, .inl (cZ, 10, .inl stuck)), (hox, .inl (cD, 10, .inr (.inr (.inr (.inl ox))))), (hoy, .inl (cD, 10, .inr (.inr (.inr (.inl oy))))), (hou, .inl (cD, 10, .inr (.inr (.inr (.inl ou))))), (hov, .inl (cD, 10, .inr (.inr (.inr (.inl ov))))), (hn0, .inr (3, [.ref hq, .ref ha, .ref hmx, .ref hmy, .int isT, .double skin, .int tm]))] := hD
  refine lv_aload_n hx hb d_Mover_goBack_92 rfl (lv_at hl 0 rfl) ?_
  refine va_get (D := (dC, dI)) (ci := 2) (v := .ref hn0) (C := R_Mover) (T := F_Mover) (N := 10) hx hb hts (fun w h => List.mem_cons_of_mem _ (i_Mover w h)) hown hK hP 0 rfl rfl 4 (by decide) (hts _ (List.mem_cons_of_mem _ kw_293)) (fun _ h9 => h9) rfl d_Mover_goBack_93 ?_
  refine gx_Vv (st0 := [.ref hn0]) (As := []) (rest := []) (wr := [(hmv, .inr (2, [.ref hq, .ref ha, .ref hr0, .ref hp, .ref hn0, .ref hox, .ref hoy, .ref hou, .ref hov, .int rd])), (ha, .inr (0, [.ref hax, .ref hay, .ref hau, .ref hav, .ref ham, .ref has, .ref hak, .int (nI n)])), (hax, .inl (cD, 10, .inr (.inr (.inr (.inl (pb_fill ox x n)))))), (hay, .inl (cD, 10, .inr (.inr (.inr (.inl (pb_fill oy y n)))))), (hau, .inl (cD, 10, .inr (.inr (.inr (.inl (pb_fill ou u n)))))), (hav, .inl (cD, 10, .inr (.inr (.inr (.inl (pb_fill ov v n)))))), (ham, .inl (cD, 10, .inr (.inr (.inr (.inl mass))))), (has, .inl (cI, 10, .inl sort)), (hak, .inl (cZ, 10, .inl stuck)), (hox, .inl (cD, 10, .inr (.inr (.inr (.inl ox))))), (hoy, .inl (cD, 10, .inr (.inr (.inr (.inl oy))))), (hou, .inl (cD, 10, .inr (.inr (.inr (.inl ou))))), (hov, .inl (cD, 10, .inr (.inr (.inr (.inl ov)))))]) ⟨hx, hb, hml, hown, hts⟩ hN hK hP hD hS hA [13] [0, 1, 2, 3, 4, 5, 6, 7, 8, 9, 10, 11, 12] rfl rfl (by decide) (c_Neighbours_forget l dC dI cI cD cZ H.size hn0 hmx hmy isT skin tm hq ha) (cwV 0 hts (gx_gV kw_753 kw_536 kw_537 kw_51 kw_538) rfl rfl rfl (by decide +kernel) ⟨Nat.le_of_ble_eq_true rfl, Nat.le_of_ble_eq_true rfl⟩) 13 3 rfl rfl rfl hl.1 rfl (Nat.le_of_ble_eq_true rfl) d_Mover_goBack_96 ⟨Nat.le_of_ble_eq_true rfl, Nat.le_of_ble_eq_true rfl⟩ (fun  u_1 H locs hw96 hP hD hS => ?_)
  try dsimp only at hw96 hP hD
  have hP : va_P (dC, dI) classes [(hmv, .inr (2, [.ref hq, .ref ha, .ref hr0, .ref hp, .ref hn0, .ref hox, .ref hoy, .ref hou, .ref hov, .int rd])), (ha, .inr (0, [.ref hax, .ref hay, .ref hau, .ref hav, .ref ham, .ref has, .ref hak, .int (nI n)])), (hax, .inl (cD, 10, .inr (.inr (.inr (.inl (pb_fill ox x n)))))), (hay, .inl (cD, 10, .inr (.inr (.inr (.inl (pb_fill oy y n)))))), (hau, .inl (cD, 10, .inr (.inr (.inr (.inl (pb_fill ou u n)))))), (hav, .inl (cD, 10, .inr (.inr (.inr (.inl (pb_fill ov v n)))))), (ham, .inl (cD, 10, .inr (.inr (.inr (.inl mass))))), (has, .inl (cI, 10, .inl sort)), (hak, .inl (cZ, 10, .inl stuck)), (hox, .inl (cD, 10, .inr (.inr (.inr (.inl ox))))), (hoy, .inl (cD, 10, .inr (.inr (.inr (.inl oy))))), (hou, .inl (cD, 10, .inr (.inr (.inr (.inl ou))))), (hov, .inl (cD, 10, .inr (.inr (.inr (.inl ov))))), (hn0, .inr (3, [.ref hq, .ref ha, .ref hmx, .ref hmy, .int 0, .double skin, .int tm]))] H := hP
  have hD : va_D A [(hmv, .inr (2, [.ref hq, .ref ha, .ref hr0, .ref hp, .ref hn0, .ref hox, .ref hoy, .ref hou, .ref hov, .int rd])), (ha, .inr (0, [.ref hax, .ref hay, .ref hau, .ref hav, .ref ham, .ref has, .ref hak, .int (nI n)])), (hax, .inl (cD, 10, .inr (.inr (.inr (.inl (pb_fill ox x n)))))), (hay, .inl (cD, 10, .inr (.inr (.inr (.inl (pb_fill oy y n)))))), (hau, .inl (cD, 10, .inr (.inr (.inr (.inl (pb_fill ou u n)))))), (hav, .inl (cD, 10, .inr (.inr (.inr (.inl (pb_fill ov v n)))))), (ham, .inl (cD, 10, .inr (.inr (.inr (.inl mass))))), (has, .inl (cI, 10, .inl sort)), (hak, .inl (cZ, 10, .inl stuck)), (hox, .inl (cD, 10, .inr (.inr (.inr (.inl ox))))), (hoy, .inl (cD, 10, .inr (.inr (.inr (.inl oy))))), (hou, .inl (cD, 10, .inr (.inr (.inr (.inl ou))))), (hov, .inl (cD, 10, .inr (.inr (.inr (.inl ov))))), (hn0, .inr (3, [.ref hq, .ref ha, .ref hmx, .ref hmy, .int 0, .double skin, .int tm]))] := hD
  have hP9 := hP.sub (ws' := [(hmv, .inr (2, [.ref hq, .ref ha, .ref hr0, .ref hp, .ref hn0, .ref hox, .ref hoy, .ref hou, .ref hov, .int rd])), (ha, .inr (0, [.ref hax, .ref hay, .ref hau, .ref hav, .ref ham, .ref has, .ref hak, .int (nI n)])), (hax, .inl (cD, 10, .inr (.inr (.inr (.inl (pb_fill ox x n)))))), (hay, .inl (cD, 10, .inr (.inr (.inr (.inl (pb_fill oy y n)))))), (hau, .inl (cD, 10, .inr (.inr (.inr (.inl (pb_fill ou u n)))))), (hav, .inl (cD, 10, .inr (.inr (.inr (.inl (pb_fill ov v n)))))), (ham, .inl (cD, 10, .inr (.inr (.inr (.inl mass))))), (has, .inl (cI, 10, .inl sort)), (hak, .inl (cZ, 10, .inl stuck)), (hox, .inl (cD, 10, .inr (.inr (.inr (.inl ox))))), (hoy, .inl (cD, 10, .inr (.inr (.inr (.inl oy))))), (hou, .inl (cD, 10, .inr (.inr (.inr (.inl ou))))), (hov, .inl (cD, 10, .inr (.inr (.inr (.inl ov))))), (hn0, .inr (3, [.ref hq, .ref ha, .ref hmx, .ref hmy, .int 0, .double skin, .int tm]))]) [0, 1, 2, 3, 4, 5, 6, 7, 8, 9, 10, 11, 12, 13] rfl
  have hD9 := hD.sub (ws' := [(hmv, .inr (2, [.ref hq, .ref ha, .ref hr0, .ref hp, .ref hn0, .ref hox, .ref hoy, .ref hou, .ref hov, .int rd])), (ha, .inr (0, [.ref hax, .ref hay, .ref hau, .ref hav, .ref ham, .ref has, .ref hak, .int (nI n)])), (hax, .inl (cD, 10, .inr (.inr (.inr (.inl (pb_fill ox x n)))))), (hay, .inl (cD, 10, .inr (.inr (.inr (.inl (pb_fill oy y n)))))), (hau, .inl (cD, 10, .inr (.inr (.inr (.inl (pb_fill ou u n)))))), (hav, .inl (cD, 10, .inr (.inr (.inr (.inl (pb_fill ov v n)))))), (ham, .inl (cD, 10, .inr (.inr (.inr (.inl mass))))), (has, .inl (cI, 10, .inl sort)), (hak, .inl (cZ, 10, .inl stuck)), (hox, .inl (cD, 10, .inr (.inr (.inr (.inl ox))))), (hoy, .inl (cD, 10, .inr (.inr (.inr (.inl oy))))), (hou, .inl (cD, 10, .inr (.inr (.inr (.inl ou))))), (hov, .inl (cD, 10, .inr (.inr (.inr (.inl ov))))), (hn0, .inr (3, [.ref hq, .ref ha, .ref hmx, .ref hmy, .int 0, .double skin, .int tm]))]) [0, 1, 2, 3, 4, 5, 6, 7, 8, 9, 10, 11, 12, 13] (by decide) rfl
  exact W.vret hx hb hr (fun t ht hW => ⟨⟨(), rfl, trivial, by rw [ht]; exact hP9, va_K.moved hW.alike hK, hD9⟩, hS.F ht⟩) hS.2.2 d_Mover_goBack_99
set_option maxHeartbeats 4000000 in
set_option maxRecDepth 100000 in
/-- push -/
theorem c_Mover_push (l : Launch) (dC : Nat → ClassId) (dI : Nat → Nat → Nat) (cI cD cZ : ClassId) (sz : Nat) (hmv : Nat) (hr0 : Nat) (hp : Nat) (hn0 : Nat) (hox : Nat) (hoy : Nat) (hou : Nat) (hov : Nat) (rd : Int32) (hq : Nat) (ha : Nat) (hax : Nat) (hay : Nat) (hau : Nat) (hav : Nat) (ham : Nat) (has : Nat) (hak : Nat) (x : Nat → UInt64) (y : Nat → UInt64) (u : Nat → UInt64) (v : Nat → UInt64) (mass : Nat → UInt64) (sort : Nat → Int32) (stuck : Nat → Int32) (n : Nat) (hso0 : Nat) (hb0 : Nat) (hfx : Nat) (hfy : Nat) (cut : UInt64) (fx : Nat → UInt64) (fy : Nat → UInt64) (dt : UInt64) (hn : n ≤ 10) (hdt : pb_Idt dt) (hmI : ∀ i, i < n → pb_Im (mass i)) (huI : ∀ i, i < n → pb_Iu (u i)) (hvI : ∀ i, i < n → pb_Iu (v i)) (hFx : ∀ i, i < n → pb_If (fx i)) (hFy : ∀ i, i < n → pb_If (fy i)) : Met l y_Mover_push w_Mover_push ({ frames := 0, cells := 0, slots := 0, locals := 0 }) (va_Pc [.ref hmv, .double dt] (gx_B (dC, dI) classes (gx_T cI cD cZ) [(hmv, .inr (2, [.ref hq, .ref ha, .ref hr0, .ref hp, .ref hn0, .ref hox, .ref hoy, .ref hou, .ref hov, .int rd])), (hp, .inr (4, [.ref hq, .ref ha, .ref hso0, .ref hb0, .ref hfx, .ref hfy, .double cut])), (ha, .inr (0, [.ref hax, .ref hay, .ref hau, .ref hav, .ref ham, .ref has, .ref hak, .int (nI n)])), (hax, .inl (cD, 10, .inr (.inr (.inr (.inl x))))), (hay, .inl (cD, 10, .inr (.inr (.inr (.inl y))))), (hau, .inl (cD, 10, .inr (.inr (.inr (.inl u))))), (hav, .inl (cD, 10, .inr (.inr (.inr (.inl v))))), (ham, .inl (cD, 10, .inr (.inr (.inr (.inl mass))))), (has, .inl (cI, 10, .inl sort)), (hak, .inl (cZ, 10, .inl stuck)), (hfx, .inl (cD, 10, .inr (.inr (.inr (.inl fx))))), (hfy, .inl (cD, 10, .inr (.inr (.inr (.inl fy)))))] sz)) (va_Qv (fun (uu : Unit) => True) (fun (uu : Unit) t => gx_E (dC, dI) classes (gx_T cI cD cZ) (va_A [(hmv, .inr (2, [.ref hq, .ref ha, .ref hr0, .ref hp, .ref hn0, .ref hox, .ref hoy, .ref hou, .ref hov, .int rd])), (hp, .inr (4, [.ref hq, .ref ha, .ref hso0, .ref hb0, .ref hfx, .ref hfy, .double cut])), (ha, .inr (0, [.ref hax, .ref hay, .ref hau, .ref hav, .ref ham, .ref has, .ref hak, .int (nI n)])), (hax, .inl (cD, 10, .inr (.inr (.inr (.inl x))))), (hay, .inl (cD, 10, .inr (.inr (.inr (.inl y))))), (hau, .inl (cD, 10, .inr (.inr (.inr (.inl u))))), (hav, .inl (cD, 10, .inr (.inr (.inr (.inl v))))), (ham, .inl (cD, 10, .inr (.inr (.inr (.inl mass))))), (has, .inl (cI, 10, .inl sort)), (hak, .inl (cZ, 10, .inl stuck)), (hfx, .inl (cD, 10, .inr (.inr (.inr (.inl fx))))), (hfy, .inl (cD, 10, .inr (.inr (.inr (.inl fy)))))] sz) [(hmv, .inr (2, [.ref hq, .ref ha, .ref hr0, .ref hp, .ref hn0, .ref hox, .ref hoy, .ref hou, .ref hov, .int rd])), (hp, .inr (4, [.ref hq, .ref ha, .ref hso0, .ref hb0, .ref hfx, .ref hfy, .double cut])), (ha, .inr (0, [.ref hax, .ref hay, .ref hau, .ref hav, .ref ham, .ref has, .ref hak, .int (nI n)])), (hax, .inl (cD, 10, .inr (.inr (.inr (.inl x))))), (hay, .inl (cD, 10, .inr (.inr (.inr (.inl y))))), (hau, .inl (cD, 10, .inr (.inr (.inr (.inl (pb_fill (pb_pushf dt u fx mass stuck) u n)))))), (hav, .inl (cD, 10, .inr (.inr (.inr (.inl (pb_fill (pb_pushf dt v fy mass stuck) v n)))))), (ham, .inl (cD, 10, .inr (.inr (.inr (.inl mass))))), (has, .inl (cI, 10, .inl sort)), (hak, .inl (cZ, 10, .inl stuck)), (hfx, .inl (cD, 10, .inr (.inr (.inr (.inl fx))))), (hfy, .inl (cD, 10, .inr (.inr (.inr (.inl fy)))))] t) (va_A [(hmv, .inr (2, [.ref hq, .ref ha, .ref hr0, .ref hp, .ref hn0, .ref hox, .ref hoy, .ref hou, .ref hov, .int rd])), (hp, .inr (4, [.ref hq, .ref ha, .ref hso0, .ref hb0, .ref hfx, .ref hfy, .double cut])), (ha, .inr (0, [.ref hax, .ref hay, .ref hau, .ref hav, .ref ham, .ref has, .ref hak, .int (nI n)])), (hax, .inl (cD, 10, .inr (.inr (.inr (.inl x))))), (hay, .inl (cD, 10, .inr (.inr (.inr (.inl y))))), (hau, .inl (cD, 10, .inr (.inr (.inr (.inl u))))), (hav, .inl (cD, 10, .inr (.inr (.inr (.inl v))))), (ham, .inl (cD, 10, .inr (.inr (.inr (.inl mass))))), (has, .inl (cI, 10, .inl sort)), (hak, .inl (cZ, 10, .inl stuck)), (hfx, .inl (cD, 10, .inr (.inr (.inr (.inl fx))))), (hfy, .inl (cD, 10, .inr (.inr (.inr (.inl fy)))))] sz)) 0 0 (va_A [(hmv, .inr (2, [.ref hq, .ref ha, .ref hr0, .ref hp, .ref hn0, .ref hox, .ref hoy, .ref hou, .ref hov, .int rd])), (hp, .inr (4, [.ref hq, .ref ha, .ref hso0, .ref hb0, .ref hfx, .ref hfy, .double cut])), (ha, .inr (0, [.ref hax, .ref hay, .ref hau, .ref hav, .ref ham, .ref has, .ref hak, .int (nI n)])), (hax, .inl (cD, 10, .inr (.inr (.inr (.inl x))))), (hay, .inl (cD, 10, .inr (.inr (.inr (.inl y))))), (hau, .inl (cD, 10, .inr (.inr (.inr (.inl u))))), (hav, .inl (cD, 10, .inr (.inr (.inr (.inl v))))), (ham, .inl (cD, 10, .inr (.inr (.inr (.inl mass))))), (has, .inl (cI, 10, .inl sort)), (hak, .inl (cZ, 10, .inl stuck)), (hfx, .inl (cD, 10, .inr (.inr (.inr (.inl fx))))), (hfy, .inl (cD, 10, .inr (.inr (.inr (.inl fy)))))] sz) := by
  refine Met.ofW (cc := b_Mover_push) (maxL := 4) (ret := none) (by decide) rfl ?_
  intro p e s m args below meth c s₁ B hml hv
  obtain ⟨rfl, hsz, hP, hK, hD0, hN⟩ := hv
  have hx := B.exec
  have hb := B.bytes
  have hr := B.returns
  have hts := atoms_spec (ws := w_Mover_push) B.pre
  have hown : s.vm.findClass R_Mover = some m.cls := findClass_of_methodNamed B.named
  have hlocks := B.notSynchronized
  subst hsz
  have hD := hD0.self (sz := s.heap.size)
  generalize hAe : va_A [(hmv, .inr (2, [.ref hq, .ref ha, .ref hr0, .ref hp, .ref hn0, .ref hox, .ref hoy, .ref hou, .ref hov, .int rd])), (hp, .inr (4, [.ref hq, .ref ha, .ref hso0, .ref hb0, .ref hfx, .ref hfy, .double cut])), (ha, .inr (0, [.ref hax, .ref hay, .ref hau, .ref hav, .ref ham, .ref has, .ref hak, .int (nI n)])), (hax, .inl (cD, 10, .inr (.inr (.inr (.inl x))))), (hay, .inl (cD, 10, .inr (.inr (.inr (.inl y))))), (hau, .inl (cD, 10, .inr (.inr (.inr (.inl u))))), (hav, .inl (cD, 10, .inr (.inr (.inr (.inl v))))), (ham, .inl (cD, 10, .inr (.inr (.inr (.inl mass))))), (has, .inl (cI, 10, .inl sort)), (hak, .inl (cZ, 10, .inl stuck)), (hfx, .inl (cD, 10, .inr (.inr (.inr (.inl fx))))), (hfy, .inl (cD, 10, .inr (.inr (.inr (.inl fy)))))] s.heap.size = A at hD ⊢
  have hA : ∀ q : Nat, s.heap.size ≤ q → A q := fun q h => by rw [← hAe]; exact Or.inr h
  have hS : va_S A s.heap s.heap [] := va_S.rf
  have hl := lv_entry ([.ref hmv, .double dt]) (n := 4) (Nat.le_of_ble_eq_true rfl)
  rw [lg_entry_eq]
  generalize (lg_sl ([.ref hmv, .double dt]) ++ List.replicate (4 - (lg_sl ([.ref hmv, .double dt])).length) Slot.unset).toArray = ls at hl ⊢
  have hl : lv_has ls 4 [(0, .ref hmv), (1, .double dt)] := hl
  obtain ⟨H, hH⟩ : ∃ H, H = s.heap := ⟨_, rfl⟩
  rw [← hH] at hP
  have hS : va_S A s.heap H [] := by rw [hH]; exact hS
  refine gx_start hH ?_
  refine lv_iconst (v := nI 0) hx hb d_Mover_push_0 (by decide) ?_
  refine lv_istore_n (lv' := [(3, .int (nI 0)), (0, .ref hmv), (1, .double dt)]) hx hb d_Mover_push_1 rfl hl (by decide) rfl (fun ls hl => ?_)
  have ez0 := pb_fill_0 (pb_pushf dt u fx mass stuck) u
  have ez1 := pb_fill_0 (pb_pushf dt v fy mass stuck) v
  have hP : va_P (dC, dI) classes [(hmv, .inr (2, [.ref hq, .ref ha, .ref hr0, .ref hp, .ref hn0, .ref hox, .ref hoy, .ref hou, .ref hov, .int rd])), (hp, .inr (4, [.ref hq, .ref ha, .ref hso0, .ref hb0, .ref hfx, .ref hfy, .double cut])), (ha, .inr (0, [.ref hax, .ref hay, .ref hau, .ref hav, .ref ham, .ref has, .ref hak, .int (nI n)])), (hax, .inl (cD, 10, .inr (.inr (.inr (.inl x))))), (hay, .inl (cD, 10, .inr (.inr (.inr (.inl y))))), (hau, .inl (cD, 10, .inr (.inr (.inr (.inl (pb_fill (pb_pushf dt u fx mass stuck) u 0)))))), (hav, .inl (cD, 10, .inr (.inr (.inr (.inl (pb_fill (pb_pushf dt v fy mass stuck) v 0)))))), (ham, .inl (cD, 10, .inr (.inr (.inr (.inl mass))))), (has, .inl (cI, 10, .inl sort)), (hak, .inl (cZ, 10, .inl stuck)), (hfx, .inl (cD, 10, .inr (.inr (.inr (.inl fx))))), (hfy, .inl (cD, 10, .inr (.inr (.inr (.inl fy)))))] H := by rw [ez0, ez1]; exact hP
  have hD : va_D A [(hmv, .inr (2, [.ref hq, .ref ha, .ref hr0, .ref hp, .ref hn0, .ref hox, .ref hoy, .ref hou, .ref hov, .int rd])), (hp, .inr (4, [.ref hq, .ref ha, .ref hso0, .ref hb0, .ref hfx, .ref hfy, .double cut])), (ha, .inr (0, [.ref hax, .ref hay, .ref hau, .ref hav, .ref ham, .ref has, .ref hak, .int (nI n)])), (hax, .inl (cD, 10, .inr (.inr (.inr (.inl x))))), (hay, .inl (cD, 10, .inr (.inr (.inr (.inl y))))), (hau, .inl (cD, 10, .inr (.inr (.inr (.inl (pb_fill (pb_pushf dt u fx mass stuck) u 0)))))), (hav, .inl (cD, 10, .inr (.inr (.inr (.inl (pb_fill (pb_pushf dt v fy mass stuck) v 0)))))), (ham, .inl (cD, 10, .inr (.inr (.inr (.inl mass))))), (has, .inl (cI, 10, .inl sort)), (hak, .inl (cZ, 10, .inl stuck)), (hfx, .inl (cD, 10, .inr (.inr (.inr (.inl fx))))), (hfy, .inl (cD, 10, .inr (.inr (.inr (.inl fy)))))] := by rw [ez0, ez1]; exact hD
  refine gx_loop (fun (i : Nat) (H : Heap) (locs : List Loc) (ls : Array Slot) => va_P (dC, dI) classes [(hmv, .inr (2, [.ref hq, .ref ha, .ref hr0, .ref hp, .ref hn0, .ref hox, .ref hoy, .ref hou, .ref hov, .int rd])), (hp, .inr (4, [.ref hq, .ref ha, .ref hso0, .ref hb0, .ref hfx, .ref hfy, .double cut])), (ha, .inr (0, [.ref hax, .ref hay, .ref hau, .ref hav, .ref ham, .ref has, .ref hak, .int (nI n)])), (hax, .inl (cD, 10, .inr (.inr (.inr (.inl x))))), (hay, .inl (cD, 10, .inr (.inr (.inr (.inl y))))), (hau, .inl (cD, 10, .inr (.inr (.inr (.inl (pb_fill (pb_pushf dt u fx mass stuck) u i)))))), (hav, .inl (cD, 10, .inr (.inr (.inr (.inl (pb_fill (pb_pushf dt v fy mass stuck) v i)))))), (ham, .inl (cD, 10, .inr (.inr (.inr (.inl mass))))), (has, .inl (cI, 10, .inl sort)), (hak, .inl (cZ, 10, .inl stuck)), (hfx, .inl (cD, 10, .inr (.inr (.inr (.inl fx))))), (hfy, .inl (cD, 10, .inr (.inr (.inr (.inl fy)))))] H ∧ va_D A [(hmv, .inr (2, [.ref hq, .ref ha, .ref hr0, .ref hp, .ref hn0, .ref hox, .ref hoy, .ref hou, .ref hov, .int rd])), (hp, .inr (4, [.ref hq, .ref ha, .ref hso0, .ref hb0, .ref hfx, .ref hfy, .double cut])), (ha, .inr (0, [.ref hax, .ref hay, .ref hau, .ref hav, .ref ham, .ref has, .ref hak, .int (nI n)])), (hax, .inl (cD, 10, .inr (.inr (.inr (.inl x))))), (hay, .inl (cD, 10, .inr (.inr (.inr (.inl y))))), (hau, .inl (cD, 10, .inr (.inr (.inr (.inl (pb_fill (pb_pushf dt u fx mass stuck) u i)))))), (hav, .inl (cD, 10, .inr (.inr (.inr (.inl (pb_fill (pb_pushf dt v fy mass stuck) v i)))))), (ham, .inl (cD, 10, .inr (.inr (.inr (.inl mass))))), (has, .inl (cI, 10, .inl sort)), (hak, .inl (cZ, 10, .inl stuck)), (hfx, .inl (cD, 10, .inr (.inr (.inr (.inl fx))))), (hfy, .inl (cD, 10, .inr (.inr (.inr (.inl fy)))))] ∧ va_S A s.heap H locs ∧ lv_has ls 4 [(3, .int (nI i)), (1, .double dt), (0, .ref hmv)] ∧ (i ≤ n)) (fun (i : Nat) => n - i) (fun N K2 xx H locs ls hI hmu => ?_) 0 ?_
  rotate_left
  · skip
    refine ⟨hP.sub [0, 1, 2, 3, 4, 5, 6, 7, 8, 9, 10, 11] rfl, hD.sub [0, 1, 2, 3, 4, 5, 6, 7, 8, 9, 10, 11] (by decide) rfl, hS, lv_sub hl [0, 2, 1] rfl, (by omega)⟩
  obtain ⟨i, rfl⟩ : ∃ zz, zz = xx := ⟨_, rfl⟩
  obtain ⟨hP, hD, hS, hl, hi⟩ := hI
  try dsimp only at hmu
  refine lv_iload_n hx hb d_Mover_push_2 rfl (lv_at hl 0 rfl) ?_
  refine lv_aload_n hx hb d_Mover_push_3 rfl (lv_at hl 2 rfl) ?_
  refine va_get (D := (dC, dI)) (ci := 2) (v := .ref ha) (C := R_Mover) (T := F_Mover) (N := 10) hx hb hts (fun w h => List.mem_cons_of_mem _ (i_Mover w h)) hown hK hP 0 rfl rfl 1 (by decide) (hts _ (List.mem_cons_of_mem _ kw_290)) (fun _ h9 => h9) rfl d_Mover_push_4 ?_
  refine va_get (D := (dC, dI)) (ci := 0) (v := .int (nI n)) (C := R_Atoms) (T := F_Atoms) (N := 8) hx hb hts (fun w h => List.mem_cons_of_mem _ (i_Atoms w h)) hown hK hP 2 rfl rfl 7 (by decide) (hts _ (List.mem_cons_of_mem _ kw_141)) (fun _ h9 => h9) rfl d_Mover_push_7 ?_
  refine lv_icmp_ge (tgt := 119) hx hb d_Mover_push_10 (by decide) (fun c10 => ?_) (fun c10 => ?_)
  · skip
    have c10 : n ≤ i := (nI_leI (a := n) (b := i) (by omega) (by omega)).mp c10
    obtain rfl : n = i := by omega
    have hP9 := hP.sub (ws' := [(hmv, .inr (2, [.ref hq, .ref ha, .ref hr0, .ref hp, .ref hn0, .ref hox, .ref hoy, .ref hou, .ref hov, .int rd])), (hp, .inr (4, [.ref hq, .ref ha, .ref hso0, .ref hb0, .ref hfx, .ref hfy, .double cut])), (ha, .inr (0, [.ref hax, .ref hay, .ref hau, .ref hav, .ref ham, .ref has, .ref hak, .int (nI n)])), (hax, .inl (cD, 10, .inr (.inr (.inr (.inl x))))), (hay, .inl (cD, 10, .inr (.inr (.inr (.inl y))))), (hau, .inl (cD, 10, .inr (.inr (.inr (.inl (pb_fill (pb_pushf dt u fx mass stuck) u n)))))), (hav, .inl (cD, 10, .inr (.inr (.inr (.inl (pb_fill (pb_pushf dt v fy mass stuck) v n)))))), (ham, .inl (cD, 10, .inr (.inr (.inr (.inl mass))))), (has, .inl (cI, 10, .inl sort)), (hak, .inl (cZ, 10, .inl stuck)), (hfx, .inl (cD, 10, .inr (.inr (.inr (.inl fx))))), (hfy, .inl (cD, 10, .inr (.inr (.inr (.inl fy)))))]) [0, 1, 2, 3, 4, 5, 6, 7, 8, 9, 10, 11] rfl
    have hD9 := hD.sub (ws' := [(hmv, .inr (2, [.ref hq, .ref ha, .ref hr0, .ref hp, .ref hn0, .ref hox, .ref hoy, .ref hou, .ref hov, .int rd])), (hp, .inr (4, [.ref hq, .ref ha, .ref hso0, .ref hb0, .ref hfx, .ref hfy, .double cut])), (ha, .inr (0, [.ref hax, .ref hay, .ref hau, .ref hav, .ref ham, .ref has, .ref hak, .int (nI n)])), (hax, .inl (cD, 10, .inr (.inr (.inr (.inl x))))), (hay, .inl (cD, 10, .inr (.inr (.inr (.inl y))))), (hau, .inl (cD, 10, .inr (.inr (.inr (.inl (pb_fill (pb_pushf dt u fx mass stuck) u n)))))), (hav, .inl (cD, 10, .inr (.inr (.inr (.inl (pb_fill (pb_pushf dt v fy mass stuck) v n)))))), (ham, .inl (cD, 10, .inr (.inr (.inr (.inl mass))))), (has, .inl (cI, 10, .inl sort)), (hak, .inl (cZ, 10, .inl stuck)), (hfx, .inl (cD, 10, .inr (.inr (.inr (.inl fx))))), (hfy, .inl (cD, 10, .inr (.inr (.inr (.inl fy)))))]) [0, 1, 2, 3, 4, 5, 6, 7, 8, 9, 10, 11] (by decide) rfl
    exact W.vret hx hb hr (fun t ht hW => ⟨⟨(), rfl, trivial, by rw [ht]; exact hP9, va_K.moved hW.alike hK, hD9⟩, hS.F ht⟩) hS.2.2 d_Mover_push_119
  · skip
    have c10 : ¬ n ≤ i := fun h => c10 ((nI_leI (a := n) (b := i) (by omega) (by omega)).mpr h)
    refine lv_aload_n hx hb d_Mover_push_13 rfl (lv_at hl 2 rfl) ?_
    refine va_get (D := (dC, dI)) (ci := 2) (v := .ref ha) (C := R_Mover) (T := F_Mover) (N := 10) hx hb hts (fun w h => List.mem_cons_of_mem _ (i_Mover w h)) hown hK hP 0 rfl rfl 1 (by decide) (hts _ (List.mem_cons_of_mem _ kw_290)) (fun _ h9 => h9) rfl d_Mover_push_14 ?_
    refine va_get (D := (dC, dI)) (ci := 0) (v := .ref hak) (C := R_Atoms) (T := F_Atoms) (N := 8) hx hb hts (fun w h => List.mem_cons_of_mem _ (i_Atoms w h)) hown hK hP 2 rfl rfl 6 (by decide) (hts _ (List.mem_cons_of_mem _ kw_135)) (fun _ h9 => h9) rfl d_Mover_push_17 ?_
    refine lv_iload_n hx hb d_Mover_push_20 rfl (lv_at hl 0 rfl) ?_
    refine gx_zald hx hb hK hP 9 2 rfl rfl (by omega) (by decide) d_Mover_push_21 ?_
    refine lv_if_ne (tgt := 113) hx hb d_Mover_push_22 (by decide) (fun c22 => ?_) (fun c22 => ?_)
    · skip
      have eb0 := pb_fill_k (pb_pushf dt u fx mass stuck) u i (by unfold pb_pushf; rw [if_neg c22])
      have eb1 := pb_fill_k (pb_pushf dt v fy mass stuck) v i (by unfold pb_pushf; rw [if_neg c22])
      have hP : va_P (dC, dI) classes [(hmv, .inr (2, [.ref hq, .ref ha, .ref hr0, .ref hp, .ref hn0, .ref hox, .ref hoy, .ref hou, .ref hov, .int rd])), (hp, .inr (4, [.ref hq, .ref ha, .ref hso0, .ref hb0, .ref hfx, .ref hfy, .double cut])), (ha, .inr (0, [.ref hax, .ref hay, .ref hau, .ref hav, .ref ham, .ref has, .ref hak, .int (nI n)])), (hax, .inl (cD, 10, .inr (.inr (.inr (.inl x))))), (hay, .inl (cD, 10, .inr (.inr (.inr (.inl y))))), (hau, .inl (cD, 10, .inr (.inr (.inr (.inl (pb_fill (pb_pushf dt u fx mass stuck) u (i + 1))))))), (hav, .inl (cD, 10, .inr (.inr (.inr (.inl (pb_fill (pb_pushf dt v fy mass stuck) v (i + 1))))))), (ham, .inl (cD, 10, .inr (.inr (.inr (.inl mass))))), (has, .inl (cI, 10, .inl sort)), (hak, .inl (cZ, 10, .inl stuck)), (hfx, .inl (cD, 10, .inr (.inr (.inr (.inl fx))))), (hfy, .inl (cD, 10, .inr (.inr (.inr (.inl fy)))))] H := by rw [← eb0, ← eb1]; exact hP
      have hD : va_D A [(hmv, .inr (2, [.ref hq, .ref ha, .ref hr0, .ref hp, .ref hn0, .ref hox, .ref hoy, .ref hou, .ref hov, .int rd])), (hp, .inr (4, [.ref hq, .ref ha, .ref hso0, .ref hb0, .ref hfx, .ref hfy, .double cut])), (ha, .inr (0, [.ref hax, .ref hay, .ref hau, .ref hav, .ref ham, .ref has, .ref hak, .int (nI n)])), (hax, .inl (cD, 10, .inr (.inr (.inr (.inl x))))), (hay, .inl (cD, 10, .inr (.inr (.inr (.inl y))))), (hau, .inl (cD, 10, .inr (.inr (.inr (.inl (pb_fill (pb_pushf dt u fx mass stuck) u (i + 1))))))), (hav, .inl (cD, 10, .inr (.inr (.inr (.inl (pb_fill (pb_pushf dt v fy mass stuck) v (i + 1))))))), (ham, .inl (cD, 10, .inr (.inr (.inr (.inl mass))))), (has, .inl (cI, 10, .inl sort)), (hak, .inl (cZ, 10, .inl stuck)), (hfx, .inl (cD, 10, .inr (.inr (.inr (.inl fx))))), (hfy, .inl (cD, 10, .inr (.inr (.inr (.inl fy)))))] := by rw [← eb0, ← eb1]; exact hD
      refine lv_iinc (v := nI (i + 1)) (lv' := [(3, .int (nI (i + 1))), (1, .double dt), (0, .ref hmv)]) hx hb d_Mover_push_113 hl (k := 0) rfl (nI_1 i) (by decide) rfl (fun ls hl => ?_)
      refine lv_goto (tgt := 2) hx hb d_Mover_push_116 (by decide) ?_
      exact K2 (i + 1) _ _ _ ⟨hP.sub [0, 1, 2, 3, 4, 5, 6, 7, 8, 9, 10, 11] rfl, hD.sub [0, 1, 2, 3, 4, 5, 6, 7, 8, 9, 10, 11] (by decide) rfl, hS, lv_sub hl [0, 1, 2] rfl, (by omega)⟩ (by omega)
    · skip
      refine lv_aload_n hx hb d_Mover_push_25 rfl (lv_at hl 2 rfl) ?_
      refine va_get (D := (dC, dI)) (ci := 2) (v := .ref ha) (C := R_Mover) (T := F_Mover) (N := 10) hx hb hts (fun w h => List.mem_cons_of_mem _ (i_Mover w h)) hown hK hP 0 rfl rfl 1 (by decide) (hts _ (List.mem_cons_of_mem _ kw_290)) (fun _ h9 => h9) rfl d_Mover_push_26 ?_
      refine va_get (D := (dC, dI)) (ci := 0) (v := .ref hau) (C := R_Atoms) (T := F_Atoms) (N := 8) hx hb hts (fun w h => List.mem_cons_of_mem _ (i_Atoms w h)) hown hK hP 2 rfl rfl 2 (by decide) (hts _ (List.mem_cons_of_mem _ kw_123)) (fun _ h9 => h9) rfl d_Mover_push_29 ?_
      refine lv_iload_n hx hb d_Mover_push_32 rfl (lv_at hl 0 rfl) ?_
      refine lv_aload_n hx hb d_Mover_push_33 rfl (lv_at hl 2 rfl) ?_
      refine va_get (D := (dC, dI)) (ci := 2) (v := .ref ha) (C := R_Mover) (T := F_Mover) (N := 10) hx hb hts (fun w h => List.mem_cons_of_mem _ (i_Mover w h)) hown hK hP 0 rfl rfl 1 (by decide) (hts _ (List.mem_cons_of_mem _ kw_290)) (fun _ h9 => h9) rfl d_Mover_push_34 ?_
      refine va_get (D := (dC, dI)) (ci := 0) (v := .ref hau) (C := R_Atoms) (T := F_Atoms) (N := 8) hx hb hts (fun w h => List.mem_cons_of_mem _ (i_Atoms w h)) hown hK hP 2 rfl rfl 2 (by decide) (hts _ (List.mem_cons_of_mem _ kw_123)) (fun _ h9 => h9) rfl d_Mover_push_37 ?_
      refine lv_iload_n hx hb d_Mover_push_40 rfl (lv_at hl 0 rfl) ?_
      refine gx_dald hx hb hK hP 5 1 rfl rfl (by omega) (by decide) d_Mover_push_41 ?_
      rw [pb_fill_ge _ _ (Nat.le_refl i)]
      have g_1 := huI i (by omega)
      refine lv_ldc2d (v := 4602678819172646912) hx hb hown (hts (.constantDouble R_Mover 119 4602678819172646912) (by decide +kernel)) d_Mover_push_42 ?_
      refine lv_dload_n hx hb d_Mover_push_45 rfl (lv_at hl 1 rfl) ?_
      have g_2 := fp_const (a := 4602678819172646912) (T := (fp_d 1 1073)) (by decide +kernel)
      have g_3 := fp_I_mul (fp_d 1 1063) (fp_d 1 1070) g_2 hdt (by decide +kernel)
      refine lv_dmul hx hb d_Mover_push_46 g_3.n ?_
      refine lv_aload_n hx hb d_Mover_push_47 rfl (lv_at hl 2 rfl) ?_
      refine va_get (D := (dC, dI)) (ci := 2) (v := .ref hp) (C := R_Mover) (T := F_Mover) (N := 10) hx hb hts (fun w h => List.mem_cons_of_mem _ (i_Mover w h)) hown hK hP 0 rfl rfl 3 (by decide) (hts _ (List.mem_cons_of_mem _ kw_292)) (fun _ h9 => h9) rfl d_Mover_push_48 ?_
      refine va_get (D := (dC, dI)) (ci := 4) (v := .ref hfx) (C := R_Pulls) (T := F_Pulls) (N := 7) hx hb hts (fun w h => List.mem_cons_of_mem _ (i_Pulls w h)) hown hK hP 1 rfl rfl 4 (by decide) (hts _ (List.mem_cons_of_mem _ kw_229)) (fun _ h9 => h9) rfl d_Mover_push_51 ?_
      refine lv_iload_n hx hb d_Mover_push_54 rfl (lv_at hl 0 rfl) ?_
      refine gx_dald hx hb hK hP 10 1 rfl rfl (by omega) (by decide) d_Mover_push_55 ?_
      have g_4 := hFx i (by omega)
      refine lv_aload_n hx hb d_Mover_push_56 rfl (lv_at hl 2 rfl) ?_
      refine va_get (D := (dC, dI)) (ci := 2) (v := .ref ha) (C := R_Mover) (T := F_Mover) (N := 10) hx hb hts (fun w h => List.mem_cons_of_mem _ (i_Mover w h)) hown hK hP 0 rfl rfl 1 (by decide) (hts _ (List.mem_cons_of_mem _ kw_290)) (fun _ h9 => h9) rfl d_Mover_push_57 ?_
      refine va_get (D := (dC, dI)) (ci := 0) (v := .ref ham) (C := R_Atoms) (T := F_Atoms) (N := 8) hx hb hts (fun w h => List.mem_cons_of_mem _ (i_Atoms w h)) hown hK hP 2 rfl rfl 4 (by decide) (hts _ (List.mem_cons_of_mem _ kw_129)) (fun _ h9 => h9) rfl d_Mover_push_60 ?_
      refine lv_iload_n hx hb d_Mover_push_63 rfl (lv_at hl 0 rfl) ?_
      refine gx_dald hx hb hK hP 7 1 rfl rfl (by omega) (by decide) d_Mover_push_64 ?_
      have g_5 := hmI i (by omega)
      have g_6 := fp_I_div (fp_d (-9) 1210) (fp_d 9 1210) g_4 g_5 (by decide +kernel)
      refine lv_ddiv hx hb d_Mover_push_65 g_6.n ?_
      have g_7 := fp_I_mul (fp_d (-9) 1206) (fp_d 9 1206) g_3 g_6 (by decide +kernel)
      refine lv_dmul hx hb d_Mover_push_66 g_7.n ?_
      have g_8 := fp_I_add (fp_d (-9437185) 1186) (fp_d 9437185 1186) g_1 g_7 (by decide +kernel)
      refine lv_dadd hx hb d_Mover_push_67 g_8.n ?_
      refine gx_dast hx hb hK hP hD hS 5 1 rfl rfl (by omega) (by decide) d_Mover_push_68 (fun H locs hP hD hS => ?_)
      have hP : va_P (dC, dI) classes [(hmv, .inr (2, [.ref hq, .ref ha, .ref hr0, .ref hp, .ref hn0, .ref hox, .ref hoy, .ref hou, .ref hov, .int rd])), (hp, .inr (4, [.ref hq, .ref ha, .ref hso0, .ref hb0, .ref hfx, .ref hfy, .double cut])), (ha, .inr (0, [.ref hax, .ref hay, .ref hau, .ref hav, .ref ham, .ref has, .ref hak, .int (nI n)])), (hax, .inl (cD, 10, .inr (.inr (.inr (.inl x))))), (hay, .inl (cD, 10, .inr (.inr (.inr (.inl y))))), (hau, .inl (cD, 10, .inr (.inr (.inr (.inl (vf_upd (pb_fill (pb_pushf dt u fx mass stuck) u i) i (FP.dadd (u i) (FP.dmul (FP.dmul 4602678819172646912 dt) (FP.ddiv (fx i) (mass i)))))))))), (hav, .inl (cD, 10, .inr (.inr (.inr (.inl (pb_fill (pb_pushf dt v fy mass stuck) v i)))))), (ham, .inl (cD, 10, .inr (.inr (.inr (.inl mass))))), (has, .inl (cI, 10, .inl sort)), (hak, .inl (cZ, 10, .inl stuck)), (hfx, .inl (cD, 10, .inr (.inr (.inr (.inl fx))))), (hfy, .inl (cD, 10, .inr (.inr (.inr (.inl fy)))))] H := hP
      have hD : va_D A [(hmv, .inr (2, [.ref hq, .ref ha, .ref hr0, .ref hp, .ref hn0, .ref hox, .ref hoy, .ref hou, .ref hov, .int rd])), (hp, .inr (4, [.ref hq, .ref ha, .ref hso0, .ref hb0, .ref hfx, .ref hfy, .double cut])), (ha, .inr (0, [.ref hax, .ref hay, .ref hau, .ref hav, .ref ham, .ref has, .ref hak, .int (nI n)])), (hax, .inl (cD, 10, .inr (.inr (.inr (.inl x))))), (hay, .inl (cD, 10, .inr (.inr (.inr (.inl y))))), (hau, .inl (cD, 10, .inr (.inr (.inr (.inl (vf_upd (pb_fill (pb_pushf dt u fx mass stuck) u i) i (FP.dadd (u i) (FP.dmul (FP.dmul 4602678819172646912 dt) (FP.ddiv (fx i) (mass i)))))))))), (hav, .inl (cD, 10, .inr (.inr (.inr (.inl (pb_fill (pb_pushf dt v fy mass stuck) v i)))))), (ham, .inl (cD, 10, .inr (.inr (.inr (.inl mass))))), (has, .inl (cI, 10, .inl sort)), (hak, .inl (cZ, 10, .inl stuck)), (hfx, .inl (cD, 10, .inr (.inr (.inr (.inl fx))))), (hfy, .inl (cD, 10, .inr (.inr (.inr (.inl fy)))))] := hD
      refine lv_aload_n hx hb d_Mover_push_69 rfl (lv_at hl 2 rfl) ?_
      refine va_get (D := (dC, dI)) (ci := 2) (v := .ref ha) (C := R_Mover) (T := F_Mover) (N := 10) hx hb hts (fun w h => List.mem_cons_of_mem _ (i_Mover w h)) hown hK hP 0 rfl rfl 1 (by decide) (hts _ (List.mem_cons_of_mem _ kw_290)) (fun _ h9 => h9) rfl d_Mover_push_70 ?_
      refine va_get (D := (dC, dI)) (ci := 0) (v := .ref hav) (C := R_Atoms) (T := F_Atoms) (N := 8) hx hb hts (fun w h => List.mem_cons_of_mem _ (i_Atoms w h)) hown hK hP 2 rfl rfl 3 (by decide) (hts _ (List.mem_cons_of_mem _ kw_126)) (fun _ h9 => h9) rfl d_Mover_push_73 ?_
      refine lv_iload_n hx hb d_Mover_push_76 rfl (lv_at hl 0 rfl) ?_
      refine lv_aload_n hx hb d_Mover_push_77 rfl (lv_at hl 2 rfl) ?_
      refine va_get (D := (dC, dI)) (ci := 2) (v := .ref ha) (C := R_Mover) (T := F_Mover) (N := 10) hx hb hts (fun w h => List.mem_cons_of_mem _ (i_Mover w h)) hown hK hP 0 rfl rfl 1 (by decide) (hts _ (List.mem_cons_of_mem _ kw_290)) (fun _ h9 => h9) rfl d_Mover_push_78 ?_
      refine va_get (D := (dC, dI)) (ci := 0) (v := .ref hav) (C := R_Atoms) (T := F_Atoms) (N := 8) hx hb hts (fun w h => List.mem_cons_of_mem _ (i_Atoms w h)) hown hK hP 2 rfl rfl 3 (by decide) (hts _ (List.mem_cons_of_mem _ kw_126)) (fun _ h9 => h9) rfl d_Mover_push_81 ?_
      refine lv_iload_n hx hb d_Mover_push_84 rfl (lv_at hl 0 rfl) ?_
      refine gx_dald hx hb hK hP 6 1 rfl rfl (by omega) (by decide) d_Mover_push_85 ?_
      rw [pb_fill_ge _ _ (Nat.le_refl i)]
      have g_9 := hvI i (by omega)
      refine lv_ldc2d (v := 4602678819172646912) hx hb hown (hts (.constantDouble R_Mover 119 4602678819172646912) (by decide +kernel)) d_Mover_push_86 ?_
      refine lv_dload_n hx hb d_Mover_push_89 rfl (lv_at hl 1 rfl) ?_
      refine lv_dmul hx hb d_Mover_push_90 g_3.n ?_
      refine lv_aload_n hx hb d_Mover_push_91 rfl (lv_at hl 2 rfl) ?_
      refine va_get (D := (dC, dI)) (ci := 2) (v := .ref hp) (C := R_Mover) (T := F_Mover) (N := 10) hx hb hts (fun w h => List.mem_cons_of_mem _ (i_Mover w h)) hown hK hP 0 rfl rfl 3 (by decide) (hts _ (List.mem_cons_of_mem _ kw_292)) (fun _ h9 => h9) rfl d_Mover_push_92 ?_
      refine va_get (D := (dC, dI)) (ci := 4) (v := .ref hfy) (C := R_Pulls) (T := F_Pulls) (N := 7) hx hb hts (fun w h => List.mem_cons_of_mem _ (i_Pulls w h)) hown hK hP 1 rfl rfl 5 (by decide) (hts _ (List.mem_cons_of_mem _ kw_232)) (fun _ h9 => h9) rfl d_Mover_push_95 ?_
      refine lv_iload_n hx hb d_Mover_push_98 rfl (lv_at hl 0 rfl) ?_
      refine gx_dald hx hb hK hP 11 1 rfl rfl (by omega) (by decide) d_Mover_push_99 ?_
      have g_10 := hFy i (by omega)
      refine lv_aload_n hx hb d_Mover_push_100 rfl (lv_at hl 2 rfl) ?_
      refine va_get (D := (dC, dI)) (ci := 2) (v := .ref ha) (C := R_Mover) (T := F_Mover) (N := 10) hx hb hts (fun w h => List.mem_cons_of_mem _ (i_Mover w h)) hown hK hP 0 rfl rfl 1 (by decide) (hts _ (List.mem_cons_of_mem _ kw_290)) (fun _ h9 => h9) rfl d_Mover_push_101 ?_
      refine va_get (D := (dC, dI)) (ci := 0) (v := .ref ham) (C := R_Atoms) (T := F_Atoms) (N := 8) hx hb hts (fun w h => List.mem_cons_of_mem _ (i_Atoms w h)) hown hK hP 2 rfl rfl 4 (by decide) (hts _ (List.mem_cons_of_mem _ kw_129)) (fun _ h9 => h9) rfl d_Mover_push_104 ?_
      refine lv_iload_n hx hb d_Mover_push_107 rfl (lv_at hl 0 rfl) ?_
      refine gx_dald hx hb hK hP 7 1 rfl rfl (by omega) (by decide) d_Mover_push_108 ?_
      have g_11 := fp_I_div (fp_d (-9) 1210) (fp_d 9 1210) g_10 g_5 (by decide +kernel)
      refine lv_ddiv hx hb d_Mover_push_109 g_11.n ?_
      have g_12 := fp_I_mul (fp_d (-9) 1206) (fp_d 9 1206) g_3 g_11 (by decide +kernel)
      refine lv_dmul hx hb d_Mover_push_110 g_12.n ?_
      have g_13 := fp_I_add (fp_d (-9437185) 1186) (fp_d 9437185 1186) g_9 g_12 (by decide +kernel)
      refine lv_dadd hx hb d_Mover_push_111 g_13.n ?_
      refine gx_dast hx hb hK hP hD hS 6 1 rfl rfl (by omega) (by decide) d_Mover_push_112 (fun H locs hP hD hS => ?_)
      have hP : va_P (dC, dI) classes [(hmv, .inr (2, [.ref hq, .ref ha, .ref hr0, .ref hp, .ref hn0, .ref hox, .ref hoy, .ref hou, .ref hov, .int rd])), (hp, .inr (4, [.ref hq, .ref ha, .ref hso0, .ref hb0, .ref hfx, .ref hfy, .double cut])), (ha, .inr (0, [.ref hax, .ref hay, .ref hau, .ref hav, .ref ham, .ref has, .ref hak, .int (nI n)])), (hax, .inl (cD, 10, .inr (.inr (.inr (.inl x))))), (hay, .inl (cD, 10, .inr (.inr (.inr (.inl y))))), (hau, .inl (cD, 10, .inr (.inr (.inr (.inl (vf_upd (pb_fill (pb_pushf dt u fx mass stuck) u i) i (FP.dadd (u i) (FP.dmul (FP.dmul 4602678819172646912 dt) (FP.ddiv (fx i) (mass i)))))))))), (hav, .inl (cD, 10, .inr (.inr (.inr (.inl (vf_upd (pb_fill (pb_pushf dt v fy mass stuck) v i) i (FP.dadd (v i) (FP.dmul (FP.dmul 4602678819172646912 dt) (FP.ddiv (fy i) (mass i)))))))))), (ham, .inl (cD, 10, .inr (.inr (.inr (.inl mass))))), (has, .inl (cI, 10, .inl sort)), (hak, .inl (cZ, 10, .inl stuck)), (hfx, .inl (cD, 10, .inr (.inr (.inr (.inl fx))))), (hfy, .inl (cD, 10, .inr (.inr (.inr (.inl fy)))))] H := hP
      have hD : va_D A [(hmv, .inr (2, [.ref hq, .ref ha, .ref hr0, .ref hp, .ref hn0, .ref hox, .ref hoy, .ref hou, .ref hov, .int rd])), (hp, .inr (4, [.ref hq, .ref ha, .ref hso0, .ref hb0, .ref hfx, .ref hfy, .double cut])), (ha, .inr (0, [.ref hax, .ref hay, .ref hau, .ref hav, .ref ham, .ref has, .ref hak, .int (nI n)])), (hax, .inl (cD, 10, .inr (.inr (.inr (.inl x))))), (hay, .inl (cD, 10, .inr (.inr (.inr (.inl y))))), (hau, .inl (cD, 10, .inr (.inr (.inr (.inl (vf_upd (pb_fill (pb_pushf dt u fx mass stuck) u i) i (FP.dadd (u i) (FP.dmul (FP.dmul 4602678819172646912 dt) (FP.ddiv (fx i) (mass i)))))))))), (hav, .inl (cD, 10, .inr (.inr (.inr (.inl (vf_upd (pb_fill (pb_pushf dt v fy mass stuck) v i) i (FP.dadd (v i) (FP.dmul (FP.dmul 4602678819172646912 dt) (FP.ddiv (fy i) (mass i)))))))))), (ham, .inl (cD, 10, .inr (.inr (.inr (.inl mass))))), (has, .inl (cI, 10, .inl sort)), (hak, .inl (cZ, 10, .inl stuck)), (hfx, .inl (cD, 10, .inr (.inr (.inr (.inl fx))))), (hfy, .inl (cD, 10, .inr (.inr (.inr (.inl fy)))))] := hD
      have ea0 : FP.dadd (u i) (FP.dmul (FP.dmul 4602678819172646912 dt) (FP.ddiv (fx i) (mass i))) = (pb_pushf dt u fx mass stuck) i := by unfold pb_pushf; rw [if_pos c22]
      have eb0 := pb_fill_s (pb_pushf dt u fx mass stuck) u i
      have ea1 : FP.dadd (v i) (FP.dmul (FP.dmul 4602678819172646912 dt) (FP.ddiv (fy i) (mass i))) = (pb_pushf dt v fy mass stuck) i := by unfold pb_pushf; rw [if_pos c22]
      have eb1 := pb_fill_s (pb_pushf dt v fy mass stuck) v i
      have hP : va_P (dC, dI) classes [(hmv, .inr (2, [.ref hq, .ref ha, .ref hr0, .ref hp, .ref hn0, .ref hox, .ref hoy, .ref hou, .ref hov, .int rd])), (hp, .inr (4, [.ref hq, .ref ha, .ref hso0, .ref hb0, .ref hfx, .ref hfy, .double cut])), (ha, .inr (0, [.ref hax, .ref hay, .ref hau, .ref hav, .ref ham, .ref has, .ref hak, .int (nI n)])), (hax, .inl (cD, 10, .inr (.inr (.inr (.inl x))))), (hay, .inl (cD, 10, .inr (.inr (.inr (.inl y))))), (hau, .inl (cD, 10, .inr (.inr (.inr (.inl (pb_fill (pb_pushf dt u fx mass stuck) u (i + 1))))))), (hav, .inl (cD, 10, .inr (.inr (.inr (.inl (pb_fill (pb_pushf dt v fy mass stuck) v (i + 1))))))), (ham, .inl (cD, 10, .inr (.inr (.inr (.inl mass))))), (has, .inl (cI, 10, .inl sort)), (hak, .inl (cZ, 10, .inl stuck)), (hfx, .inl (cD, 10, .inr (.inr (.inr (.inl fx))))), (hfy, .inl (cD, 10, .inr (.inr (.inr (.inl fy)))))] H := by rw [← eb0, ← ea0, ← eb1, ← ea1]; exact hP
      have hD : va_D A [(hmv, .inr (2, [.ref hq, .ref ha, .ref hr0, .ref hp, .ref hn0, .ref hox, .ref hoy, .ref hou, .ref hov, .int rd])), (hp, .inr (4, [.ref hq, .ref ha, .ref hso0, .ref hb0, .ref hfx, .ref hfy, .double cut])), (ha, .inr (0, [.ref hax, .ref hay, .ref hau, .ref hav, .ref ham, .ref has, .ref hak, .int (nI n)])), (hax, .inl (cD, 10, .inr (.inr (.inr (.inl x))))), (hay, .inl (cD, 10, .inr (.inr (.inr (.inl y))))), (hau, .inl (cD, 10, .inr (.inr (.inr (.inl (pb_fill (pb_pushf dt u fx mass stuck) u (i + 1))))))), (hav, .inl (cD, 10, .inr (.inr (.inr (.inl (pb_fill (pb_pushf dt v fy mass stuck) v (i + 1))))))), (ham, .inl (cD, 10, .inr (.inr (.inr (.inl mass))))), (has, .inl (cI, 10, .inl sort)), (hak, .inl (cZ, 10, .inl stuck)), (hfx, .inl (cD, 10, .inr (.inr (.inr (.inl fx))))), (hfy, .inl (cD, 10, .inr (.inr (.inr (.inl fy)))))] := by rw [← eb0, ← ea0, ← eb1, ← ea1]; exact hD
      refine lv_iinc (v := nI (i + 1)) (lv' := [(3, .int (nI (i + 1))), (1, .double dt), (0, .ref hmv)]) hx hb d_Mover_push_113 hl (k := 0) rfl (nI_1 i) (by decide) rfl (fun ls hl => ?_)
      refine lv_goto (tgt := 2) hx hb d_Mover_push_116 (by decide) ?_
      exact K2 (i + 1) _ _ _ ⟨hP.sub [0, 1, 2, 3, 4, 5, 6, 7, 8, 9, 10, 11] rfl, hD.sub [0, 1, 2, 3, 4, 5, 6, 7, 8, 9, 10, 11] (by decide) rfl, hS, lv_sub hl [0, 1, 2] rfl, (by omega)⟩ (by omega)
set_option maxHeartbeats 4000000 in
set_option maxRecDepth 100000 in
/-- drift -/
theorem c_Mover_drift (l : Launch) (dC : Nat → ClassId) (dI : Nat → Nat → Nat) (cI cD cZ : ClassId) (sz : Nat) (hmv : Nat) (hr0 : Nat) (hp : Nat) (hn0 : Nat) (hox : Nat) (hoy : Nat) (hou : Nat) (hov : Nat) (rd : Int32) (hq : Nat) (ha : Nat) (hax : Nat) (hay : Nat) (hau : Nat) (hav : Nat) (ham : Nat) (has : Nat) (hak : Nat) (x : Nat → UInt64) (y : Nat → UInt64) (u : Nat → UInt64) (v : Nat → UInt64) (mass : Nat → UInt64) (sort : Nat → Int32) (stuck : Nat → Int32) (n : Nat) (dt : UInt64) (hn : n ≤ 10) (hdt : pb_Idt dt) (hX : ∀ i, i < n → pb_Ip (x i)) (hY : ∀ i, i < n → pb_Ip (y i)) (huS : ∀ i, i < n → pb_Is (u i)) (hvS : ∀ i, i < n → pb_Is (v i)) : Met l y_Mover_drift w_Mover_drift ({ frames := 0, cells := 0, slots := 0, locals := 0 }) (va_Pc [.ref hmv, .double dt] (gx_B (dC, dI) classes (gx_T cI cD cZ) [(hmv, .inr (2, [.ref hq, .ref ha, .ref hr0, .ref hp, .ref hn0, .ref hox, .ref hoy, .ref hou, .ref hov, .int rd])), (ha, .inr (0, [.ref hax, .ref hay, .ref hau, .ref hav, .ref ham, .ref has, .ref hak, .int (nI n)])), (hax, .inl (cD, 10, .inr (.inr (.inr (.inl x))))), (hay, .inl (cD, 10, .inr (.inr (.inr (.inl y))))), (hau, .inl (cD, 10, .inr (.inr (.inr (.inl u))))), (hav, .inl (cD, 10, .inr (.inr (.inr (.inl v))))), (ham, .inl (cD, 10, .inr (.inr (.inr (.inl mass))))), (has, .inl (cI, 10, .inl sort)), (hak, .inl (cZ, 10, .inl stuck))] sz)) (va_Qv (fun (uu : Unit) => True) (fun (uu : Unit) t => gx_E (dC, dI) classes (gx_T cI cD cZ) (va_A [(hmv, .inr (2, [.ref hq, .ref ha, .ref hr0, .ref hp, .ref hn0, .ref hox, .ref hoy, .ref hou, .ref hov, .int rd])), (ha, .inr (0, [.ref hax, .ref hay, .ref hau, .ref hav, .ref ham, .ref has, .ref hak, .int (nI n)])), (hax, .inl (cD, 10, .inr (.inr (.inr (.inl x))))), (hay, .inl (cD, 10, .inr (.inr (.inr (.inl y))))), (hau, .inl (cD, 10, .inr (.inr (.inr (.inl u))))), (hav, .inl (cD, 10, .inr (.inr (.inr (.inl v))))), (ham, .inl (cD, 10, .inr (.inr (.inr (.inl mass))))), (has, .inl (cI, 10, .inl sort)), (hak, .inl (cZ, 10, .inl stuck))] sz) [(hmv, .inr (2, [.ref hq, .ref ha, .ref hr0, .ref hp, .ref hn0, .ref hox, .ref hoy, .ref hou, .ref hov, .int rd])), (ha, .inr (0, [.ref hax, .ref hay, .ref hau, .ref hav, .ref ham, .ref has, .ref hak, .int (nI n)])), (hax, .inl (cD, 10, .inr (.inr (.inr (.inl (pb_fill (pb_drif dt x u stuck) x n)))))), (hay, .inl (cD, 10, .inr (.inr (.inr (.inl (pb_fill (pb_drif dt y v stuck) y n)))))), (hau, .inl (cD, 10, .inr (.inr (.inr (.inl u))))), (hav, .inl (cD, 10, .inr (.inr (.inr (.inl v))))), (ham, .inl (cD, 10, .inr (.inr (.inr (.inl mass))))), (has, .inl (cI, 10, .inl sort)), (hak, .inl (cZ, 10, .inl stuck))] t) (va_A [(hmv, .inr (2, [.ref hq, .ref ha, .ref hr0, .ref hp, .ref hn0, .ref hox, .ref hoy, .ref hou, .ref hov, .int rd])), (ha, .inr (0, [.ref hax, .ref hay, .ref hau, .ref hav, .ref ham, .ref has, .ref hak, .int (nI n)])), (hax, .inl (cD, 10, .inr (.inr (.inr (.inl x))))), (hay, .inl (cD, 10, .inr (.inr (.inr (.inl y))))), (hau, .inl (cD, 10, .inr (.inr (.inr (.inl u))))), (hav, .inl (cD, 10, .inr (.inr (.inr (.inl v))))), (ham, .inl (cD, 10, .inr (.inr (.inr (.inl mass))))), (has, .inl (cI, 10, .inl sort)), (hak, .inl (cZ, 10, .inl stuck))] sz)) 0 0 (va_A [(hmv, .inr (2, [.ref hq, .ref ha, .ref hr0, .ref hp, .ref hn0, .ref hox, .ref hoy, .ref hou, .ref hov, .int rd])), (ha, .inr (0, [.ref hax, .ref hay, .ref hau, .ref hav, .ref ham, .ref has, .ref hak, .int (nI n)])), (hax, .inl (cD, 10, .inr (.inr (.inr (.inl x))))), (hay, .inl (cD, 10, .inr (.inr (.inr (.inl y))))), (hau, .inl (cD, 10, .inr (.inr (.inr (.inl u))))), (hav, .inl (cD, 10, .inr (.inr (.inr (.inl v))))), (ham, .inl (cD, 10, .inr (.inr (.inr (.inl mass))))), (has, .inl (cI, 10, .inl sort)), (hak, .inl (cZ, 10, .inl stuck))] sz) := by
  refine Met.ofW (cc := b_Mover_drift) (maxL := 4) (ret := none) (by decide) rfl ?_
  intro p e s m args below meth c s₁ B hml hv
  obtain ⟨rfl, hsz, hP, hK, hD0, hN⟩ := hv
  have hx := B.exec
  have hb := B.bytes
  have hr := B.returns
  have hts := atoms_spec (ws := w_Mover_drift) B.pre
  have hown : s.vm.findClass R_Mover = some m.cls := findClass_of_methodNamed B.named
  have hlocks := B.notSynchronized
  subst hsz
  have hD := hD0.self (sz := s.heap.size)
  generalize hAe : va_A [(hmv, .inr (2, [.ref hq, .ref ha, .ref hr0, .ref hp, .ref hn0, .ref hox, .ref hoy, .ref hou, .ref hov, .int rd])), (ha, .inr (0, [.ref hax, .ref hay, .ref hau, .ref hav, .ref ham, .ref has, .ref hak, .int (nI n)])), (hax, .inl (cD, 10, .inr (.inr (.inr (.inl x))))), (hay, .inl (cD, 10, .inr (.inr (.inr (.inl y))))), (hau, .inl (cD, 10, .inr (.inr (.inr (.inl u))))), (hav, .inl (cD, 10, .inr (.inr (.inr (.inl v))))), (ham, .inl (cD, 10, .inr (.inr (.inr (.inl mass))))), (has, .inl (cI, 10, .inl sort)), (hak, .inl (cZ, 10, .inl stuck))] s.heap.size = A at hD ⊢
  have hA : ∀ q : Nat, s.heap.size ≤ q → A q := fun q h => by rw [← hAe]; exact Or.inr h
  have hS : va_S A s.heap s.heap [] := va_S.rf
  have hl := lv_entry ([.ref hmv, .double dt]) (n := 4) (Nat.le_of_ble_eq_true rfl)
  rw [lg_entry_eq]
  generalize (lg_sl ([.ref hmv, .double dt]) ++ List.replicate (4 - (lg_sl ([.ref hmv, .double dt])).length) Slot.unset).toArray = ls at hl ⊢
  have hl : lv_has ls 4 [(0, .ref hmv), (1, .double dt)] := hl
  obtain ⟨H, hH⟩ : ∃ H, H = s.heap := ⟨_, rfl⟩
  rw [← hH] at hP
  have hS : va_S A s.heap H [] := by rw [hH]; exact hS
  refine gx_start hH ?_
  refine lv_iconst (v := nI 0) hx hb d_Mover_drift_0 (by decide) ?_
  refine lv_istore_n (lv' := [(3, .int (nI 0)), (0, .ref hmv), (1, .double dt)]) hx hb d_Mover_drift_1 rfl hl (by decide) rfl (fun ls hl => ?_)
  have ez0 := pb_fill_0 (pb_drif dt x u stuck) x
  have ez1 := pb_fill_0 (pb_drif dt y v stuck) y
  have hP : va_P (dC, dI) classes [(hmv, .inr (2, [.ref hq, .ref ha, .ref hr0, .ref hp, .ref hn0, .ref hox, .ref hoy, .ref hou, .ref hov, .int rd])), (ha, .inr (0, [.ref hax, .ref hay, .ref hau, .ref hav, .ref ham, .ref has, .ref hak, .int (nI n)])), (hax, .inl (cD, 10, .inr (.inr (.inr (.inl (pb_fill (pb_drif dt x u stuck) x 0)))))), (hay, .inl (cD, 10, .inr (.inr (.inr (.inl (pb_fill (pb_drif dt y v stuck) y 0)))))), (hau, .inl (cD, 10, .inr (.inr (.inr (.inl u))))), (hav, .inl (cD, 10, .inr (.inr (.inr (.inl v))))), (ham, .inl (cD, 10, .inr (.inr (.inr (.inl mass))))), (has, .inl (cI, 10, .inl sort)), (hak, .inl (cZ, 10, .inl stuck))] H := by rw [ez0, ez1]; exact hP
  have hD : va_D A [(hmv, .inr (2, [.ref hq, .ref ha, .ref hr0, .ref hp, .ref hn0, .ref hox, .ref hoy, .ref hou, .ref hov, .int rd])), (ha, .inr (0, [.ref hax, .ref hay, .ref hau, .ref hav, .ref ham, .ref has, .ref hak, .int (nI n)])), (hax, .inl (cD, 10, .inr (.inr (.inr (.inl (pb_fill (pb_drif dt x u stuck) x 0)))))), (hay, .inl (cD, 10, .inr (.inr (.inr (.inl (pb_fill (pb_drif dt y v stuck) y 0)))))), (hau, .inl (cD, 10, .inr (.inr (.inr (.inl u))))), (hav, .inl (cD, 10, .inr (.inr (.inr (.inl v))))), (ham, .inl (cD, 10, .inr (.inr (.inr (.inl mass))))), (has, .inl (cI, 10, .inl sort)), (hak, .inl (cZ, 10, .inl stuck))] := by rw [ez0, ez1]; exact hD
  refine gx_loop (fun (i : Nat) (H : Heap) (locs : List Loc) (ls : Array Slot) => va_P (dC, dI) classes [(hmv, .inr (2, [.ref hq, .ref ha, .ref hr0, .ref hp, .ref hn0, .ref hox, .ref hoy, .ref hou, .ref hov, .int rd])), (ha, .inr (0, [.ref hax, .ref hay, .ref hau, .ref hav, .ref ham, .ref has, .ref hak, .int (nI n)])), (hax, .inl (cD, 10, .inr (.inr (.inr (.inl (pb_fill (pb_drif dt x u stuck) x i)))))), (hay, .inl (cD, 10, .inr (.inr (.inr (.inl (pb_fill (pb_drif dt y v stuck) y i)))))), (hau, .inl (cD, 10, .inr (.inr (.inr (.inl u))))), (hav, .inl (cD, 10, .inr (.inr (.inr (.inl v))))), (ham, .inl (cD, 10, .inr (.inr (.inr (.inl mass))))), (has, .inl (cI, 10, .inl sort)), (hak, .inl (cZ, 10, .inl stuck))] H ∧ va_D A [(hmv, .inr (2, [.ref hq, .ref ha, .ref hr0, .ref hp, .ref hn0, .ref hox, .ref hoy, .ref hou, .ref hov, .int rd])), (ha, .inr (0, [.ref hax, .ref hay, .ref hau, .ref hav, .ref ham, .ref has, .ref hak, .int (nI n)])), (hax, .inl (cD, 10, .inr (.inr (.inr (.inl (pb_fill (pb_drif dt x u stuck) x i)))))), (hay, .inl (cD, 10, .inr (.inr (.inr (.inl (pb_fill (pb_drif dt y v stuck) y i)))))), (hau, .inl (cD, 10, .inr (.inr (.inr (.inl u))))), (hav, .inl (cD, 10, .inr (.inr (.inr (.inl v))))), (ham, .inl (cD, 10, .inr (.inr (.inr (.inl mass))))), (has, .inl (cI, 10, .inl sort)), (hak, .inl (cZ, 10, .inl stuck))] ∧ va_S A s.heap H locs ∧ lv_has ls 4 [(3, .int (nI i)), (1, .double dt), (0, .ref hmv)] ∧ (i ≤ n)) (fun (i : Nat) => n - i) (fun N K2 xx H locs ls hI hmu => ?_) 0 ?_
  rotate_left
  · skip
    refine ⟨hP.sub [0, 1, 2, 3, 4, 5, 6, 7, 8] rfl, hD.sub [0, 1, 2, 3, 4, 5, 6, 7, 8] (by decide) rfl, hS, lv_sub hl [0, 2, 1] rfl, (by omega)⟩
  obtain ⟨i, rfl⟩ : ∃ zz, zz = xx := ⟨_, rfl⟩
  obtain ⟨hP, hD, hS, hl, hi⟩ := hI
  try dsimp only at hmu
  refine lv_iload_n hx hb d_Mover_drift_2 rfl (lv_at hl 0 rfl) ?_
  refine lv_aload_n hx hb d_Mover_drift_3 rfl (lv_at hl 2 rfl) ?_
  refine va_get (D := (dC, dI)) (ci := 2) (v := .ref ha) (C := R_Mover) (T := F_Mover) (N := 10) hx hb hts (fun w h => List.mem_cons_of_mem _ (i_Mover w h)) hown hK hP 0 rfl rfl 1 (by decide) (hts _ (List.mem_cons_of_mem _ kw_290)) (fun _ h9 => h9) rfl d_Mover_drift_4 ?_
  refine va_get (D := (dC, dI)) (ci := 0) (v := .int (nI n)) (C := R_Atoms) (T := F_Atoms) (N := 8) hx hb hts (fun w h => List.mem_cons_of_mem _ (i_Atoms w h)) hown hK hP 1 rfl rfl 7 (by decide) (hts _ (List.mem_cons_of_mem _ kw_141)) (fun _ h9 => h9) rfl d_Mover_drift_7 ?_
  refine lv_icmp_ge (tgt := 91) hx hb d_Mover_drift_10 (by decide) (fun c10 => ?_) (fun c10 => ?_)
  · skip
    have c10 : n ≤ i := (nI_leI (a := n) (b := i) (by omega) (by omega)).mp c10
    obtain rfl : n = i := by omega
    have hP9 := hP.sub (ws' := [(hmv, .inr (2, [.ref hq, .ref ha, .ref hr0, .ref hp, .ref hn0, .ref hox, .ref hoy, .ref hou, .ref hov, .int rd])), (ha, .inr (0, [.ref hax, .ref hay, .ref hau, .ref hav, .ref ham, .ref has, .ref hak, .int (nI n)])), (hax, .inl (cD, 10, .inr (.inr (.inr (.inl (pb_fill (pb_drif dt x u stuck) x n)))))), (hay, .inl (cD, 10, .inr (.inr (.inr (.inl (pb_fill (pb_drif dt y v stuck) y n)))))), (hau, .inl (cD, 10, .inr (.inr (.inr (.inl u))))), (hav, .inl (cD, 10, .inr (.inr (.inr (.inl v))))), (ham, .inl (cD, 10, .inr (.inr (.inr (.inl mass))))), (has, .inl (cI, 10, .inl sort)), (hak, .inl (cZ, 10, .inl stuck))]) [0, 1, 2, 3, 4, 5, 6, 7, 8] rfl
    have hD9 := hD.sub (ws' := [(hmv, .inr (2, [.ref hq, .ref ha, .ref hr0, .ref hp, .ref hn0, .ref hox, .ref hoy, .ref hou, .ref hov, .int rd])), (ha, .inr (0, [.ref hax, .ref hay, .ref hau, .ref hav, .ref ham, .ref has, .ref hak, .int (nI n)])), (hax, .inl (cD, 10, .inr (.inr (.inr (.inl (pb_fill (pb_drif dt x u stuck) x n)))))), (hay, .inl (cD, 10, .inr (.inr (.inr (.inl (pb_fill (pb_drif dt y v stuck) y n)))))), (hau, .inl (cD, 10, .inr (.inr (.inr (.inl u))))), (hav, .inl (cD, 10, .inr (.inr (.inr (.inl v))))), (ham, .inl (cD, 10, .inr (.inr (.inr (.inl mass))))), (has, .inl (cI, 10, .inl sort)), (hak, .inl (cZ, 10, .inl stuck))]) [0, 1, 2, 3, 4, 5, 6, 7, 8] (by decide) rfl
    exact W.vret hx hb hr (fun t ht hW => ⟨⟨(), rfl, trivial, by rw [ht]; exact hP9, va_K.moved hW.alike hK, hD9⟩, hS.F ht⟩) hS.2.2 d_Mover_drift_91
  · skip
    have c10 : ¬ n ≤ i := fun h => c10 ((nI_leI (a := n) (b := i) (by omega) (by omega)).mpr h)
    refine lv_aload_n hx hb d_Mover_drift_13 rfl (lv_at hl 2 rfl) ?_
    refine va_get (D := (dC, dI)) (ci := 2) (v := .ref ha) (C := R_Mover) (T := F_Mover) (N := 10) hx hb hts (fun w h => List.mem_cons_of_mem _ (i_Mover w h)) hown hK hP 0 rfl rfl 1 (by decide) (hts _ (List.mem_cons_of_mem _ kw_290)) (fun _ h9 => h9) rfl d_Mover_drift_14 ?_
    refine va_get (D := (dC, dI)) (ci := 0) (v := .ref hak) (C := R_Atoms) (T := F_Atoms) (N := 8) hx hb hts (fun w h => List.mem_cons_of_mem _ (i_Atoms w h)) hown hK hP 1 rfl rfl 6 (by decide) (hts _ (List.mem_cons_of_mem _ kw_135)) (fun _ h9 => h9) rfl d_Mover_drift_17 ?_
    refine lv_iload_n hx hb d_Mover_drift_20 rfl (lv_at hl 0 rfl) ?_
    refine gx_zald hx hb hK hP 8 2 rfl rfl (by omega) (by decide) d_Mover_drift_21 ?_
    refine lv_if_ne (tgt := 85) hx hb d_Mover_drift_22 (by decide) (fun c22 => ?_) (fun c22 => ?_)
    · skip
      have eb0 := pb_fill_k (pb_drif dt x u stuck) x i (by unfold pb_drif; rw [if_neg c22])
      have eb1 := pb_fill_k (pb_drif dt y v stuck) y i (by unfold pb_drif; rw [if_neg c22])
      have hP : va_P (dC, dI) classes [(hmv, .inr (2, [.ref hq, .ref ha, .ref hr0, .ref hp, .ref hn0, .ref hox, .ref hoy, .ref hou, .ref hov, .int rd])), (ha, .inr (0, [.ref hax, .ref hay, .ref hau, .ref hav, .ref ham, .ref has, .ref hak, .int (nI n)])), (hax, .inl (cD, 10, .inr (.inr (.inr (.inl (pb_fill (pb_drif dt x u stuck) x (i + 1))))))), (hay, .inl (cD, 10, .inr (.inr (.inr (.inl (pb_fill (pb_drif dt y v stuck) y (i + 1))))))), (hau, .inl (cD, 10, .inr (.inr (.inr (.inl u))))), (hav, .inl (cD, 10, .inr (.inr (.inr (.inl v))))), (ham, .inl (cD, 10, .inr (.inr (.inr (.inl mass))))), (has, .inl (cI, 10, .inl sort)), (hak, .inl (cZ, 10, .inl stuck))] H := by rw [← eb0, ← eb1]; exact hP
      have hD : va_D A [(hmv, .inr (2, [.ref hq, .ref ha, .ref hr0, .ref hp, .ref hn0, .ref hox, .ref hoy, .ref hou, .ref hov, .int rd])), (ha, .inr (0, [.ref hax, .ref hay, .ref hau, .ref hav, .ref ham, .ref has, .ref hak, .int (nI n)])), (hax, .inl (cD, 10, .inr (.inr (.inr (.inl (pb_fill (pb_drif dt x u stuck) x (i + 1))))))), (hay, .inl (cD, 10, .inr (.inr (.inr (.inl (pb_fill (pb_drif dt y v stuck) y (i + 1))))))), (hau, .inl (cD, 10, .inr (.inr (.inr (.inl u))))), (hav, .inl (cD, 10, .inr (.inr (.inr (.inl v))))), (ham, .inl (cD, 10, .inr (.inr (.inr (.inl mass))))), (has, .inl (cI, 10, .inl sort)), (hak, .inl (cZ, 10, .inl stuck))] := by rw [← eb0, ← eb1]; exact hD
      refine lv_iinc (v := nI (i + 1)) (lv' := [(3, .int (nI (i + 1))), (1, .double dt), (0, .ref hmv)]) hx hb d_Mover_drift_85 hl (k := 0) rfl (nI_1 i) (by decide) rfl (fun ls hl => ?_)
      refine lv_goto (tgt := 2) hx hb d_Mover_drift_88 (by decide) ?_
      exact K2 (i + 1) _ _ _ ⟨hP.sub [0, 1, 2, 3, 4, 5, 6, 7, 8] rfl, hD.sub [0, 1, 2, 3, 4, 5, 6, 7, 8] (by decide) rfl, hS, lv_sub hl [0, 1, 2] rfl, (by omega)⟩ (by omega)
    · skip
      refine lv_aload_n hx hb d_Mover_drift_25 rfl (lv_at hl 2 rfl) ?_
      refine va_get (D := (dC, dI)) (ci := 2) (v := .ref ha) (C := R_Mover) (T := F_Mover) (N := 10) hx hb hts (fun w h => List.mem_cons_of_mem _ (i_Mover w h)) hown hK hP 0 rfl rfl 1 (by decide) (hts _ (List.mem_cons_of_mem _ kw_290)) (fun _ h9 => h9) rfl d_Mover_drift_26 ?_
      refine va_get (D := (dC, dI)) (ci := 0) (v := .ref hax) (C := R_Atoms) (T := F_Atoms) (N := 8) hx hb hts (fun w h => List.mem_cons_of_mem _ (i_Atoms w h)) hown hK hP 1 rfl rfl 0 (by decide) (hts _ (List.mem_cons_of_mem _ kw_113)) (fun _ h9 => h9) rfl d_Mover_drift_29 ?_
      refine lv_iload_n hx hb d_Mover_drift_32 rfl (lv_at hl 0 rfl) ?_
      refine lv_aload_n hx hb d_Mover_drift_33 rfl (lv_at hl 2 rfl) ?_
      refine va_get (D := (dC, dI)) (ci := 2) (v := .ref ha) (C := R_Mover) (T := F_Mover) (N := 10) hx hb hts (fun w h => List.mem_cons_of_mem _ (i_Mover w h)) hown hK hP 0 rfl rfl 1 (by decide) (hts _ (List.mem_cons_of_mem _ kw_290)) (fun _ h9 => h9) rfl d_Mover_drift_34 ?_
      refine va_get (D := (dC, dI)) (ci := 0) (v := .ref hax) (C := R_Atoms) (T := F_Atoms) (N := 8) hx hb hts (fun w h => List.mem_cons_of_mem _ (i_Atoms w h)) hown hK hP 1 rfl rfl 0 (by decide) (hts _ (List.mem_cons_of_mem _ kw_113)) (fun _ h9 => h9) rfl d_Mover_drift_37 ?_
      refine lv_iload_n hx hb d_Mover_drift_40 rfl (lv_at hl 0 rfl) ?_
      refine gx_dald hx hb hK hP 2 1 rfl rfl (by omega) (by decide) d_Mover_drift_41 ?_
      rw [pb_fill_ge _ _ (Nat.le_refl i)]
      have g_1 := hX i (by omega)
      refine lv_dload_n hx hb d_Mover_drift_42 rfl (lv_at hl 1 rfl) ?_
      refine lv_aload_n hx hb d_Mover_drift_43 rfl (lv_at hl 2 rfl) ?_
      refine va_get (D := (dC, dI)) (ci := 2) (v := .ref ha) (C := R_Mover) (T := F_Mover) (N := 10) hx hb hts (fun w h => List.mem_cons_of_mem _ (i_Mover w h)) hown hK hP 0 rfl rfl 1 (by decide) (hts _ (List.mem_cons_of_mem _ kw_290)) (fun _ h9 => h9) rfl d_Mover_drift_44 ?_
      refine va_get (D := (dC, dI)) (ci := 0) (v := .ref hau) (C := R_Atoms) (T := F_Atoms) (N := 8) hx hb hts (fun w h => List.mem_cons_of_mem _ (i_Atoms w h)) hown hK hP 1 rfl rfl 2 (by decide) (hts _ (List.mem_cons_of_mem _ kw_123)) (fun _ h9 => h9) rfl d_Mover_drift_47 ?_
      refine lv_iload_n hx hb d_Mover_drift_50 rfl (lv_at hl 0 rfl) ?_
      refine gx_dald hx hb hK hP 4 1 rfl rfl (by omega) (by decide) d_Mover_drift_51 ?_
      have g_2 := huS i (by omega)
      have g_3 := fp_I_mul (fp_d (-15625) 1077) (fp_d 15625 1077) hdt g_2 (by decide +kernel)
      refine lv_dmul hx hb d_Mover_drift_52 g_3.n ?_
      have g_4 := fp_I_add (fp_d (-125001) 1074) (fp_d 15629 1077) g_1 g_3 (by decide +kernel)
      refine lv_dadd hx hb d_Mover_drift_53 g_4.n ?_
      refine gx_dast hx hb hK hP hD hS 2 1 rfl rfl (by omega) (by decide) d_Mover_drift_54 (fun H locs hP hD hS => ?_)
      have hP : va_P (dC, dI) classes [(hmv, .inr (2, [.ref hq, .ref ha, .ref hr0, .ref hp, .ref hn0, .ref hox, .ref hoy, .ref hou, .ref hov, .int rd])), (ha, .inr (0, [.ref hax, .ref hay, .ref hau, .ref hav, .ref ham, .ref has, .ref hak, .int (nI n)])), (hax, .inl (cD, 10, .inr (.inr (.inr (.inl (vf_upd (pb_fill (pb_drif dt x u stuck) x i) i (FP.dadd (x i) (FP.dmul dt (u i))))))))), (hay, .inl (cD, 10, .inr (.inr (.inr (.inl (pb_fill (pb_drif dt y v stuck) y i)))))), (hau, .inl (cD, 10, .inr (.inr (.inr (.inl u))))), (hav, .inl (cD, 10, .inr (.inr (.inr (.inl v))))), (ham, .inl (cD, 10, .inr (.inr (.inr (.inl mass))))), (has, .inl (cI, 10, .inl sort)), (hak, .inl (cZ, 10, .inl stuck))] H := hP
      have hD : va_D A [(hmv, .inr (2, [.ref hq, .ref ha, .ref hr0, .ref hp, .ref hn0, .ref hox, .ref hoy, .ref hou, .ref hov, .int rd])), (ha, .inr (0, [.ref hax, .ref hay, .ref hau, .ref hav, .ref ham, .ref has, .ref hak, .int (nI n)])), (hax, .inl (cD, 10, .inr (.inr (.inr (.inl (vf_upd (pb_fill (pb_drif dt x u stuck) x i) i (FP.dadd (x i) (FP.dmul dt (u i))))))))), (hay, .inl (cD, 10, .inr (.inr (.inr (.inl (pb_fill (pb_drif dt y v stuck) y i)))))), (hau, .inl (cD, 10, .inr (.inr (.inr (.inl u))))), (hav, .inl (cD, 10, .inr (.inr (.inr (.inl v))))), (ham, .inl (cD, 10, .inr (.inr (.inr (.inl mass))))), (has, .inl (cI, 10, .inl sort)), (hak, .inl (cZ, 10, .inl stuck))] := hD
      refine lv_aload_n hx hb d_Mover_drift_55 rfl (lv_at hl 2 rfl) ?_
      refine va_get (D := (dC, dI)) (ci := 2) (v := .ref ha) (C := R_Mover) (T := F_Mover) (N := 10) hx hb hts (fun w h => List.mem_cons_of_mem _ (i_Mover w h)) hown hK hP 0 rfl rfl 1 (by decide) (hts _ (List.mem_cons_of_mem _ kw_290)) (fun _ h9 => h9) rfl d_Mover_drift_56 ?_
      refine va_get (D := (dC, dI)) (ci := 0) (v := .ref hay) (C := R_Atoms) (T := F_Atoms) (N := 8) hx hb hts (fun w h => List.mem_cons_of_mem _ (i_Atoms w h)) hown hK hP 1 rfl rfl 1 (by decide) (hts _ (List.mem_cons_of_mem _ kw_118)) (fun _ h9 => h9) rfl d_Mover_drift_59 ?_
      refine lv_iload_n hx hb d_Mover_drift_62 rfl (lv_at hl 0 rfl) ?_
      refine lv_aload_n hx hb d_Mover_drift_63 rfl (lv_at hl 2 rfl) ?_
      refine va_get (D := (dC, dI)) (ci := 2) (v := .ref ha) (C := R_Mover) (T := F_Mover) (N := 10) hx hb hts (fun w h => List.mem_cons_of_mem _ (i_Mover w h)) hown hK hP 0 rfl rfl 1 (by decide) (hts _ (List.mem_cons_of_mem _ kw_290)) (fun _ h9 => h9) rfl d_Mover_drift_64 ?_
      refine va_get (D := (dC, dI)) (ci := 0) (v := .ref hay) (C := R_Atoms) (T := F_Atoms) (N := 8) hx hb hts (fun w h => List.mem_cons_of_mem _ (i_Atoms w h)) hown hK hP 1 rfl rfl 1 (by decide) (hts _ (List.mem_cons_of_mem _ kw_118)) (fun _ h9 => h9) rfl d_Mover_drift_67 ?_
      refine lv_iload_n hx hb d_Mover_drift_70 rfl (lv_at hl 0 rfl) ?_
      refine gx_dald hx hb hK hP 3 1 rfl rfl (by omega) (by decide) d_Mover_drift_71 ?_
      rw [pb_fill_ge _ _ (Nat.le_refl i)]
      have g_5 := hY i (by omega)
      refine lv_dload_n hx hb d_Mover_drift_72 rfl (lv_at hl 1 rfl) ?_
      refine lv_aload_n hx hb d_Mover_drift_73 rfl (lv_at hl 2 rfl) ?_
      refine va_get (D := (dC, dI)) (ci := 2) (v := .ref ha) (C := R_Mover) (T := F_Mover) (N := 10) hx hb hts (fun w h => List.mem_cons_of_mem _ (i_Mover w h)) hown hK hP 0 rfl rfl 1 (by decide) (hts _ (List.mem_cons_of_mem _ kw_290)) (fun _ h9 => h9) rfl d_Mover_drift_74 ?_
      refine va_get (D := (dC, dI)) (ci := 0) (v := .ref hav) (C := R_Atoms) (T := F_Atoms) (N := 8) hx hb hts (fun w h => List.mem_cons_of_mem _ (i_Atoms w h)) hown hK hP 1 rfl rfl 3 (by decide) (hts _ (List.mem_cons_of_mem _ kw_126)) (fun _ h9 => h9) rfl d_Mover_drift_77 ?_
      refine lv_iload_n hx hb d_Mover_drift_80 rfl (lv_at hl 0 rfl) ?_
      refine gx_dald hx hb hK hP 5 1 rfl rfl (by omega) (by decide) d_Mover_drift_81 ?_
      have g_6 := hvS i (by omega)
      have g_7 := fp_I_mul (fp_d (-15625) 1077) (fp_d 15625 1077) hdt g_6 (by decide +kernel)
      refine lv_dmul hx hb d_Mover_drift_82 g_7.n ?_
      have g_8 := fp_I_add (fp_d (-125001) 1074) (fp_d 15629 1077) g_5 g_7 (by decide +kernel)
      refine lv_dadd hx hb d_Mover_drift_83 g_8.n ?_
      refine gx_dast hx hb hK hP hD hS 3 1 rfl rfl (by omega) (by decide) d_Mover_drift_84 (fun H locs hP hD hS => ?_)
      have hP : va_P (dC, dI) classes [(hmv, .inr (2, [.ref hq, .ref ha, .ref hr0, .ref hp, .ref hn0, .ref hox, .ref hoy, .ref hou, .ref hov, .int rd])), (ha, .inr (0, [.ref hax, .ref hay, .ref hau, .ref hav, .ref ham, .ref has, .ref hak, .int (nI n)])), (hax, .inl (cD, 10, .inr (.inr (.inr (.inl (vf_upd (pb_fill (pb_drif dt x u stuck) x i) i (FP.dadd (x i) (FP.dmul dt (u i))))))))), (hay, .inl (cD, 10, .inr (.inr (.inr (.inl (vf_upd (pb_fill (pb_drif dt y v stuck) y i) i (FP.dadd (y i) (FP.dmul dt (v i))))))))), (hau, .inl (cD, 10, .inr (.inr (.inr (.inl u))))), (hav, .inl (cD, 10, .inr (.inr (.inr (.inl v))))), (ham, .inl (cD, 10, .inr (.inr (.inr (.inl mass))))), (has, .inl (cI, 10, .inl sort)), (hak, .inl (cZ, 10, .inl stuck))] H := hP
      have hD : va_D A [(hmv, .inr (2, [.ref hq, .ref ha, .ref hr0, .ref hp, .ref hn0, .ref hox, .ref hoy, .ref hou, .ref hov, .int rd])), (ha, .inr (0, [.ref hax, .ref hay, .ref hau, .ref hav, .ref ham, .ref has, .ref hak, .int (nI n)])), (hax, .inl (cD, 10, .inr (.inr (.inr (.inl (vf_upd (pb_fill (pb_drif dt x u stuck) x i) i (FP.dadd (x i) (FP.dmul dt (u i))))))))), (hay, .inl (cD, 10, .inr (.inr (.inr (.inl (vf_upd (pb_fill (pb_drif dt y v stuck) y i) i (FP.dadd (y i) (FP.dmul dt (v i))))))))), (hau, .inl (cD, 10, .inr (.inr (.inr (.inl u))))), (hav, .inl (cD, 10, .inr (.inr (.inr (.inl v))))), (ham, .inl (cD, 10, .inr (.inr (.inr (.inl mass))))), (has, .inl (cI, 10, .inl sort)), (hak, .inl (cZ, 10, .inl stuck))] := hD
      have ea0 : FP.dadd (x i) (FP.dmul dt (u i)) = (pb_drif dt x u stuck) i := by unfold pb_drif; rw [if_pos c22]
      have eb0 := pb_fill_s (pb_drif dt x u stuck) x i
      have ea1 : FP.dadd (y i) (FP.dmul dt (v i)) = (pb_drif dt y v stuck) i := by unfold pb_drif; rw [if_pos c22]
      have eb1 := pb_fill_s (pb_drif dt y v stuck) y i
      have hP : va_P (dC, dI) classes [(hmv, .inr (2, [.ref hq, .ref ha, .ref hr0, .ref hp, .ref hn0, .ref hox, .ref hoy, .ref hou, .ref hov, .int rd])), (ha, .inr (0, [.ref hax, .ref hay, .ref hau, .ref hav, .ref ham, .ref has, .ref hak, .int (nI n)])), (hax, .inl (cD, 10, .inr (.inr (.inr (.inl (pb_fill (pb_drif dt x u stuck) x (i + 1))))))), (hay, .inl (cD, 10, .inr (.inr (.inr (.inl (pb_fill (pb_drif dt y v stuck) y (i + 1))))))), (hau, .inl (cD, 10, .inr (.inr (.inr (.inl u))))), (hav, .inl (cD, 10, .inr (.inr (.inr (.inl v))))), (ham, .inl (cD, 10, .inr (.inr (.inr (.inl mass))))), (has, .inl (cI, 10, .inl sort)), (hak, .inl (cZ, 10, .inl stuck))] H := by rw [← eb0, ← ea0, ← eb1, ← ea1]; exact hP
      have hD : va_D A [(hmv, .inr (2, [.ref hq, .ref ha, .ref hr0, .ref hp, .ref hn0, .ref hox, .ref hoy, .ref hou, .ref hov, .int rd])), (ha, .inr (0, [.ref hax, .ref hay, .ref hau, .ref hav, .ref ham, .ref has, .ref hak, .int (nI n)])), (hax, .inl (cD, 10, .inr (.inr (.inr (.inl (pb_fill (pb_drif dt x u stuck) x (i + 1))))))), (hay, .inl (cD, 10, .inr (.inr (.inr (.inl (pb_fill (pb_drif dt y v stuck) y (i + 1))))))), (hau, .inl (cD, 10, .inr (.inr (.inr (.inl u))))), (hav, .inl (cD, 10, .inr (.inr (.inr (.inl v))))), (ham, .inl (cD, 10, .inr (.inr (.inr (.inl mass))))), (has, .inl (cI, 10, .inl sort)), (hak, .inl (cZ, 10, .inl stuck))] := by rw [← eb0, ← ea0, ← eb1, ← ea1]; exact hD
      refine lv_iinc (v := nI (i + 1)) (lv' := [(3, .int (nI (i + 1))), (1, .double dt), (0, .ref hmv)]) hx hb d_Mover_drift_85 hl (k := 0) rfl (nI_1 i) (by decide) rfl (fun ls hl => ?_)
      refine lv_goto (tgt := 2) hx hb d_Mover_drift_88 (by decide) ?_
      exact K2 (i + 1) _ _ _ ⟨hP.sub [0, 1, 2, 3, 4, 5, 6, 7, 8] rfl, hD.sub [0, 1, 2, 3, 4, 5, 6, 7, 8] (by decide) rfl, hS, lv_sub hl [0, 1, 2] rfl, (by omega)⟩ (by omega)
