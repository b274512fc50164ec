theorem d_Pulls_pullOfPair_0 : decode b_Pulls_pullOfPair 0 = .ok (.aload_n 0, 1) := by decide +kernel
theorem d_Pulls_pullOfPair_1 : decode b_Pulls_pullOfPair 1 = .ok (.getfield 18, 3) := by decide +kernel
theorem d_Pulls_pullOfPair_4 : decode b_Pulls_pullOfPair 4 = .ok (.getfield 55, 3) := by decide +kernel
theorem d_Pulls_pullOfPair_7 : decode b_Pulls_pullOfPair 7 = .ok (.dstore_n 3, 1) := by decide +kernel
theorem d_Pulls_pullOfPair_8 : decode b_Pulls_pullOfPair 8 = .ok (.aload_n 0, 1) := by decide +kernel
theorem d_Pulls_pullOfPair_9 : decode b_Pulls_pullOfPair 9 = .ok (.iload_n 1, 1) := by decide +kernel
theorem d_Pulls_pullOfPair_10 : decode b_Pulls_pullOfPair 10 = .ok (.iload_n 2, 1) := by decide +kernel
theorem d_Pulls_pullOfPair_11 : decode b_Pulls_pullOfPair 11 = .ok (.invokevirtual 117, 3) := by decide +kernel
theorem d_Pulls_pullOfPair_14 : decode b_Pulls_pullOfPair 14 = .ok (.dstore 5, 2) := by decide +kernel
theorem d_Pulls_pullOfPair_16 : decode b_Pulls_pullOfPair 16 = .ok (.aload_n 0, 1) := by decide +kernel
theorem d_Pulls_pullOfPair_17 : decode b_Pulls_pullOfPair 17 = .ok (.iload_n 1, 1) := by decide +kernel
theorem d_Pulls_pullOfPair_18 : decode b_Pulls_pullOfPair 18 = .ok (.iload_n 2, 1) := by decide +kernel
theorem d_Pulls_pullOfPair_19 : decode b_Pulls_pullOfPair 19 = .ok (.invokevirtual 120, 3) := by decide +kernel
theorem d_Pulls_pullOfPair_22 : decode b_Pulls_pullOfPair 22 = .ok (.dstore 7, 2) := by decide +kernel
theorem d_Pulls_pullOfPair_24 : decode b_Pulls_pullOfPair 24 = .ok (.aload_n 0, 1) := by decide +kernel
theorem d_Pulls_pullOfPair_25 : decode b_Pulls_pullOfPair 25 = .ok (.iload_n 1, 1) := by decide +kernel
theorem d_Pulls_pullOfPair_26 : decode b_Pulls_pullOfPair 26 = .ok (.iload_n 2, 1) := by decide +kernel
theorem d_Pulls_pullOfPair_27 : decode b_Pulls_pullOfPair 27 = .ok (.invokevirtual 123, 3) := by decide +kernel
theorem d_Pulls_pullOfPair_30 : decode b_Pulls_pullOfPair 30 = .ok (.dstore 9, 2) := by decide +kernel
theorem d_Pulls_pullOfPair_32 : decode b_Pulls_pullOfPair 32 = .ok (.ldc2_w 126, 3) := by decide +kernel
theorem d_Pulls_pullOfPair_35 : decode b_Pulls_pullOfPair 35 = .ok (.dload 5, 2) := by decide +kernel
theorem d_Pulls_pullOfPair_37 : decode b_Pulls_pullOfPair 37 = .ok (.dmul, 1) := by decide +kernel
theorem d_Pulls_pullOfPair_38 : decode b_Pulls_pullOfPair 38 = .ok (.dload 7, 2) := by decide +kernel
theorem d_Pulls_pullOfPair_40 : decode b_Pulls_pullOfPair 40 = .ok (.ldc2_w 128, 3) := by decide +kernel
theorem d_Pulls_pullOfPair_43 : decode b_Pulls_pullOfPair 43 = .ok (.dload 7, 2) := by decide +kernel
theorem d_Pulls_pullOfPair_45 : decode b_Pulls_pullOfPair 45 = .ok (.dmul, 1) := by decide +kernel
theorem d_Pulls_pullOfPair_46 : decode b_Pulls_pullOfPair 46 = .ok (.dload 7, 2) := by decide +kernel
theorem d_Pulls_pullOfPair_48 : decode b_Pulls_pullOfPair 48 = .ok (.dmul, 1) := by decide +kernel
theorem d_Pulls_pullOfPair_49 : decode b_Pulls_pullOfPair 49 = .ok (.dsub, 1) := by decide +kernel
theorem d_Pulls_pullOfPair_50 : decode b_Pulls_pullOfPair 50 = .ok (.dmul, 1) := by decide +kernel
theorem d_Pulls_pullOfPair_51 : decode b_Pulls_pullOfPair 51 = .ok (.dload_n 3, 1) := by decide +kernel
theorem d_Pulls_pullOfPair_52 : decode b_Pulls_pullOfPair 52 = .ok (.ddiv, 1) := by decide +kernel
theorem d_Pulls_pullOfPair_53 : decode b_Pulls_pullOfPair 53 = .ok (.ldc2_w 128, 3) := by decide +kernel
theorem d_Pulls_pullOfPair_56 : decode b_Pulls_pullOfPair 56 = .ok (.dload 9, 2) := by decide +kernel
theorem d_Pulls_pullOfPair_58 : decode b_Pulls_pullOfPair 58 = .ok (.dmul, 1) := by decide +kernel
theorem d_Pulls_pullOfPair_59 : decode b_Pulls_pullOfPair 59 = .ok (.dload_n 3, 1) := by decide +kernel
theorem d_Pulls_pullOfPair_60 : decode b_Pulls_pullOfPair 60 = .ok (.dload_n 3, 1) := by decide +kernel
theorem d_Pulls_pullOfPair_61 : decode b_Pulls_pullOfPair 61 = .ok (.dmul, 1) := by decide +kernel
theorem d_Pulls_pullOfPair_62 : decode b_Pulls_pullOfPair 62 = .ok (.ddiv, 1) := by decide +kernel
theorem d_Pulls_pullOfPair_63 : decode b_Pulls_pullOfPair 63 = .ok (.dsub, 1) := by decide +kernel
theorem d_Pulls_pullOfPair_64 : decode b_Pulls_pullOfPair 64 = .ok (.dreturn, 1) := by decide +kernel
theorem d_Pulls_energyOfPair_0 : decode b_Pulls_energyOfPair 0 = .ok (.aload_n 0, 1) := by decide +kernel
theorem d_Pulls_energyOfPair_1 : decode b_Pulls_energyOfPair 1 = .ok (.iload_n 1, 1) := by decide +kernel
theorem d_Pulls_energyOfPair_2 : decode b_Pulls_energyOfPair 2 = .ok (.iload_n 2, 1) := by decide +kernel
theorem d_Pulls_energyOfPair_3 : decode b_Pulls_energyOfPair 3 = .ok (.invokevirtual 117, 3) := by decide +kernel
theorem d_Pulls_energyOfPair_6 : decode b_Pulls_energyOfPair 6 = .ok (.dstore_n 3, 1) := by decide +kernel
theorem d_Pulls_energyOfPair_7 : decode b_Pulls_energyOfPair 7 = .ok (.aload_n 0, 1) := by decide +kernel
theorem d_Pulls_energyOfPair_8 : decode b_Pulls_energyOfPair 8 = .ok (.iload_n 1, 1) := by decide +kernel
theorem d_Pulls_energyOfPair_9 : decode b_Pulls_energyOfPair 9 = .ok (.iload_n 2, 1) := by decide +kernel
theorem d_Pulls_energyOfPair_10 : decode b_Pulls_energyOfPair 10 = .ok (.invokevirtual 120, 3) := by decide +kernel
theorem d_Pulls_energyOfPair_13 : decode b_Pulls_energyOfPair 13 = .ok (.dstore 5, 2) := by decide +kernel
theorem d_Pulls_energyOfPair_15 : decode b_Pulls_energyOfPair 15 = .ok (.aload_n 0, 1) := by decide +kernel
theorem d_Pulls_energyOfPair_16 : decode b_Pulls_energyOfPair 16 = .ok (.iload_n 1, 1) := by decide +kernel
theorem d_Pulls_energyOfPair_17 : decode b_Pulls_energyOfPair 17 = .ok (.iload_n 2, 1) := by decide +kernel
theorem d_Pulls_energyOfPair_18 : decode b_Pulls_energyOfPair 18 = .ok (.invokevirtual 123, 3) := by decide +kernel
theorem d_Pulls_energyOfPair_21 : decode b_Pulls_energyOfPair 21 = .ok (.dstore 7, 2) := by decide +kernel
theorem d_Pulls_energyOfPair_23 : decode b_Pulls_energyOfPair 23 = .ok (.ldc2_w 130, 3) := by decide +kernel
theorem d_Pulls_energyOfPair_26 : decode b_Pulls_energyOfPair 26 = .ok (.dload_n 3, 1) := by decide +kernel
theorem d_Pulls_energyOfPair_27 : decode b_Pulls_energyOfPair 27 = .ok (.dmul, 1) := by decide +kernel
theorem d_Pulls_energyOfPair_28 : decode b_Pulls_energyOfPair 28 = .ok (.dload 5, 2) := by decide +kernel
theorem d_Pulls_energyOfPair_30 : decode b_Pulls_energyOfPair 30 = .ok (.dload 5, 2) := by decide +kernel
theorem d_Pulls_energyOfPair_32 : decode b_Pulls_energyOfPair 32 = .ok (.dmul, 1) := by decide +kernel
theorem d_Pulls_energyOfPair_33 : decode b_Pulls_energyOfPair 33 = .ok (.dload 5, 2) := by decide +kernel
theorem d_Pulls_energyOfPair_35 : decode b_Pulls_energyOfPair 35 = .ok (.dsub, 1) := by decide +kernel
theorem d_Pulls_energyOfPair_36 : decode b_Pulls_energyOfPair 36 = .ok (.dmul, 1) := by decide +kernel
theorem d_Pulls_energyOfPair_37 : decode b_Pulls_energyOfPair 37 = .ok (.dload 7, 2) := by decide +kernel
theorem d_Pulls_energyOfPair_39 : decode b_Pulls_energyOfPair 39 = .ok (.dconst 1, 1) := by decide +kernel
theorem d_Pulls_energyOfPair_40 : decode b_Pulls_energyOfPair 40 = .ok (.aload_n 0, 1) := by decide +kernel
theorem d_Pulls_energyOfPair_41 : decode b_Pulls_energyOfPair 41 = .ok (.getfield 18, 3) := by decide +kernel
theorem d_Pulls_energyOfPair_44 : decode b_Pulls_energyOfPair 44 = .ok (.getfield 55, 3) := by decide +kernel
theorem d_Pulls_energyOfPair_47 : decode b_Pulls_energyOfPair 47 = .ok (.ddiv, 1) := by decide +kernel
theorem d_Pulls_energyOfPair_48 : decode b_Pulls_energyOfPair 48 = .ok (.dconst 1, 1) := by decide +kernel
theorem d_Pulls_energyOfPair_49 : decode b_Pulls_energyOfPair 49 = .ok (.aload_n 0, 1) := by decide +kernel
theorem d_Pulls_energyOfPair_50 : decode b_Pulls_energyOfPair 50 = .ok (.getfield 42, 3) := by decide +kernel
theorem d_Pulls_energyOfPair_53 : decode b_Pulls_energyOfPair 53 = .ok (.aload_n 0, 1) := by decide +kernel
theorem d_Pulls_energyOfPair_54 : decode b_Pulls_energyOfPair 54 = .ok (.getfield 42, 3) := by decide +kernel
theorem d_Pulls_energyOfPair_57 : decode b_Pulls_energyOfPair 57 = .ok (.dmul, 1) := by decide +kernel
theorem d_Pulls_energyOfPair_58 : decode b_Pulls_energyOfPair 58 = .ok (.ddiv, 1) := by decide +kernel
theorem d_Pulls_energyOfPair_59 : decode b_Pulls_energyOfPair 59 = .ok (.dsub, 1) := by decide +kernel
theorem d_Pulls_energyOfPair_60 : decode b_Pulls_energyOfPair 60 = .ok (.dmul, 1) := by decide +kernel
theorem d_Pulls_energyOfPair_61 : decode b_Pulls_energyOfPair 61 = .ok (.dadd, 1) := by decide +kernel
theorem d_Pulls_energyOfPair_62 : decode b_Pulls_energyOfPair 62 = .ok (.dreturn, 1) := by decide +kernel
theorem d_Pulls_pullOfBond_0 : decode b_Pulls_pullOfBond 0 = .ok (.aload_n 0, 1) := by decide +kernel
theorem d_Pulls_pullOfBond_1 : decode b_Pulls_pullOfBond 1 = .ok (.getfield 30, 3) := by decide +kernel
theorem d_Pulls_pullOfBond_4 : decode b_Pulls_pullOfBond 4 = .ok (.getfield 88, 3) := by decide +kernel
theorem d_Pulls_pullOfBond_7 : decode b_Pulls_pullOfBond 7 = .ok (.iload_n 1, 1) := by decide +kernel
theorem d_Pulls_pullOfBond_8 : decode b_Pulls_pullOfBond 8 = .ok (.daload, 1) := by decide +kernel
theorem d_Pulls_pullOfBond_9 : decode b_Pulls_pullOfBond 9 = .ok (.aload_n 0, 1) := by decide +kernel
theorem d_Pulls_pullOfBond_10 : decode b_Pulls_pullOfBond 10 = .ok (.getfield 18, 3) := by decide +kernel
theorem d_Pulls_pullOfBond_13 : decode b_Pulls_pullOfBond 13 = .ok (.getfield 55, 3) := by decide +kernel
theorem d_Pulls_pullOfBond_16 : decode b_Pulls_pullOfBond 16 = .ok (.aload_n 0, 1) := by decide +kernel
theorem d_Pulls_pullOfBond_17 : decode b_Pulls_pullOfBond 17 = .ok (.getfield 30, 3) := by decide +kernel
theorem d_Pulls_pullOfBond_20 : decode b_Pulls_pullOfBond 20 = .ok (.getfield 85, 3) := by decide +kernel
theorem d_Pulls_pullOfBond_23 : decode b_Pulls_pullOfBond 23 = .ok (.iload_n 1, 1) := by decide +kernel
theorem d_Pulls_pullOfBond_24 : decode b_Pulls_pullOfBond 24 = .ok (.daload, 1) := by decide +kernel
theorem d_Pulls_pullOfBond_25 : decode b_Pulls_pullOfBond 25 = .ok (.aload_n 0, 1) := by decide +kernel
theorem d_Pulls_pullOfBond_26 : decode b_Pulls_pullOfBond 26 = .ok (.getfield 30, 3) := by decide +kernel
theorem d_Pulls_pullOfBond_29 : decode b_Pulls_pullOfBond 29 = .ok (.getfield 85, 3) := by decide +kernel
theorem d_Pulls_pullOfBond_32 : decode b_Pulls_pullOfBond 32 = .ok (.iload_n 1, 1) := by decide +kernel
theorem d_Pulls_pullOfBond_33 : decode b_Pulls_pullOfBond 33 = .ok (.daload, 1) := by decide +kernel
theorem d_Pulls_pullOfBond_34 : decode b_Pulls_pullOfBond 34 = .ok (.dmul, 1) := by decide +kernel
theorem d_Pulls_pullOfBond_35 : decode b_Pulls_pullOfBond 35 = .ok (.dsub, 1) := by decide +kernel
theorem d_Pulls_pullOfBond_36 : decode b_Pulls_pullOfBond 36 = .ok (.dmul, 1) := by decide +kernel
theorem d_Pulls_pullOfBond_37 : decode b_Pulls_pullOfBond 37 = .ok (.dreturn, 1) := by decide +kernel
theorem d_Pulls_addPull_0 : decode b_Pulls_addPull 0 = .ok (.aload_n 0, 1) := by decide +kernel
theorem d_Pulls_addPull_1 : decode b_Pulls_addPull 1 = .ok (.getfield 9, 3) := by decide +kernel
theorem d_Pulls_addPull_4 : decode b_Pulls_addPull 4 = .ok (.iload_n 1, 1) := by decide +kernel
theorem d_Pulls_addPull_5 : decode b_Pulls_addPull 5 = .ok (.aload_n 0, 1) := by decide +kernel
theorem d_Pulls_addPull_6 : decode b_Pulls_addPull 6 = .ok (.getfield 9, 3) := by decide +kernel
theorem d_Pulls_addPull_9 : decode b_Pulls_addPull 9 = .ok (.iload_n 1, 1) := by decide +kernel
theorem d_Pulls_addPull_10 : decode b_Pulls_addPull 10 = .ok (.daload, 1) := by decide +kernel
theorem d_Pulls_addPull_11 : decode b_Pulls_addPull 11 = .ok (.dload_n 2, 1) := by decide +kernel
theorem d_Pulls_addPull_12 : decode b_Pulls_addPull 12 = .ok (.aload_n 0, 1) := by decide +kernel
theorem d_Pulls_addPull_13 : decode b_Pulls_addPull 13 = .ok (.getfield 18, 3) := by decide +kernel
theorem d_Pulls_addPull_16 : decode b_Pulls_addPull 16 = .ok (.getfield 111, 3) := by decide +kernel
theorem d_Pulls_addPull_19 : decode b_Pulls_addPull 19 = .ok (.dmul, 1) := by decide +kernel
theorem d_Pulls_addPull_20 : decode b_Pulls_addPull 20 = .ok (.dadd, 1) := by decide +kernel
theorem d_Pulls_addPull_21 : decode b_Pulls_addPull 21 = .ok (.dastore, 1) := by decide +kernel
theorem d_Pulls_addPull_22 : decode b_Pulls_addPull 22 = .ok (.aload_n 0, 1) := by decide +kernel
theorem d_Pulls_addPull_23 : decode b_Pulls_addPull 23 = .ok (.getfield 15, 3) := by decide +kernel
theorem d_Pulls_addPull_26 : decode b_Pulls_addPull 26 = .ok (.iload_n 1, 1) := by decide +kernel
theorem d_Pulls_addPull_27 : decode b_Pulls_addPull 27 = .ok (.aload_n 0, 1) := by decide +kernel
theorem d_Pulls_addPull_28 : decode b_Pulls_addPull 28 = .ok (.getfield 15, 3) := by decide +kernel
theorem d_Pulls_addPull_31 : decode b_Pulls_addPull 31 = .ok (.iload_n 1, 1) := by decide +kernel
theorem d_Pulls_addPull_32 : decode b_Pulls_addPull 32 = .ok (.daload, 1) := by decide +kernel
theorem d_Pulls_addPull_33 : decode b_Pulls_addPull 33 = .ok (.dload_n 2, 1) := by decide +kernel
theorem d_Pulls_addPull_34 : decode b_Pulls_addPull 34 = .ok (.aload_n 0, 1) := by decide +kernel
theorem d_Pulls_addPull_35 : decode b_Pulls_addPull 35 = .ok (.getfield 18, 3) := by decide +kernel
theorem d_Pulls_addPull_38 : decode b_Pulls_addPull 38 = .ok (.getfield 114, 3) := by decide +kernel
theorem d_Pulls_addPull_41 : decode b_Pulls_addPull 41 = .ok (.dmul, 1) := by decide +kernel
theorem d_Pulls_addPull_42 : decode b_Pulls_addPull 42 = .ok (.dadd, 1) := by decide +kernel
theorem d_Pulls_addPull_43 : decode b_Pulls_addPull 43 = .ok (.dastore, 1) := by decide +kernel
theorem d_Pulls_addPull_44 : decode b_Pulls_addPull 44 = .ok (.return_, 1) := by decide +kernel
set_option maxHeartbeats 4000000 in
set_option maxRecDepth 100000 in
/-- THE PULL of a PAIR -/
theorem c_Pulls_pullOfPair (l : Launch) (dC : Nat → ClassId) (dI : Nat → Nat → Nat) (cI cD cZ : ClassId) (sz : Nat) (hp : Nat) (hso0 : Nat) (hb0 : Nat) (hfx : Nat) (hfy : Nat) (cut : UInt64) (hq : Nat) (side : UInt64) (qa : UInt64) (qb : UInt64) (qr : UInt64) (ha : Nat) (hax : Nat) (hay : Nat) (hau : Nat) (hav : Nat) (ham : Nat) (has : Nat) (hak : Nat) (x : Nat → UInt64) (y : Nat → UInt64) (u : Nat → UInt64) (v : Nat → UInt64) (mass : Nat → UInt64) (so : Nat → Nat) (stuck : Nat → Int32) (n : Nat) (hsw : Nat) (hsd : Nat) (hsc : Nat) (width : Nat → UInt64) (depth : Nat → UInt64) (charge : Nat → UInt64) (i : Nat) (j : Nat) (hn : n ≤ 10) (hi : i < n) (hj : j < n) (hso : ∀ i, i < n → so i < 3) (hwI : ∀ i, i < 3 → pb_Iw (width i)) (hdI : ∀ i, i < 3 → pb_Id (depth i)) (hcI : ∀ i, i < 3 → pb_Ic (charge i)) (hrI : pb_Ir qr) : Met l y_Pulls_pullOfPair w_Pulls_pullOfPair ({ frames := 1, cells := 0, slots := 0, locals := 26 }) (va_Pc [.ref hp, .int (nI i), .int (nI j)] (gx_B (dC, dI) classes (gx_T cI cD cZ) [(hp, .inr (4, [.ref hq, .ref ha, .ref hso0, .ref hb0, .ref hfx, .ref hfy, .double cut])), (hq, .inr (7, [.double side, .double qa, .double qb, .double qr])), (ha, .inr (0, [.ref hax, .ref hay, .ref hau, .ref hav, .ref ham, .ref has, .ref hak, .int (nI n)])), (hax, .inl (cD, 10, .inr (.inr (.inr (.inl x))))), (hay, .inl (cD, 10, .inr (.inr (.inr (.inl y))))), (hau, .inl (cD, 10, .inr (.inr (.inr (.inl u))))), (hav, .inl (cD, 10, .inr (.inr (.inr (.inl v))))), (ham, .inl (cD, 10, .inr (.inr (.inr (.inl mass))))), (has, .inl (cI, 10, .inl (pb_n so))), (hak, .inl (cZ, 10, .inl stuck)), (hso0, .inr (6, [.ref hsw, .ref hsd, .ref hsc])), (hsw, .inl (cD, 3, .inr (.inr (.inr (.inl width))))), (hsd, .inl (cD, 3, .inr (.inr (.inr (.inl depth))))), (hsc, .inl (cD, 3, .inr (.inr (.inr (.inl charge)))))] sz)) (va_Qd (fun (rr : UInt64) (uu : Unit) => rr = pb_pull (pb_mid depth so i j) (pb_six (pb_mid width so i j) qr) (pb_chg charge so i j) qr) (fun (uu : Unit) t => gx_E (dC, dI) classes (gx_T cI cD cZ) (va_A [(hp, .inr (4, [.ref hq, .ref ha, .ref hso0, .ref hb0, .ref hfx, .ref hfy, .double cut])), (hq, .inr (7, [.double side, .double qa, .double qb, .double qr])), (ha, .inr (0, [.ref hax, .ref hay, .ref hau, .ref hav, .ref ham, .ref has, .ref hak, .int (nI n)])), (hax, .inl (cD, 10, .inr (.inr (.inr (.inl x))))), (hay, .inl (cD, 10, .inr (.inr (.inr (.inl y))))), (hau, .inl (cD, 10, .inr (.inr (.inr (.inl u))))), (hav, .inl (cD, 10, .inr (.inr (.inr (.inl v))))), (ham, .inl (cD, 10, .inr (.inr (.inr (.inl mass))))), (has, .inl (cI, 10, .inl (pb_n so))), (hak, .inl (cZ, 10, .inl stuck)), (hso0, .inr (6, [.ref hsw, .ref hsd, .ref hsc])), (hsw, .inl (cD, 3, .inr (.inr (.inr (.inl width))))), (hsd, .inl (cD, 3, .inr (.inr (.inr (.inl depth))))), (hsc, .inl (cD, 3, .inr (.inr (.inr (.inl charge)))))] sz) [(hp, .inr (4, [.ref hq, .ref ha, .ref hso0, .ref hb0, .ref hfx, .ref hfy, .double cut])), (hq, .inr (7, [.double side, .double qa, .double qb, .double qr])), (ha, .inr (0, [.ref hax, .ref hay, .ref hau, .ref hav, .ref ham, .ref has, .ref hak, .int (nI n)])), (hax, .inl (cD, 10, .inr (.inr (.inr (.inl x))))), (hay, .inl (cD, 10, .inr (.inr (.inr (.inl y))))), (hau, .inl (cD, 10, .inr (.inr (.inr (.inl u))))), (hav, .inl (cD, 10, .inr (.inr (.inr (.inl v))))), (ham, .inl (cD, 10, .inr (.inr (.inr (.inl mass))))), (has, .inl (cI, 10, .inl (pb_n so))), (hak, .inl (cZ, 10, .inl stuck)), (hso0, .inr (6, [.ref hsw, .ref hsd, .ref hsc])), (hsw, .inl (cD, 3, .inr (.inr (.inr (.inl width))))), (hsd, .inl (cD, 3, .inr (.inr (.inr (.inl depth))))), (hsc, .inl (cD, 3, .inr (.inr (.inr (.inl charge)))))] t) (va_A [(hp, .inr (4, [.ref hq, .ref ha, .ref hso0, .ref hb0, .ref hfx, .ref hfy, .double cut])), (hq, .inr (7, [.double side, .double qa, .double qb, .double qr])), (ha, .inr (0, [.ref hax, .ref hay, .ref hau, .ref hav, .ref ham, .ref has, .ref hak, .int (nI n)])), (hax, .inl (cD, 10, .inr (.inr (.inr (.inl x))))), (hay, .inl (cD, 10, .inr (.inr (.inr (.inl y))))), (hau, .inl (cD, 10, .inr (.inr (.inr (.inl u))))), (hav, .inl (cD, 10, .inr (.inr (.inr (.inl v))))), (ham, .inl (cD, 10, .inr (.inr (.inr (.inl mass))))), (has, .inl (cI, 10, .inl (pb_n so))), (hak, .inl (cZ, 10, .inl stuck)), (hso0, .inr (6, [.ref hsw, .ref hsd, .ref hsc])), (hsw, .inl (cD, 3, .inr (.inr (.inr (.inl width))))), (hsd, .inl (cD, 3, .inr (.inr (.inr (.inl depth))))), (hsc, .inl (cD, 3, .inr (.inr (.inr (.inl charge)))))] sz)) 0 0 (va_A [(hp, .inr (4, [.ref hq, .ref ha, .ref hso0, .ref hb0, .ref hfx, .ref hfy, .double cut])), (hq, .inr (7, [.double side, .double qa, .double qb, .double qr])), (ha, .inr (0, [.ref hax, .ref hay, .ref hau, .ref hav, .ref ham, .ref has, .ref hak, .int (nI n)])), (hax, .inl (cD, 10, .inr (.inr (.inr (.inl x))))), (hay, .inl (cD, 10, .inr (.inr (.inr (.inl y))))), (hau, .inl (cD, 10, .inr (.inr (.inr (.inl u))))), (hav, .inl (cD, 10, .inr (.inr (.inr (.inl v))))), (ham, .inl (cD, 10, .inr (.inr (.inr (.inl mass))))), (has, .inl (cI, 10, .inl (pb_n so))), (hak, .inl (cZ, 10, .inl stuck)), (hso0, .inr (6, [.ref hsw, .ref hsd, .ref hsc])), (hsw, .inl (cD, 3, .inr (.inr (.inr (.inl width))))), (hsd, .inl (cD, 3, .inr (.inr (.inr (.inl depth))))), (hsc, .inl (cD, 3, .inr (.inr (.inr (.inl charge)))))] sz) := by
  refine Met.ofW (cc := b_Pulls_pullOfPair) (maxL := 11) (ret := (some .double)) (by decide) rfl ?_
  intro p e s m args below meth c s₁ B hml hv
  obtain ⟨rfl, hsz, hP, hK, hD0, hN⟩ := hv
  have hx := B.exec
  have hb := B.bytes
  have hr := B.returns
  have hts := atoms_spec (ws := w_Pulls_pullOfPair) B.pre
  have hown : s.vm.findClass R_Pulls = some m.cls := findClass_of_methodNamed B.named
  have hlocks := B.notSynchronized
  subst hsz
  have hD := hD0.self (sz := s.heap.size)
  generalize hAe : va_A [(hp, .inr (4, [.ref hq, .ref ha, .ref hso0, .ref hb0, .ref hfx, .ref hfy, .double cut])), (hq, .inr (7, [.double side, .double qa, .double qb, .double qr])), (ha, .inr (0, [.ref hax, .ref hay, .ref hau, .ref hav, .ref ham, .ref has, .ref hak, .int (nI n)])), (hax, .inl (cD, 10, .inr (.inr (.inr (.inl x))))), (hay, .inl (cD, 10, .inr (.inr (.inr (.inl y))))), (hau, .inl (cD, 10, .inr (.inr (.inr (.inl u))))), (hav, .inl (cD, 10, .inr (.inr (.inr (.inl v))))), (ham, .inl (cD, 10, .inr (.inr (.inr (.inl mass))))), (has, .inl (cI, 10, .inl (pb_n so))), (hak, .inl (cZ, 10, .inl stuck)), (hso0, .inr (6, [.ref hsw, .ref hsd, .ref hsc])), (hsw, .inl (cD, 3, .inr (.inr (.inr (.inl width))))), (hsd, .inl (cD, 3, .inr (.inr (.inr (.inl depth))))), (hsc, .inl (cD, 3, .inr (.inr (.inr (.inl charge)))))] s.heap.size = A at hD ⊢
  have hA : ∀ q : Nat, s.heap.size ≤ q → A q := fun q h => by rw [← hAe]; exact Or.inr h
  have hS : va_S A s.heap s.heap [] := va_S.rf
  have hl := lv_entry ([.ref hp, .int (nI i), .int (nI j)]) (n := 11) (Nat.le_of_ble_eq_true rfl)
  rw [lg_entry_eq]
  generalize (lg_sl ([.ref hp, .int (nI i), .int (nI j)]) ++ List.replicate (11 - (lg_sl ([.ref hp, .int (nI i), .int (nI j)])).length) Slot.unset).toArray = ls at hl ⊢
  have hl : lv_has ls 11 [(0, .ref hp), (1, .int (nI i)), (2, .int (nI j))] := hl
  obtain ⟨H, hH⟩ : ∃ H, H = s.heap := ⟨_, rfl⟩
  rw [← hH] at hP
  have hS : va_S A s.heap H [] := by rw [hH]; exact hS
  refine gx_start hH ?_
  refine lv_aload_n hx hb d_Pulls_pullOfPair_0 rfl (lv_at hl 0 rfl) ?_
  refine va_get (D := (dC, dI)) (ci := 4) (v := .ref hq) (C := R_Pulls) (T := F_Pulls) (N := 7) hx hb hts (fun w h => List.mem_cons_of_mem _ (i_Pulls w h)) hown hK hP 0 rfl rfl 0 (by decide) (hts _ (List.mem_cons_of_mem _ kw_224)) (fun _ h9 => h9) rfl d_Pulls_pullOfPair_1 ?_
  refine va_get (D := (dC, dI)) (ci := 7) (v := .double qr) (C := R_Square) (T := F_Square) (N := 4) hx hb hts (fun w h => List.mem_cons_of_mem _ (i_Square w h)) hown hK hP 1 rfl rfl 3 (by decide) (hts _ (List.mem_cons_of_mem _ kw_92)) (fun _ h9 => h9) rfl d_Pulls_pullOfPair_4 ?_
  refine lv_dstore_n (lv' := [(3, .double qr), (0, .ref hp), (1, .int (nI i)), (2, .int (nI j))]) hx hb d_Pulls_pullOfPair_7 rfl hl (by decide) rfl (fun ls hl => ?_)
  refine lv_aload_n hx hb d_Pulls_pullOfPair_8 rfl (lv_at hl 1 rfl) ?_
  refine lv_iload_n hx hb d_Pulls_pullOfPair_9 rfl (lv_at hl 2 rfl) ?_
  refine lv_iload_n hx hb d_Pulls_pullOfPair_10 rfl (lv_at hl 3 rfl) ?_
  refine gx_Vd (st0 := [.int (nI j), .int (nI i), .ref hp]) (As := [.int (nI i), .int (nI j)]) (rest := []) (wr := []) ⟨hx, hb, hml, hown, hts⟩ hN hK hP hD hS hA [0, 1, 2, 3, 4, 5, 6, 7, 8, 9, 10, 11, 12, 13] [] rfl rfl (by decide) (c_Pulls_meanDepth l dC dI cI cD cZ H.size hp hso0 hb0 hfx hfy cut hq side qa qb qr ha hax hay hau hav ham has hak x y u v mass so stuck n hsw hsd hsc width depth charge i j (by omega) (by omega) (by omega) hso hdI) (cwV 2 hts (gx_gV kw_670 kw_672 kw_7 kw_50 kw_673) rfl rfl rfl (by decide +kernel) ⟨Nat.le_of_ble_eq_true rfl, Nat.le_of_ble_eq_true rfl⟩) 0 4 rfl rfl rfl hl.1 rfl (Nat.le_of_ble_eq_true rfl) d_Pulls_pullOfPair_11 ⟨Nat.le_of_ble_eq_true rfl, Nat.le_of_ble_eq_true rfl⟩ (fun r_1 u_2 H locs hw11 hP hD hS => ?_)
  try dsimp only at hw11 hP hD
  have hP : va_P (dC, dI) classes [(hp, .inr (4, [.ref hq, .ref ha, .ref hso0, .ref hb0, .ref hfx, .ref hfy, .double cut])), (hq, .inr (7, [.double side, .double qa, .double qb, .double qr])), (ha, .inr (0, [.ref hax, .ref hay, .ref hau, .ref hav, .ref ham, .ref has, .ref hak, .int (nI n)])), (hax, .inl (cD, 10, .inr (.inr (.inr (.inl x))))), (hay, .inl (cD, 10, .inr (.inr (.inr (.inl y))))), (hau, .inl (cD, 10, .inr (.inr (.inr (.inl u))))), (hav, .inl (cD, 10, .inr (.inr (.inr (.inl v))))), (ham, .inl (cD, 10, .inr (.inr (.inr (.inl mass))))), (has, .inl (cI, 10, .inl (pb_n so))), (hak, .inl (cZ, 10, .inl stuck)), (hso0, .inr (6, [.ref hsw, .ref hsd, .ref hsc])), (hsw, .inl (cD, 3, .inr (.inr (.inr (.inl width))))), (hsd, .inl (cD, 3, .inr (.inr (.inr (.inl depth))))), (hsc, .inl (cD, 3, .inr (.inr (.inr (.inl charge)))))] H := hP
  have hD : va_D A [(hp, .inr (4, [.ref hq, .ref ha, .ref hso0, .ref hb0, .ref hfx, .ref hfy, .double cut])), (hq, .inr (7, [.double side, .double qa, .double qb, .double qr])), (ha, .inr (0, [.ref hax, .ref hay, .ref hau, .ref hav, .ref ham, .ref has, .ref hak, .int (nI n)])), (hax, .inl (cD, 10, .inr (.inr (.inr (.inl x))))), (hay, .inl (cD, 10, .inr (.inr (.inr (.inl y))))), (hau, .inl (cD, 10, .inr (.inr (.inr (.inl u))))), (hav, .inl (cD, 10, .inr (.inr (.inr (.inl v))))), (ham, .inl (cD, 10, .inr (.inr (.inr (.inl mass))))), (has, .inl (cI, 10, .inl (pb_n so))), (hak, .inl (cZ, 10, .inl stuck)), (hso0, .inr (6, [.ref hsw, .ref hsd, .ref hsc])), (hsw, .inl (cD, 3, .inr (.inr (.inr (.inl width))))), (hsd, .inl (cD, 3, .inr (.inr (.inr (.inl depth))))), (hsc, .inl (cD, 3, .inr (.inr (.inr (.inl charge)))))] := hD
  obtain rfl : r_1 = pb_mid depth so i j := hw11
  have g_3 := pb_midd_I (so := so) (i := i) (j := j) (hdI _ (hso _ (by omega))) (hdI _ (hso _ (by omega)))
  refine lv_dstore (lv' := [(5, .double (pb_mid depth so i j)), (3, .double qr), (0, .ref hp), (1, .int (nI i)), (2, .int (nI j))]) hx hb d_Pulls_pullOfPair_14 hl (by decide) rfl (fun ls hl => ?_)
  refine lv_aload_n hx hb d_Pulls_pullOfPair_16 rfl (lv_at hl 2 rfl) ?_
  refine lv_iload_n hx hb d_Pulls_pullOfPair_17 rfl (lv_at hl 3 rfl) ?_
  refine lv_iload_n hx hb d_Pulls_pullOfPair_18 rfl (lv_at hl 4 rfl) ?_
  refine gx_Vd (st0 := [.int (nI j), .int (nI i), .ref hp]) (As := [.int (nI i), .int (nI j)]) (rest := []) (wr := []) ⟨hx, hb, hml, hown, hts⟩ hN hK hP hD hS hA [0, 1, 2, 3, 4, 5, 6, 7, 8, 9, 10, 11, 12, 13] [] rfl rfl (by decide) (c_Pulls_nearness l dC dI cI cD cZ H.size hp hso0 hb0 hfx hfy cut hq side qa qb qr ha hax hay hau hav ham has hak x y u v mass so stuck n hsw hsd hsc width depth charge i j (by omega) (by omega) (by omega) hso hwI (hrI.w (by decide +kernel) (by decide +kernel))) (cwV 2 hts (gx_gV kw_675 kw_677 kw_8 kw_50 kw_678) rfl rfl rfl (by decide +kernel) ⟨Nat.le_of_ble_eq_true rfl, Nat.le_of_ble_eq_true rfl⟩) 0 4 rfl rfl rfl hl.1 rfl (Nat.le_of_ble_eq_true rfl) d_Pulls_pullOfPair_19 ⟨Nat.le_of_ble_eq_true rfl, Nat.le_of_ble_eq_true rfl⟩ (fun r_4 u_5 H locs hw19 hP hD hS => ?_)
  try dsimp only at hw19 hP hD
  have hP : va_P (dC, dI) classes [(hp, .inr (4, [.ref hq, .ref ha, .ref hso0, .ref hb0, .ref hfx, .ref hfy, .double cut])), (hq, .inr (7, [.double side, .double qa, .double qb, .double qr])), (ha, .inr (0, [.ref hax, .ref hay, .ref hau, .ref hav, .ref ham, .ref has, .ref hak, .int (nI n)])), (hax, .inl (cD, 10, .inr (.inr (.inr (.inl x))))), (hay, .inl (cD, 10, .inr (.inr (.inr (.inl y))))), (hau, .inl (cD, 10, .inr (.inr (.inr (.inl u))))), (hav, .inl (cD, 10, .inr (.inr (.inr (.inl v))))), (ham, .inl (cD, 10, .inr (.inr (.inr (.inl mass))))), (has, .inl (cI, 10, .inl (pb_n so))), (hak, .inl (cZ, 10, .inl stuck)), (hso0, .inr (6, [.ref hsw, .ref hsd, .ref hsc])), (hsw, .inl (cD, 3, .inr (.inr (.inr (.inl width))))), (hsd, .inl (cD, 3, .inr (.inr (.inr (.inl depth))))), (hsc, .inl (cD, 3, .inr (.inr (.inr (.inl charge)))))] H := hP
  have hD : va_D A [(hp, .inr (4, [.ref hq, .ref ha, .ref hso0, .ref hb0, .ref hfx, .ref hfy, .double cut])), (hq, .inr (7, [.double side, .double qa, .double qb, .double qr])), (ha, .inr (0, [.ref hax, .ref hay, .ref hau, .ref hav, .ref ham, .ref has, .ref hak, .int (nI n)])), (hax, .inl (cD, 10, .inr (.inr (.inr (.inl x))))), (hay, .inl (cD, 10, .inr (.inr (.inr (.inl y))))), (hau, .inl (cD, 10, .inr (.inr (.inr (.inl u))))), (hav, .inl (cD, 10, .inr (.inr (.inr (.inl v))))), (ham, .inl (cD, 10, .inr (.inr (.inr (.inl mass))))), (has, .inl (cI, 10, .inl (pb_n so))), (hak, .inl (cZ, 10, .inl stuck)), (hso0, .inr (6, [.ref hsw, .ref hsd, .ref hsc])), (hsw, .inl (cD, 3, .inr (.inr (.inr (.inl width))))), (hsd, .inl (cD, 3, .inr (.inr (.inr (.inl depth))))), (hsc, .inl (cD, 3, .inr (.inr (.inr (.inl charge)))))] := hD
  obtain rfl : r_4 = pb_six (pb_mid width so i j) qr := hw19
  have g_6 := pb_six_I (pb_midw_I (so := so) (i := i) (j := j) (hwI _ (hso _ (by omega))) (hwI _ (hso _ (by omega)))) hrI
  refine lv_dstore (lv' := [(7, .double (pb_six (pb_mid width so i j) qr)), (5, .double (pb_mid depth so i j)), (3, .double qr), (0, .ref hp), (1, .int (nI i)), (2, .int (nI j))]) hx hb d_Pulls_pullOfPair_22 hl (by decide) rfl (fun ls hl => ?_)
  refine lv_aload_n hx hb d_Pulls_pullOfPair_24 rfl (lv_at hl 3 rfl) ?_
  refine lv_iload_n hx hb d_Pulls_pullOfPair_25 rfl (lv_at hl 4 rfl) ?_
  refine lv_iload_n hx hb d_Pulls_pullOfPair_26 rfl (lv_at hl 5 rfl) ?_
  refine gx_Vd (st0 := [.int (nI j), .int (nI i), .ref hp]) (As := [.int (nI i), .int (nI j)]) (rest := []) (wr := []) ⟨hx, hb, hml, hown, hts⟩ hN hK hP hD hS hA [0, 1, 2, 3, 4, 5, 6, 7, 8, 9, 10, 11, 12, 13] [] rfl rfl (by decide) (c_Pulls_charges l dC dI cI cD cZ H.size hp hso0 hb0 hfx hfy cut hq side qa qb qr ha hax hay hau hav ham has hak x y u v mass so stuck n hsw hsd hsc width depth charge i j (by omega) (by omega) (by omega) hso hcI) (cwV 2 hts (gx_gV kw_679 kw_681 kw_9 kw_50 kw_682) rfl rfl rfl (by decide +kernel) ⟨Nat.le_of_ble_eq_true rfl, Nat.le_of_ble_eq_true rfl⟩) 0 4 rfl rfl rfl hl.1 rfl (Nat.le_of_ble_eq_true rfl) d_Pulls_pullOfPair_27 ⟨Nat.le_of_ble_eq_true rfl, Nat.le_of_ble_eq_true rfl⟩ (fun r_7 u_8 H locs hw27 hP hD hS => ?_)
  try dsimp only at hw27 hP hD
  have hP : va_P (dC, dI) classes [(hp, .inr (4, [.ref hq, .ref ha, .ref hso0, .ref hb0, .ref hfx, .ref hfy, .double cut])), (hq, .inr (7, [.double side, .double qa, .double qb, .double qr])), (ha, .inr (0, [.ref hax, .ref hay, .ref hau, .ref hav, .ref ham, .ref has, .ref hak, .int (nI n)])), (hax, .inl (cD, 10, .inr (.inr (.inr (.inl x))))), (hay, .inl (cD, 10, .inr (.inr (.inr (.inl y))))), (hau, .inl (cD, 10, .inr (.inr (.inr (.inl u))))), (hav, .inl (cD, 10, .inr (.inr (.inr (.inl v))))), (ham, .inl (cD, 10, .inr (.inr (.inr (.inl mass))))), (has, .inl (cI, 10, .inl (pb_n so))), (hak, .inl (cZ, 10, .inl stuck)), (hso0, .inr (6, [.ref hsw, .ref hsd, .ref hsc])), (hsw, .inl (cD, 3, .inr (.inr (.inr (.inl width))))), (hsd, .inl (cD, 3, .inr (.inr (.inr (.inl depth))))), (hsc, .inl (cD, 3, .inr (.inr (.inr (.inl charge)))))] H := hP
  have hD : va_D A [(hp, .inr (4, [.ref hq, .ref ha, .ref hso0, .ref hb0, .ref hfx, .ref hfy, .double cut])), (hq, .inr (7, [.double side, .double qa, .double qb, .double qr])), (ha, .inr (0, [.ref hax, .ref hay, .ref hau, .ref hav, .ref ham, .ref has, .ref hak, .int (nI n)])), (hax, .inl (cD, 10, .inr (.inr (.inr (.inl x))))), (hay, .inl (cD, 10, .inr (.inr (.inr (.inl y))))), (hau, .inl (cD, 10, .inr (.inr (.inr (.inl u))))), (hav, .inl (cD, 10, .inr (.inr (.inr (.inl v))))), (ham, .inl (cD, 10, .inr (.inr (.inr (.inl mass))))), (has, .inl (cI, 10, .inl (pb_n so))), (hak, .inl (cZ, 10, .inl stuck)), (hso0, .inr (6, [.ref hsw, .ref hsd, .ref hsc])), (hsw, .inl (cD, 3, .inr (.inr (.inr (.inl width))))), (hsd, .inl (cD, 3, .inr (.inr (.inr (.inl depth))))), (hsc, .inl (cD, 3, .inr (.inr (.inr (.inl charge)))))] := hD
  obtain rfl : r_7 = pb_chg charge so i j := hw27
  have g_9 := pb_chg_I (so := so) (i := i) (j := j) (hcI _ (hso _ (by omega))) (hcI _ (hso _ (by omega)))
  refine lv_dstore (lv' := [(9, .double (pb_chg charge so i j)), (7, .double (pb_six (pb_mid width so i j) qr)), (5, .double (pb_mid depth so i j)), (3, .double qr), (0, .ref hp), (1, .int (nI i)), (2, .int (nI j))]) hx hb d_Pulls_pullOfPair_30 hl (by decide) rfl (fun ls hl => ?_)
  refine lv_ldc2d (v := 4627448617123184640) hx hb hown (hts (.constantDouble R_Pulls 126 4627448617123184640) (by decide +kernel)) d_Pulls_pullOfPair_32 ?_
  refine lv_dload hx hb d_Pulls_pullOfPair_35 (lv_at hl 2 rfl) ?_
  have g_10 := fp_const (a := 4627448617123184640) (T := (fp_d 3 1077)) (by decide +kernel)
  have g_11 := fp_I_mul (fp_d 0 0) (fp_d 3 1083) g_10 g_3 (by decide +kernel)
  refine lv_dmul hx hb d_Pulls_pullOfPair_37 g_11.n ?_
  refine lv_dload hx hb d_Pulls_pullOfPair_38 (lv_at hl 1 rfl) ?_
  refine lv_ldc2d (v := 4611686018427387904) hx hb hown (hts (.constantDouble R_Pulls 128 4611686018427387904) (by decide +kernel)) d_Pulls_pullOfPair_40 ?_
  refine lv_dload hx hb d_Pulls_pullOfPair_43 (lv_at hl 1 rfl) ?_
  have g_12 := fp_const (a := 4611686018427387904) (T := (fp_d 1 1075)) (by decide +kernel)
  have g_13 := fp_I_mul (fp_d 0 0) (fp_d 1 1123) g_12 g_6 (by decide +kernel)
  refine lv_dmul hx hb d_Pulls_pullOfPair_45 g_13.n ?_
  refine lv_dload hx hb d_Pulls_pullOfPair_46 (lv_at hl 1 rfl) ?_
  have g_14 := fp_I_mul (fp_d 0 0) (fp_d 1 1171) g_13 g_6 (by decide +kernel)
  refine lv_dmul hx hb d_Pulls_pullOfPair_48 g_14.n ?_
  have g_15 := fp_I_sub (fp_d (-1) 1171) (fp_d 1 1122) g_6 g_14 (by decide +kernel)
  refine lv_dsub hx hb d_Pulls_pullOfPair_49 g_15.n ?_
  have g_16 := fp_I_mul (fp_d (-3) 1180) (fp_d 3 1131) g_11 g_15 (by decide +kernel)
  refine lv_dmul hx hb d_Pulls_pullOfPair_50 g_16.n ?_
  refine lv_dload_n hx hb d_Pulls_pullOfPair_51 rfl (lv_at hl 3 rfl) ?_
  have g_17 := fp_I_div (fp_d (-3) 1192) (fp_d 3 1143) g_16 hrI (by decide +kernel)
  refine lv_ddiv hx hb d_Pulls_pullOfPair_52 g_17.n ?_
  refine lv_ldc2d (v := 4611686018427387904) hx hb hown (hts (.constantDouble R_Pulls 128 4611686018427387904) (by decide +kernel)) d_Pulls_pullOfPair_53 ?_
  refine lv_dload hx hb d_Pulls_pullOfPair_56 (lv_at hl 0 rfl) ?_
  have g_18 := fp_I_mul (fp_d (-1) 1081) (fp_d 1 1081) g_12 g_9 (by decide +kernel)
  refine lv_dmul hx hb d_Pulls_pullOfPair_58 g_18.n ?_
  refine lv_dload_n hx hb d_Pulls_pullOfPair_59 rfl (lv_at hl 3 rfl) ?_
  refine lv_dload_n hx hb d_Pulls_pullOfPair_60 rfl (lv_at hl 3 rfl) ?_
  have g_19 := fp_I_mul (fp_d 1 1050) (fp_d 83521 1076) hrI hrI (by decide +kernel)
  refine lv_dmul hx hb d_Pulls_pullOfPair_61 g_19.n ?_
  have g_20 := fp_I_div (fp_d (-1) 1105) (fp_d 1 1105) g_18 g_19 (by decide +kernel)
  refine lv_ddiv hx hb d_Pulls_pullOfPair_62 g_20.n ?_
  have g_21 := fp_I_sub (fp_d (-12582913) 1170) (fp_d 12582913 1121) g_17 g_20 (by decide +kernel)
  refine lv_dsub hx hb d_Pulls_pullOfPair_63 g_21.n ?_
  have hP9 := hP.sub (ws' := [(hp, .inr (4, [.ref hq, .ref ha, .ref hso0, .ref hb0, .ref hfx, .ref hfy, .double cut])), (hq, .inr (7, [.double side, .double qa, .double qb, .double qr])), (ha, .inr (0, [.ref hax, .ref hay, .ref hau, .ref hav, .ref ham, .ref has, .ref hak, .int (nI n)])), (hax, .inl (cD, 10, .inr (.inr (.inr (.inl x))))), (hay, .inl (cD, 10, .inr (.inr (.inr (.inl y))))), (hau, .inl (cD, 10, .inr (.inr (.inr (.inl u))))), (hav, .inl (cD, 10, .inr (.inr (.inr (.inl v))))), (ham, .inl (cD, 10, .inr (.inr (.inr (.inl mass))))), (has, .inl (cI, 10, .inl (pb_n so))), (hak, .inl (cZ, 10, .inl stuck)), (hso0, .inr (6, [.ref hsw, .ref hsd, .ref hsc])), (hsw, .inl (cD, 3, .inr (.inr (.inr (.inl width))))), (hsd, .inl (cD, 3, .inr (.inr (.inr (.inl depth))))), (hsc, .inl (cD, 3, .inr (.inr (.inr (.inl charge)))))]) [0, 1, 2, 3, 4, 5, 6, 7, 8, 9, 10, 11, 12, 13] rfl
  have hD9 := hD.sub (ws' := [(hp, .inr (4, [.ref hq, .ref ha, .ref hso0, .ref hb0, .ref hfx, .ref hfy, .double cut])), (hq, .inr (7, [.double side, .double qa, .double qb, .double qr])), (ha, .inr (0, [.ref hax, .ref hay, .ref hau, .ref hav, .ref ham, .ref has, .ref hak, .int (nI n)])), (hax, .inl (cD, 10, .inr (.inr (.inr (.inl x))))), (hay, .inl (cD, 10, .inr (.inr (.inr (.inl y))))), (hau, .inl (cD, 10, .inr (.inr (.inr (.inl u))))), (hav, .inl (cD, 10, .inr (.inr (.inr (.inl v))))), (ham, .inl (cD, 10, .inr (.inr (.inr (.inl mass))))), (has, .inl (cI, 10, .inl (pb_n so))), (hak, .inl (cZ, 10, .inl stuck)), (hso0, .inr (6, [.ref hsw, .ref hsd, .ref hsc])), (hsw, .inl (cD, 3, .inr (.inr (.inr (.inl width))))), (hsd, .inl (cD, 3, .inr (.inr (.inr (.inl depth))))), (hsc, .inl (cD, 3, .inr (.inr (.inr (.inl charge)))))]) [0, 1, 2, 3, 4, 5, 6, 7, 8, 9, 10, 11, 12, 13] (by decide) rfl
  exact W.dret (v := (FP.dsub (FP.ddiv (FP.dmul (FP.dmul 4627448617123184640 (pb_mid depth so i j)) (FP.dsub (pb_six (pb_mid width so i j) qr) (FP.dmul (FP.dmul 4611686018427387904 (pb_six (pb_mid width so i j) qr)) (pb_six (pb_mid width so i j) qr)))) qr) (FP.ddiv (FP.dmul 4611686018427387904 (pb_chg charge so i j)) (FP.dmul qr qr)))) hx hb hr (fun t ht hW => ⟨⟨(FP.dsub (FP.ddiv (FP.dmul (FP.dmul 4627448617123184640 (pb_mid depth so i j)) (FP.dsub (pb_six (pb_mid width so i j) qr) (FP.dmul (FP.dmul 4611686018427387904 (pb_six (pb_mid width so i j) qr)) (pb_six (pb_mid width so i j) qr)))) qr) (FP.ddiv (FP.dmul 4611686018427387904 (pb_chg charge so i j)) (FP.dmul qr qr))), (), rfl, rfl, by rw [ht]; exact hP9, va_K.moved hW.alike hK, hD9⟩, hS.F ht⟩) hS.2.2 d_Pulls_pullOfPair_64
set_option maxHeartbeats 4000000 in
set_option maxRecDepth 100000 in
/-- its ENERGY -/
theorem c_Pulls_energyOfPair (l : Launch) (dC : Nat → ClassId) (dI : Nat → Nat → Nat) (cI cD cZ : ClassId) (sz : Nat) (hp : Nat) (hso0 : Nat) (hb0 : Nat) (hfx : Nat) (hfy : Nat) (cut : UInt64) (hq : Nat) (side : UInt64) (qa : UInt64) (qb : UInt64) (qr : UInt64) (ha : Nat) (hax : Nat) (hay : Nat) (hau : Nat) (hav : Nat) (ham : Nat) (has : Nat) (hak : Nat) (x : Nat → UInt64) (y : Nat → UInt64) (u : Nat → UInt64) (v : Nat → UInt64) (mass : Nat → UInt64) (so : Nat → Nat) (stuck : Nat → Int32) (n : Nat) (hsw : Nat) (hsd : Nat) (hsc : Nat) (width : Nat → UInt64) (depth : Nat → UInt64) (charge : Nat → UInt64) (i : Nat) (j : Nat) (hn : n ≤ 10) (hi : i < n) (hj : j < n) (hso : ∀ i, i < n → so i < 3) (hwI : ∀ i, i < 3 → pb_Iw (width i)) (hdI : ∀ i, i < 3 → pb_Id (depth i)) (hcI : ∀ i, i < 3 → pb_Ic (charge i)) (hrI : pb_Ir qr) (hcut : pb_Icut cut) : Met l y_Pulls_energyOfPair w_Pulls_energyOfPair ({ frames := 1, cells := 0, slots := 0, locals := 26 }) (va_Pc [.ref hp, .int (nI i), .int (nI j)] (gx_B (dC, dI) classes (gx_T cI cD cZ) [(hp, .inr (4, [.ref hq, .ref ha, .ref hso0, .ref hb0, .ref hfx, .ref hfy, .double cut])), (hq, .inr (7, [.double side, .double qa, .double qb, .double qr])), (ha, .inr (0, [.ref hax, .ref hay, .ref hau, .ref hav, .ref ham, .ref has, .ref hak, .int (nI n)])), (hax, .inl (cD, 10, .inr (.inr (.inr (.inl x))))), (hay, .inl (cD, 10, .inr (.inr (.inr (.inl y))))), (hau, .inl (cD, 10, .inr (.inr (.inr (.inl u))))), (hav, .inl (cD, 10, .inr (.inr (.inr (.inl v))))), (ham, .inl (cD, 10, .inr (.inr (.inr (.inl mass))))), (has, .inl (cI, 10, .inl (pb_n so))), (hak, .inl (cZ, 10, .inl stuck)), (hso0, .inr (6, [.ref hsw, .ref hsd, .ref hsc])), (hsw, .inl (cD, 3, .inr (.inr (.inr (.inl width))))), (hsd, .inl (cD, 3, .inr (.inr (.inr (.inl depth))))), (hsc, .inl (cD, 3, .inr (.inr (.inr (.inl charge)))))] sz)) (va_Qd (fun (rr : UInt64) (uu : Unit) => rr = pb_ep (pb_mid depth so i j) (pb_six (pb_mid width so i j) qr) (pb_chg charge so i j) qr cut) (fun (uu : Unit) t => gx_E (dC, dI) classes (gx_T cI cD cZ) (va_A [(hp, .inr (4, [.ref hq, .ref ha, .ref hso0, .ref hb0, .ref hfx, .ref hfy, .double cut])), (hq, .inr (7, [.double side, .double qa, .double qb, .double qr])), (ha, .inr (0, [.ref hax, .ref hay, .ref hau, .ref hav, .ref ham, .ref has, .ref hak, .int (nI n)])), (hax, .inl (cD, 10, .inr (.inr (.inr (.inl x))))), (hay, .inl (cD, 10, .inr (.inr (.inr (.inl y))))), (hau, .inl (cD, 10, .inr (.inr (.inr (.inl u))))), (hav, .inl (cD, 10, .inr (.inr (.inr (.inl v))))), (ham, .inl (cD, 10, .inr (.inr (.inr (.inl mass))))), (has, .inl (cI, 10, .inl (pb_n so))), (hak, .inl (cZ, 10, .inl stuck)), (hso0, .inr (6, [.ref hsw, .ref hsd, .ref hsc])), (hsw, .inl (cD, 3, .inr (.inr (.inr (.inl width))))), (hsd, .inl (cD, 3, .inr (.inr (.inr (.inl depth))))), (hsc, .inl (cD, 3, .inr (.inr (.inr (.inl charge)))))] sz) [(hp, .inr (4, [.ref hq, .ref ha, .ref hso0, .ref hb0, .ref hfx, .ref hfy, .double cut])), (hq, .inr (7, [.double side, .double qa, .double qb, .double qr])), (ha, .inr (0, [.ref hax, .ref hay, .ref hau, .ref hav, .ref ham, .ref has, .ref hak, .int (nI n)])), (hax, .inl (cD, 10, .inr (.inr (.inr (.inl x))))), (hay, .inl (cD, 10, .inr (.inr (.inr (.inl y))))), (hau, .inl (cD, 10, .inr (.inr (.inr (.inl u))))), (hav, .inl (cD, 10, .inr (.inr (.inr (.inl v))))), (ham, .inl (cD, 10, .inr (.inr (.inr (.inl mass))))), (has, .inl (cI, 10, .inl (pb_n so))), (hak, .inl (cZ, 10, .inl stuck)), (hso0, .inr (6, [.ref hsw, .ref hsd, .ref hsc])), (hsw, .inl (cD, 3, .inr (.inr (.inr (.inl width))))), (hsd, .inl (cD, 3, .inr (.inr (.inr (.inl depth))))), (hsc, .inl (cD, 3, .inr (.inr (.inr (.inl charge)))))] t) (va_A [(hp, .inr (4, [.ref hq, .ref ha, .ref hso0, .ref hb0, .ref hfx, .ref hfy, .double cut])), (hq, .inr (7, [.double side, .double qa, .double qb, .double qr])), (ha, .inr (0, [.ref hax, .ref hay, .ref hau, .ref hav, .ref ham, .ref has, .ref hak, .int (nI n)])), (hax, .inl (cD, 10, .inr (.inr (.inr (.inl x))))), (hay, .inl (cD, 10, .inr (.inr (.inr (.inl y))))), (hau, .inl (cD, 10, .inr (.inr (.inr (.inl u))))), (hav, .inl (cD, 10, .inr (.inr (.inr (.inl v))))), (ham, .inl (cD, 10, .inr (.inr (.inr (.inl mass))))), (has, .inl (cI, 10, .inl (pb_n so))), (hak, .inl (cZ, 10, .inl stuck)), (hso0, .inr (6, [.ref hsw, .ref hsd, .ref hsc])), (hsw, .inl (cD, 3, .inr (.inr (.inr (.inl width))))), (hsd, .inl (cD, 3, .inr (.inr (.inr (.inl depth))))), (hsc, .inl (cD, 3, .inr (.inr (.inr (.inl charge)))))] sz)) 0 0 (va_A [(hp, .inr (4, [.ref hq, .ref ha, .ref hso0, .ref hb0, .ref hfx, .ref hfy, .double cut])), (hq, .inr (7, [.double side, .double qa, .double qb, .double qr])), (ha, .inr (0, [.ref hax, .ref hay, .ref hau, .ref hav, .ref ham, .ref has, .ref hak, .int (nI n)])), (hax, .inl (cD, 10, .inr (.inr (.inr (.inl x))))), (hay, .inl (cD, 10, .inr (.inr (.inr (.inl y))))), (hau, .inl (cD, 10, .inr (.inr (.inr (.inl u))))), (hav, .inl (cD, 10, .inr (.inr (.inr (.inl v))))), (ham, .inl (cD, 10, .inr (.inr (.inr (.inl mass))))), (has, .inl (cI, 10, .inl (pb_n so))), (hak, .inl (cZ, 10, .inl stuck)), (hso0, .inr (6, [.ref hsw, .ref hsd, .ref hsc])), (hsw, .inl (cD, 3, .inr (.inr (.inr (.inl width))))), (hsd, .inl (cD, 3, .inr (.inr (.inr (.inl depth))))), (hsc, .inl (cD, 3, .inr (.inr (.inr (.inl charge)))))] sz) := by
  refine Met.ofW (cc := b_Pulls_energyOfPair) (maxL := 9) (ret := (some .double)) (by decide) rfl ?_
  intro p e s m args below meth c s₁ B hml hv
  obtain ⟨rfl, hsz, hP, hK, hD0, hN⟩ := hv
  have hx := B.exec
  have hb := B.bytes
  have hr := B.returns
  have hts := atoms_spec (ws := w_Pulls_energyOfPair) B.pre
  have hown : s.vm.findClass R_Pulls = some m.cls := findClass_of_methodNamed B.named
  have hlocks := B.notSynchronized
  subst hsz
  have hD := hD0.self (sz := s.heap.size)
  generalize hAe : va_A [(hp, .inr (4, [.ref hq, .ref ha, .ref hso0, .ref hb0, .ref hfx, .ref hfy, .double cut])), (hq, .inr (7, [.double side, .double qa, .double qb, .double qr])), (ha, .inr (0, [.ref hax, .ref hay, .ref hau, .ref hav, .ref ham, .ref has, .ref hak, .int (nI n)])), (hax, .inl (cD, 10, .inr (.inr (.inr (.inl x))))), (hay, .inl (cD, 10, .inr (.inr (.inr (.inl y))))), (hau, .inl (cD, 10, .inr (.inr (.inr (.inl u))))), (hav, .inl (cD, 10, .inr (.inr (.inr (.inl v))))), (ham, .inl (cD, 10, .inr (.inr (.inr (.inl mass))))), (has, .inl (cI, 10, .inl (pb_n so))), (hak, .inl (cZ, 10, .inl stuck)), (hso0, .inr (6, [.ref hsw, .ref hsd, .ref hsc])), (hsw, .inl (cD, 3, .inr (.inr (.inr (.inl width))))), (hsd, .inl (cD, 3, .inr (.inr (.inr (.inl depth))))), (hsc, .inl (cD, 3, .inr (.inr (.inr (.inl charge)))))] s.heap.size = A at hD ⊢
  have hA : ∀ q : Nat, s.heap.size ≤ q → A q := fun q h => by rw [← hAe]; exact Or.inr h
  have hS : va_S A s.heap s.heap [] := va_S.rf
  have hl := lv_entry ([.ref hp, .int (nI i), .int (nI j)]) (n := 9) (Nat.le_of_ble_eq_true rfl)
  rw [lg_entry_eq]
  generalize (lg_sl ([.ref hp, .int (nI i), .int (nI j)]) ++ List.replicate (9 - (lg_sl ([.ref hp, .int (nI i), .int (nI j)])).length) Slot.unset).toArray = ls at hl ⊢
  have hl : lv_has ls 9 [(0, .ref hp), (1, .int (nI i)), (2, .int (nI j))] := hl
  obtain ⟨H, hH⟩ : ∃ H, H = s.heap := ⟨_, rfl⟩
  rw [← hH] at hP
  have hS : va_S A s.heap H [] := by rw [hH]; exact hS
  refine gx_start hH ?_
  refine lv_aload_n hx hb d_Pulls_energyOfPair_0 rfl (lv_at hl 0 rfl) ?_
  refine lv_iload_n hx hb d_Pulls_energyOfPair_1 rfl (lv_at hl 1 rfl) ?_
  refine lv_iload_n hx hb d_Pulls_energyOfPair_2 rfl (lv_at hl 2 rfl) ?_
  refine gx_Vd (st0 := [.int (nI j), .int (nI i), .ref hp]) (As := [.int (nI i), .int (nI j)]) (rest := []) (wr := []) ⟨hx, hb, hml, hown, hts⟩ hN hK hP hD hS hA [0, 1, 2, 3, 4, 5, 6, 7, 8, 9, 10, 11, 12, 13] [] rfl rfl (by decide) (c_Pulls_meanDepth l dC dI cI cD cZ H.size hp hso0 hb0 hfx hfy cut hq side qa qb qr ha hax hay hau hav ham has hak x y u v mass so stuck n hsw hsd hsc width depth charge i j (by omega) (by omega) (by omega) hso hdI) (cwV 2 hts (gx_gV kw_670 kw_672 kw_7 kw_50 kw_673) rfl rfl rfl (by decide +kernel) ⟨Nat.le_of_ble_eq_true rfl, Nat.le_of_ble_eq_true rfl⟩) 0 4 rfl rfl rfl hl.1 rfl (Nat.le_of_ble_eq_true rfl) d_Pulls_energyOfPair_3 ⟨Nat.le_of_ble_eq_true rfl, Nat.le_of_ble_eq_true rfl⟩ (fun r_1 u_2 H locs hw3 hP hD hS => ?_)
  try dsimp only at hw3 hP hD
  have hP : va_P (dC, dI) classes [(hp, .inr (4, [.ref hq, .ref ha, .ref hso0, .ref hb0, .ref hfx, .ref hfy, .double cut])), (hq, .inr (7, [.double side, .double qa, .double qb, .double qr])), (ha, .inr (0, [.ref hax, .ref hay, .ref hau, .ref hav, .ref ham, .ref has, .ref hak, .int (nI n)])), (hax, .inl (cD, 10, .inr (.inr (.inr (.inl x))))), (hay, .inl (cD, 10, .inr (.inr (.inr (.inl y))))), (hau, .inl (cD, 10, .inr (.inr (.inr (.inl u))))), (hav, .inl (cD, 10, .inr (.inr (.inr (.inl v))))), (ham, .inl (cD, 10, .inr (.inr (.inr (.inl mass))))), (has, .inl (cI, 10, .inl (pb_n so))), (hak, .inl (cZ, 10, .inl stuck)), (hso0, .inr (6, [.ref hsw, .ref hsd, .ref hsc])), (hsw, .inl (cD, 3, .inr (.inr (.inr (.inl width))))), (hsd, .inl (cD, 3, .inr (.inr (.inr (.inl depth))))), (hsc, .inl (cD, 3, .inr (.inr (.inr (.inl charge)))))] H := hP
  have hD : va_D A [(hp, .inr (4, [.ref hq, .ref ha, .ref hso0, .ref hb0, .ref hfx, .ref hfy, .double cut])), (hq, .inr (7, [.double side, .double qa, .double qb, .double qr])), (ha, .inr (0, [.ref hax, .ref hay, .ref hau, .ref hav, .ref ham, .ref has, .ref hak, .int (nI n)])), (hax, .inl (cD, 10, .inr (.inr (.inr (.inl x))))), (hay, .inl (cD, 10, .inr (.inr (.inr (.inl y))))), (hau, .inl (cD, 10, .inr (.inr (.inr (.inl u))))), (hav, .inl (cD, 10, .inr (.inr (.inr (.inl v))))), (ham, .inl (cD, 10, .inr (.inr (.inr (.inl mass))))), (has, .inl (cI, 10, .inl (pb_n so))), (hak, .inl (cZ, 10, .inl stuck)), (hso0, .inr (6, [.ref hsw, .ref hsd, .ref hsc])), (hsw, .inl (cD, 3, .inr (.inr (.inr (.inl width))))), (hsd, .inl (cD, 3, .inr (.inr (.inr (.inl depth))))), (hsc, .inl (cD, 3, .inr (.inr (.inr (.inl charge)))))] := hD
  obtain rfl : r_1 = pb_mid depth so i j := hw3
  have g_3 := pb_midd_I (so := so) (i := i) (j := j) (hdI _ (hso _ (by omega))) (hdI _ (hso _ (by omega)))
  refine lv_dstore_n (lv' := [(3, .double (pb_mid depth so i j)), (0, .ref hp), (1, .int (nI i)), (2, .int (nI j))]) hx hb d_Pulls_energyOfPair_6 rfl hl (by decide) rfl (fun ls hl => ?_)
  refine lv_aload_n hx hb d_Pulls_energyOfPair_7 rfl (lv_at hl 1 rfl) ?_
  refine lv_iload_n hx hb d_Pulls_energyOfPair_8 rfl (lv_at hl 2 rfl) ?_
  refine lv_iload_n hx hb d_Pulls_energyOfPair_9 rfl (lv_at hl 3 rfl) ?_
  refine gx_Vd (st0 := [.int (nI j), .int (nI i), .ref hp]) (As := [.int (nI i), .int (nI j)]) (rest := []) (wr := []) ⟨hx, hb, hml, hown, hts⟩ hN hK hP hD hS hA [0, 1, 2, 3, 4, 5, 6, 7, 8, 9, 10, 11, 12, 13] [] rfl rfl (by decide) (c_Pulls_nearness l dC dI cI cD cZ H.size hp hso0 hb0 hfx hfy cut hq side qa qb qr ha hax hay hau hav ham has hak x y u v mass so stuck n hsw hsd hsc width depth charge i j (by omega) (by omega) (by omega) hso hwI (hrI.w (by decide +kernel) (by decide +kernel))) (cwV 2 hts (gx_gV kw_675 kw_677 kw_8 kw_50 kw_678) rfl rfl rfl (by decide +kernel) ⟨Nat.le_of_ble_eq_true rfl, Nat.le_of_ble_eq_true rfl⟩) 0 4 rfl rfl rfl hl.1 rfl (Nat.le_of_ble_eq_true rfl) d_Pulls_energyOfPair_10 ⟨Nat.le_of_ble_eq_true rfl, Nat.le_of_ble_eq_true rfl⟩ (fun r_4 u_5 H locs hw10 hP hD hS => ?_)
  try dsimp only at hw10 hP hD
  have hP : va_P (dC, dI) classes [(hp, .inr (4, [.ref hq, .ref ha, .ref hso0, .ref hb0, .ref hfx, .ref hfy, .double cut])), (hq, .inr (7, [.double side, .double qa, .double qb, .double qr])), (ha, .inr (0, [.ref hax, .ref hay, .ref hau, .ref hav, .ref ham, .ref has, .ref hak, .int (nI n)])), (hax, .inl (cD, 10, .inr (.inr (.inr (.inl x))))), (hay, .inl (cD, 10, .inr (.inr (.inr (.inl y))))), (hau, .inl (cD, 10, .inr (.inr (.inr (.inl u))))), (hav, .inl (cD, 10, .inr (.inr (.inr (.inl v))))), (ham, .inl (cD, 10, .inr (.inr (.inr (.inl mass))))), (has, .inl (cI, 10, .inl (pb_n so))), (hak, .inl (cZ, 10, .inl stuck)), (hso0, .inr (6, [.ref hsw, .ref hsd, .ref hsc])), (hsw, .inl (cD, 3, .inr (.inr (.inr (.inl width))))), (hsd, .inl (cD, 3, .inr (.inr (.inr (.inl depth))))), (hsc, .inl (cD, 3, .inr (.inr (.inr (.inl charge)))))] H := hP
  have hD : va_D A [(hp, .inr (4, [.ref hq, .ref ha, .ref hso0, .ref hb0, .ref hfx, .ref hfy, .double cut])), (hq, .inr (7, [.double side, .double qa, .double qb, .double qr])), (ha, .inr (0, [.ref hax, .ref hay, .ref hau, .ref hav, .ref ham, .ref has, .ref hak, .int (nI n)])), (hax, .inl (cD, 10, .inr (.inr (.inr (.inl x))))), (hay, .inl (cD, 10, .inr (.inr (.inr (.inl y))))), (hau, .inl (cD, 10, .inr (.inr (.inr (.inl u))))), (hav, .inl (cD, 10, .inr (.inr (.inr (.inl v))))), (ham, .inl (cD, 10, .inr (.inr (.inr (.inl mass))))), (has, .inl (cI, 10, .inl (pb_n so))), (hak, .inl (cZ, 10, .inl stuck)), (hso0, .inr (6, [.ref hsw, .ref hsd, .ref hsc])), (hsw, .inl (cD, 3, .inr (.inr (.inr (.inl width))))), (hsd, .inl (cD, 3, .inr (.inr (.inr (.inl depth))))), (hsc, .inl (cD, 3, .inr (.inr (.inr (.inl charge)))))] := hD
  obtain rfl : r_4 = pb_six (pb_mid width so i j) qr := hw10
  have g_6 := pb_six_I (pb_midw_I (so := so) (i := i) (j := j) (hwI _ (hso _ (by omega))) (hwI _ (hso _ (by omega)))) hrI
  refine lv_dstore (lv' := [(5, .double (pb_six (pb_mid width so i j) qr)), (3, .double (pb_mid depth so i j)), (0, .ref hp), (1, .int (nI i)), (2, .int (nI j))]) hx hb d_Pulls_energyOfPair_13 hl (by decide) rfl (fun ls hl => ?_)
  refine lv_aload_n hx hb d_Pulls_energyOfPair_15 rfl (lv_at hl 2 rfl) ?_
  refine lv_iload_n hx hb d_Pulls_energyOfPair_16 rfl (lv_at hl 3 rfl) ?_
  refine lv_iload_n hx hb d_Pulls_energyOfPair_17 rfl (lv_at hl 4 rfl) ?_
  refine gx_Vd (st0 := [.int (nI j), .int (nI i), .ref hp]) (As := [.int (nI i), .int (nI j)]) (rest := []) (wr := []) ⟨hx, hb, hml, hown, hts⟩ hN hK hP hD hS hA [0, 1, 2, 3, 4, 5, 6, 7, 8, 9, 10, 11, 12, 13] [] rfl rfl (by decide) (c_Pulls_charges l dC dI cI cD cZ H.size hp hso0 hb0 hfx hfy cut hq side qa qb qr ha hax hay hau hav ham has hak x y u v mass so stuck n hsw hsd hsc width depth charge i j (by omega) (by omega) (by omega) hso hcI) (cwV 2 hts (gx_gV kw_679 kw_681 kw_9 kw_50 kw_682) rfl rfl rfl (by decide +kernel) ⟨Nat.le_of_ble_eq_true rfl, Nat.le_of_ble_eq_true rfl⟩) 0 4 rfl rfl rfl hl.1 rfl (Nat.le_of_ble_eq_true rfl) d_Pulls_energyOfPair_18 ⟨Nat.le_of_ble_eq_true rfl, Nat.le_of_ble_eq_true rfl⟩ (fun r_7 u_8 H locs hw18 hP hD hS => ?_)
  try dsimp only at hw18 hP hD
  have hP : va_P (dC, dI) classes [(hp, .inr (4, [.ref hq, .ref ha, .ref hso0, .ref hb0, .ref hfx, .ref hfy, .double cut])), (hq, .inr (7, [.double side, .double qa, .double qb, .double qr])), (ha, .inr (0, [.ref hax, .ref hay, .ref hau, .ref hav, .ref ham, .ref has, .ref hak, .int (nI n)])), (hax, .inl (cD, 10, .inr (.inr (.inr (.inl x))))), (hay, .inl (cD, 10, .inr (.inr (.inr (.inl y))))), (hau, .inl (cD, 10, .inr (.inr (.inr (.inl u))))), (hav, .inl (cD, 10, .inr (.inr (.inr (.inl v))))), (ham, .inl (cD, 10, .inr (.inr (.inr (.inl mass))))), (has, .inl (cI, 10, .inl (pb_n so))), (hak, .inl (cZ, 10, .inl stuck)), (hso0, .inr (6, [.ref hsw, .ref hsd, .ref hsc])), (hsw, .inl (cD, 3, .inr (.inr (.inr (.inl width))))), (hsd, .inl (cD, 3, .inr (.inr (.inr (.inl depth))))), (hsc, .inl (cD, 3, .inr (.inr (.inr (.inl charge)))))] H := hP
  have hD : va_D A [(hp, .inr (4, [.ref hq, .ref ha, .ref hso0, .ref hb0, .ref hfx, .ref hfy, .double cut])), (hq, .inr (7, [.double side, .double qa, .double qb, .double qr])), (ha, .inr (0, [.ref hax, .ref hay, .ref hau, .ref hav, .ref ham, .ref has, .ref hak, .int (nI n)])), (hax, .inl (cD, 10, .inr (.inr (.inr (.inl x))))), (hay, .inl (cD, 10, .inr (.inr (.inr (.inl y))))), (hau, .inl (cD, 10, .inr (.inr (.inr (.inl u))))), (hav, .inl (cD, 10, .inr (.inr (.inr (.inl v))))), (ham, .inl (cD, 10, .inr (.inr (.inr (.inl mass))))), (has, .inl (cI, 10, .inl (pb_n so))), (hak, .inl (cZ, 10, .inl stuck)), (hso0, .inr (6, [.ref hsw, .ref hsd, .ref hsc])), (hsw, .inl (cD, 3, .inr (.inr (.inr (.inl width))))), (hsd, .inl (cD, 3, .inr (.inr (.inr (.inl depth))))), (hsc, .inl (cD, 3, .inr (.inr (.inr (.inl charge)))))] := hD
  obtain rfl : r_7 = pb_chg charge so i j := hw18
  have g_9 := pb_chg_I (so := so) (i := i) (j := j) (hcI _ (hso _ (by omega))) (hcI _ (hso _ (by omega)))
  refine lv_dstore (lv' := [(7, .double (pb_chg charge so i j)), (5, .double (pb_six (pb_mid width so i j) qr)), (3, .double (pb_mid depth so i j)), (0, .ref hp), (1, .int (nI i)), (2, .int (nI j))]) hx hb d_Pulls_energyOfPair_21 hl (by decide) rfl (fun ls hl => ?_)
  refine lv_ldc2d (v := 4616189618054758400) hx hb hown (hts (.constantDouble R_Pulls 130 4616189618054758400) (by decide +kernel)) d_Pulls_energyOfPair_23 ?_
  refine lv_dload_n hx hb d_Pulls_energyOfPair_26 rfl (lv_at hl 2 rfl) ?_
  have g_10 := fp_const (a := 4616189618054758400) (T := (fp_d 1 1076)) (by decide +kernel)
  have g_11 := fp_I_mul (fp_d 0 0) (fp_d 1 1082) g_10 g_3 (by decide +kernel)
  refine lv_dmul hx hb d_Pulls_energyOfPair_27 g_11.n ?_
  refine lv_dload hx hb d_Pulls_energyOfPair_28 (lv_at hl 1 rfl) ?_
  refine lv_dload hx hb d_Pulls_energyOfPair_30 (lv_at hl 1 rfl) ?_
  have g_12 := fp_I_sq (fp_d 1 1170) g_6 (by decide +kernel)
  refine lv_dmul hx hb d_Pulls_energyOfPair_32 g_12.n ?_
  refine lv_dload hx hb d_Pulls_energyOfPair_33 (lv_at hl 1 rfl) ?_
  have g_13 := fp_I_sub (fp_d (-1) 1122) (fp_d 1 1170) g_12 g_6 (by decide +kernel)
  refine lv_dsub hx hb d_Pulls_energyOfPair_35 g_13.n ?_
  have g_14 := fp_I_mul (fp_d (-1) 1130) (fp_d 1 1178) g_11 g_13 (by decide +kernel)
  refine lv_dmul hx hb d_Pulls_energyOfPair_36 g_14.n ?_
  refine lv_dload hx hb d_Pulls_energyOfPair_37 (lv_at hl 0 rfl) ?_
  refine lv_dconst1 hx hb d_Pulls_energyOfPair_39 ?_
  refine lv_aload_n hx hb d_Pulls_energyOfPair_40 rfl (lv_at hl 3 rfl) ?_
  refine va_get (D := (dC, dI)) (ci := 4) (v := .ref hq) (C := R_Pulls) (T := F_Pulls) (N := 7) hx hb hts (fun w h => List.mem_cons_of_mem _ (i_Pulls w h)) hown hK hP 0 rfl rfl 0 (by decide) (hts _ (List.mem_cons_of_mem _ kw_224)) (fun _ h9 => h9) rfl d_Pulls_energyOfPair_41 ?_
  refine va_get (D := (dC, dI)) (ci := 7) (v := .double qr) (C := R_Square) (T := F_Square) (N := 4) hx hb hts (fun w h => List.mem_cons_of_mem _ (i_Square w h)) hown hK hP 1 rfl rfl 3 (by decide) (hts _ (List.mem_cons_of_mem _ kw_92)) (fun _ h9 => h9) rfl d_Pulls_energyOfPair_44 ?_
  have g_15 := fp_const (a := FP.dconst1) (T := (fp_d 1 1074)) (by decide +kernel)
  have g_16 := fp_I_div (fp_d 7430739 1042) (fp_d 1 1086) g_15 hrI (by decide +kernel)
  refine lv_ddiv hx hb d_Pulls_energyOfPair_47 g_16.n ?_
  refine lv_dconst1 hx hb d_Pulls_energyOfPair_48 ?_
  refine lv_aload_n hx hb d_Pulls_energyOfPair_49 rfl (lv_at hl 3 rfl) ?_
  refine va_get (D := (dC, dI)) (ci := 4) (v := .double cut) (C := R_Pulls) (T := F_Pulls) (N := 7) hx hb hts (fun w h => List.mem_cons_of_mem _ (i_Pulls w h)) hown hK hP 0 rfl rfl 6 (by decide) (hts _ (List.mem_cons_of_mem _ kw_234)) (fun _ h9 => h9) rfl d_Pulls_energyOfPair_50 ?_
  refine lv_aload_n hx hb d_Pulls_energyOfPair_53 rfl (lv_at hl 3 rfl) ?_
  refine va_get (D := (dC, dI)) (ci := 4) (v := .double cut) (C := R_Pulls) (T := F_Pulls) (N := 7) hx hb hts (fun w h => List.mem_cons_of_mem _ (i_Pulls w h)) hown hK hP 0 rfl rfl 6 (by decide) (hts _ (List.mem_cons_of_mem _ kw_234)) (fun _ h9 => h9) rfl d_Pulls_energyOfPair_54 ?_
  have g_17 := fp_I_mul (fp_d 1 1072) (fp_d 1 1082) hcut hcut (by decide +kernel)
  refine lv_dmul hx hb d_Pulls_energyOfPair_57 g_17.n ?_
  have g_18 := fp_I_div (fp_d 1 1066) (fp_d 1 1076) g_15 g_17 (by decide +kernel)
  refine lv_ddiv hx hb d_Pulls_energyOfPair_58 g_18.n ?_
  have g_19 := fp_I_sub (fp_d (-2096245) 1055) (fp_d 1048575 1066) g_16 g_18 (by decide +kernel)
  refine lv_dsub hx hb d_Pulls_energyOfPair_59 g_19.n ?_
  have g_20 := fp_I_mul (fp_d (-1048575) 1072) (fp_d 1048575 1072) g_9 g_19 (by decide +kernel)
  refine lv_dmul hx hb d_Pulls_energyOfPair_60 g_20.n ?_
  have g_21 := fp_I_add (fp_d (-8388609) 1107) (fp_d 8388609 1155) g_14 g_20 (by decide +kernel)
  refine lv_dadd hx hb d_Pulls_energyOfPair_61 g_21.n ?_
  have hP9 := hP.sub (ws' := [(hp, .inr (4, [.ref hq, .ref ha, .ref hso0, .ref hb0, .ref hfx, .ref hfy, .double cut])), (hq, .inr (7, [.double side, .double qa, .double qb, .double qr])), (ha, .inr (0, [.ref hax, .ref hay, .ref hau, .ref hav, .ref ham, .ref has, .ref hak, .int (nI n)])), (hax, .inl (cD, 10, .inr (.inr (.inr (.inl x))))), (hay, .inl (cD, 10, .inr (.inr (.inr (.inl y))))), (hau, .inl (cD, 10, .inr (.inr (.inr (.inl u))))), (hav, .inl (cD, 10, .inr (.inr (.inr (.inl v))))), (ham, .inl (cD, 10, .inr (.inr (.inr (.inl mass))))), (has, .inl (cI, 10, .inl (pb_n so))), (hak, .inl (cZ, 10, .inl stuck)), (hso0, .inr (6, [.ref hsw, .ref hsd, .ref hsc])), (hsw, .inl (cD, 3, .inr (.inr (.inr (.inl width))))), (hsd, .inl (cD, 3, .inr (.inr (.inr (.inl depth))))), (hsc, .inl (cD, 3, .inr (.inr (.inr (.inl charge)))))]) [0, 1, 2, 3, 4, 5, 6, 7, 8, 9, 10, 11, 12, 13] rfl
  have hD9 := hD.sub (ws' := [(hp, .inr (4, [.ref hq, .ref ha, .ref hso0, .ref hb0, .ref hfx, .ref hfy, .double cut])), (hq, .inr (7, [.double side, .double qa, .double qb, .double qr])), (ha, .inr (0, [.ref hax, .ref hay, .ref hau, .ref hav, .ref ham, .ref has, .ref hak, .int (nI n)])), (hax, .inl (cD, 10, .inr (.inr (.inr (.inl x))))), (hay, .inl (cD, 10, .inr (.inr (.inr (.inl y))))), (hau, .inl (cD, 10, .inr (.inr (.inr (.inl u))))), (hav, .inl (cD, 10, .inr (.inr (.inr (.inl v))))), (ham, .inl (cD, 10, .inr (.inr (.inr (.inl mass))))), (has, .inl (cI, 10, .inl (pb_n so))), (hak, .inl (cZ, 10, .inl stuck)), (hso0, .inr (6, [.ref hsw, .ref hsd, .ref hsc])), (hsw, .inl (cD, 3, .inr (.inr (.inr (.inl width))))), (hsd, .inl (cD, 3, .inr (.inr (.inr (.inl depth))))), (hsc, .inl (cD, 3, .inr (.inr (.inr (.inl charge)))))]) [0, 1, 2, 3, 4, 5, 6, 7, 8, 9, 10, 11, 12, 13] (by decide) rfl
  exact W.dret (v := (FP.dadd (FP.dmul (FP.dmul 4616189618054758400 (pb_mid depth so i j)) (FP.dsub (FP.dmul (pb_six (pb_mid width so i j) qr) (pb_six (pb_mid width so i j) qr)) (pb_six (pb_mid width so i j) qr))) (FP.dmul (pb_chg charge so i j) (FP.dsub (FP.ddiv FP.dconst1 qr) (FP.ddiv FP.dconst1 (FP.dmul cut cut)))))) hx hb hr (fun t ht hW => ⟨⟨(FP.dadd (FP.dmul (FP.dmul 4616189618054758400 (pb_mid depth so i j)) (FP.dsub (FP.dmul (pb_six (pb_mid width so i j) qr) (pb_six (pb_mid width so i j) qr)) (pb_six (pb_mid width so i j) qr))) (FP.dmul (pb_chg charge so i j) (FP.dsub (FP.ddiv FP.dconst1 qr) (FP.ddiv FP.dconst1 (FP.dmul cut cut))))), (), rfl, rfl, by rw [ht]; exact hP9, va_K.moved hW.alike hK, hD9⟩, hS.F ht⟩) hS.2.2 d_Pulls_energyOfPair_62
set_option maxHeartbeats 4000000 in
set_option maxRecDepth 100000 in
/-- THE PULL of a BOND -/
theorem c_Pulls_pullOfBond (l : Launch) (dC : Nat → ClassId) (dI : Nat → Nat → Nat) (cI cD cZ : ClassId) (sz : Nat) (hp : Nat) (hso0 : Nat) (hb0 : Nat) (hfx : Nat) (hfy : Nat) (cut : UInt64) (hq : Nat) (side : UInt64) (qa : UInt64) (qb : UInt64) (qr : UInt64) (ha : Nat) (hlf : Nat) (hls : Nat) (hlk : Nat) (hll : Nat) (bi : Nat → Nat) (bj : Nat → Nat) (bk : Nat → UInt64) (bl : Nat → UInt64) (nb : Nat) (b : Nat) (hnb : nb ≤ 8) (hb9 : b < nb) (hbk : ∀ i, i < nb → pb_Id (bk i)) (hbl : ∀ i, i < nb → pb_Il (bl i)) (hrI : fp_I qr 0 (fp_d 578 1074)) : Met l y_Pulls_pullOfBond w_Pulls_pullOfBond ({ frames := 0, cells := 0, slots := 0, locals := 0 }) (va_Pc [.ref hp, .int (nI b)] (gx_B (dC, dI) classes (gx_T cI cD cZ) [(hp, .inr (4, [.ref hq, .ref ha, .ref hso0, .ref hb0, .ref hfx, .ref hfy, .double cut])), (hq, .inr (7, [.double side, .double qa, .double qb, .double qr])), (hb0, .inr (1, [.ref hlf, .ref hls, .ref hlk, .ref hll, .int (nI nb)])), (hlf, .inl (cI, 8, .inl (pb_n bi))), (hls, .inl (cI, 8, .inl (pb_n bj))), (hlk, .inl (cD, 8, .inr (.inr (.inr (.inl bk))))), (hll, .inl (cD, 8, .inr (.inr (.inr (.inl bl)))))] sz)) (va_Qd (fun (rr : UInt64) (uu : Unit) => rr = pb_pbd (bk b) (bl b) qr) (fun (uu : Unit) t => gx_E (dC, dI) classes (gx_T cI cD cZ) (va_A [(hp, .inr (4, [.ref hq, .ref ha, .ref hso0, .ref hb0, .ref hfx, .ref hfy, .double cut])), (hq, .inr (7, [.double side, .double qa, .double qb, .double qr])), (hb0, .inr (1, [.ref hlf, .ref hls, .ref hlk, .ref hll, .int (nI nb)])), (hlf, .inl (cI, 8, .inl (pb_n bi))), (hls, .inl (cI, 8, .inl (pb_n bj))), (hlk, .inl (cD, 8, .inr (.inr (.inr (.inl bk))))), (hll, .inl (cD, 8, .inr (.inr (.inr (.inl bl)))))] sz) [(hp, .inr (4, [.ref hq, .ref ha, .ref hso0, .ref hb0, .ref hfx, .ref hfy, .double cut])), (hq, .inr (7, [.double side, .double qa, .double qb, .double qr])), (hb0, .inr (1, [.ref hlf, .ref hls, .ref hlk, .ref hll, .int (nI nb)])), (hlf, .inl (cI, 8, .inl (pb_n bi))), (hls, .inl (cI, 8, .inl (pb_n bj))), (hlk, .inl (cD, 8, .inr (.inr (.inr (.inl bk))))), (hll, .inl (cD, 8, .inr (.inr (.inr (.inl bl)))))] t) (va_A [(hp, .inr (4, [.ref hq, .ref ha, .ref hso0, .ref hb0, .ref hfx, .ref hfy, .double cut])), (hq, .inr (7, [.double side, .double qa, .double qb, .double qr])), (hb0, .inr (1, [.ref hlf, .ref hls, .ref hlk, .ref hll, .int (nI nb)])), (hlf, .inl (cI, 8, .inl (pb_n bi))), (hls, .inl (cI, 8, .inl (pb_n bj))), (hlk, .inl (cD, 8, .inr (.inr (.inr (.inl bk))))), (hll, .inl (cD, 8, .inr (.inr (.inr (.inl bl)))))] sz)) 0 0 (va_A [(hp, .inr (4, [.ref hq, .ref ha, .ref hso0, .ref hb0, .ref hfx, .ref hfy, .double cut])), (hq, .inr (7, [.double side, .double qa, .double qb, .double qr])), (hb0, .inr (1, [.ref hlf, .ref hls, .ref hlk, .ref hll, .int (nI nb)])), (hlf, .inl (cI, 8, .inl (pb_n bi))), (hls, .inl (cI, 8, .inl (pb_n bj))), (hlk, .inl (cD, 8, .inr (.inr (.inr (.inl bk))))), (hll, .inl (cD, 8, .inr (.inr (.inr (.inl bl)))))] sz) := by
  refine Met.ofW (cc := b_Pulls_pullOfBond) (maxL := 2) (ret := (some .double)) (by decide) rfl ?_
  intro p e s m args below meth c s₁ B hml hv
  obtain ⟨rfl, hsz, hP, hK, hD0, hN⟩ := hv
  have hx := B.exec
  have hb := B.bytes
  have hr := B.returns
  have hts := atoms_spec (ws := w_Pulls_pullOfBond) B.pre
  have hown : s.vm.findClass R_Pulls = some m.cls := findClass_of_methodNamed B.named
  have hlocks := B.notSynchronized
  subst hsz
  have hD := hD0.self (sz := s.heap.size)
  generalize hAe : va_A [(hp, .inr (4, [.ref hq, .ref ha, .ref hso0, .ref hb0, .ref hfx, .ref hfy, .double cut])), (hq, .inr (7, [.double side, .double qa, .double qb, .double qr])), (hb0, .inr (1, [.ref hlf, .ref hls, .ref hlk, .ref hll, .int (nI nb)])), (hlf, .inl (cI, 8, .inl (pb_n bi))), (hls, .inl (cI, 8, .inl (pb_n bj))), (hlk, .inl (cD, 8, .inr (.inr (.inr (.inl bk))))), (hll, .inl (cD, 8, .inr (.inr (.inr (.inl bl)))))] s.heap.size = A at hD ⊢
  have hA : ∀ q : Nat, s.heap.size ≤ q → A q := fun q h => by rw [← hAe]; exact Or.inr h
  have hS : va_S A s.heap s.heap [] := va_S.rf
  have hl := lv_entry ([.ref hp, .int (nI b)]) (n := 2) (Nat.le_of_ble_eq_true rfl)
  rw [lg_entry_eq]
  generalize (lg_sl ([.ref hp, .int (nI b)]) ++ List.replicate (2 - (lg_sl ([.ref hp, .int (nI b)])).length) Slot.unset).toArray = ls at hl ⊢
  have hl : lv_has ls 2 [(0, .ref hp), (1, .int (nI b))] := hl
  obtain ⟨H, hH⟩ : ∃ H, H = s.heap := ⟨_, rfl⟩
  rw [← hH] at hP
  have hS : va_S A s.heap H [] := by rw [hH]; exact hS
  refine gx_start hH ?_
  refine lv_aload_n hx hb d_Pulls_pullOfBond_0 rfl (lv_at hl 0 rfl) ?_
  refine va_get (D := (dC, dI)) (ci := 4) (v := .ref hb0) (C := R_Pulls) (T := F_Pulls) (N := 7) hx hb hts (fun w h => List.mem_cons_of_mem _ (i_Pulls w h)) hown hK hP 0 rfl rfl 3 (by decide) (hts _ (List.mem_cons_of_mem _ kw_227)) (fun _ h9 => h9) rfl d_Pulls_pullOfBond_1 ?_
  refine va_get (D := (dC, dI)) (ci := 1) (v := .ref hlk) (C := R_Links) (T := F_Links) (N := 5) hx hb hts (fun w h => List.mem_cons_of_mem _ (i_Links w h)) hown hK hP 2 rfl rfl 2 (by decide) (hts _ (List.mem_cons_of_mem _ kw_198)) (fun _ h9 => h9) rfl d_Pulls_pullOfBond_4 ?_
  refine lv_iload_n hx hb d_Pulls_pullOfBond_7 rfl (lv_at hl 1 rfl) ?_
  refine gx_dald hx hb hK hP 5 1 rfl rfl (by omega) (by decide) d_Pulls_pullOfBond_8 ?_
  have g_1 := hbk b (by omega)
  refine lv_aload_n hx hb d_Pulls_pullOfBond_9 rfl (lv_at hl 0 rfl) ?_
  refine va_get (D := (dC, dI)) (ci := 4) (v := .ref hq) (C := R_Pulls) (T := F_Pulls) (N := 7) hx hb hts (fun w h => List.mem_cons_of_mem _ (i_Pulls w h)) hown hK hP 0 rfl rfl 0 (by decide) (hts _ (List.mem_cons_of_mem _ kw_224)) (fun _ h9 => h9) rfl d_Pulls_pullOfBond_10 ?_
  refine va_get (D := (dC, dI)) (ci := 7) (v := .double qr) (C := R_Square) (T := F_Square) (N := 4) hx hb hts (fun w h => List.mem_cons_of_mem _ (i_Square w h)) hown hK hP 1 rfl rfl 3 (by decide) (hts _ (List.mem_cons_of_mem _ kw_92)) (fun _ h9 => h9) rfl d_Pulls_pullOfBond_13 ?_
  refine lv_aload_n hx hb d_Pulls_pullOfBond_16 rfl (lv_at hl 0 rfl) ?_
  refine va_get (D := (dC, dI)) (ci := 4) (v := .ref hb0) (C := R_Pulls) (T := F_Pulls) (N := 7) hx hb hts (fun w h => List.mem_cons_of_mem _ (i_Pulls w h)) hown hK hP 0 rfl rfl 3 (by decide) (hts _ (List.mem_cons_of_mem _ kw_227)) (fun _ h9 => h9) rfl d_Pulls_pullOfBond_17 ?_
  refine va_get (D := (dC, dI)) (ci := 1) (v := .ref hll) (C := R_Links) (T := F_Links) (N := 5) hx hb hts (fun w h => List.mem_cons_of_mem _ (i_Links w h)) hown hK hP 2 rfl rfl 3 (by decide) (hts _ (List.mem_cons_of_mem _ kw_200)) (fun _ h9 => h9) rfl d_Pulls_pullOfBond_20 ?_
  refine lv_iload_n hx hb d_Pulls_pullOfBond_23 rfl (lv_at hl 1 rfl) ?_
  refine gx_dald hx hb hK hP 6 1 rfl rfl (by omega) (by decide) d_Pulls_pullOfBond_24 ?_
  have g_2 := hbl b (by omega)
  refine lv_aload_n hx hb d_Pulls_pullOfBond_25 rfl (lv_at hl 0 rfl) ?_
  refine va_get (D := (dC, dI)) (ci := 4) (v := .ref hb0) (C := R_Pulls) (T := F_Pulls) (N := 7) hx hb hts (fun w h => List.mem_cons_of_mem _ (i_Pulls w h)) hown hK hP 0 rfl rfl 3 (by decide) (hts _ (List.mem_cons_of_mem _ kw_227)) (fun _ h9 => h9) rfl d_Pulls_pullOfBond_26 ?_
  refine va_get (D := (dC, dI)) (ci := 1) (v := .ref hll) (C := R_Links) (T := F_Links) (N := 5) hx hb hts (fun w h => List.mem_cons_of_mem _ (i_Links w h)) hown hK hP 2 rfl rfl 3 (by decide) (hts _ (List.mem_cons_of_mem _ kw_200)) (fun _ h9 => h9) rfl d_Pulls_pullOfBond_29 ?_
  refine lv_iload_n hx hb d_Pulls_pullOfBond_32 rfl (lv_at hl 1 rfl) ?_
  refine gx_dald hx hb hK hP 6 1 rfl rfl (by omega) (by decide) d_Pulls_pullOfBond_33 ?_
  have g_3 := fp_I_mul (fp_d 1 1068) (fp_d 1 1082) g_2 g_2 (by decide +kernel)
  refine lv_dmul hx hb d_Pulls_pullOfBond_34 g_3.n ?_
  have g_4 := fp_I_sub (fp_d (-1) 1082) (fp_d 36991 1068) hrI g_3 (by decide +kernel)
  refine lv_dsub hx hb d_Pulls_pullOfBond_35 g_4.n ?_
  have g_5 := fp_I_mul (fp_d (-1) 1088) (fp_d 36991 1074) g_1 g_4 (by decide +kernel)
  refine lv_dmul hx hb d_Pulls_pullOfBond_36 g_5.n ?_
  have hP9 := hP.sub (ws' := [(hp, .inr (4, [.ref hq, .ref ha, .ref hso0, .ref hb0, .ref hfx, .ref hfy, .double cut])), (hq, .inr (7, [.double side, .double qa, .double qb, .double qr])), (hb0, .inr (1, [.ref hlf, .ref hls, .ref hlk, .ref hll, .int (nI nb)])), (hlf, .inl (cI, 8, .inl (pb_n bi))), (hls, .inl (cI, 8, .inl (pb_n bj))), (hlk, .inl (cD, 8, .inr (.inr (.inr (.inl bk))))), (hll, .inl (cD, 8, .inr (.inr (.inr (.inl bl)))))]) [0, 1, 2, 3, 4, 5, 6] rfl
  have hD9 := hD.sub (ws' := [(hp, .inr (4, [.ref hq, .ref ha, .ref hso0, .ref hb0, .ref hfx, .ref hfy, .double cut])), (hq, .inr (7, [.double side, .double qa, .double qb, .double qr])), (hb0, .inr (1, [.ref hlf, .ref hls, .ref hlk, .ref hll, .int (nI nb)])), (hlf, .inl (cI, 8, .inl (pb_n bi))), (hls, .inl (cI, 8, .inl (pb_n bj))), (hlk, .inl (cD, 8, .inr (.inr (.inr (.inl bk))))), (hll, .inl (cD, 8, .inr (.inr (.inr (.inl bl)))))]) [0, 1, 2, 3, 4, 5, 6] (by decide) rfl
  exact W.dret (v := (FP.dmul (bk b) (FP.dsub qr (FP.dmul (bl b) (bl b))))) hx hb hr (fun t ht hW => ⟨⟨(FP.dmul (bk b) (FP.dsub qr (FP.dmul (bl b) (bl b)))), (), rfl, rfl, by rw [ht]; exact hP9, va_K.moved hW.alike hK, hD9⟩, hS.F ht⟩) hS.2.2 d_Pulls_pullOfBond_37
set_option maxHeartbeats 4000000 in
set_option maxRecDepth 100000 in
/-- addPull -/
theorem c_Pulls_addPull (l : Launch) (dC : Nat → ClassId) (dI : Nat → Nat → Nat) (cI cD cZ : ClassId) (sz : Nat) (hp : Nat) (hso0 : Nat) (hb0 : Nat) (hfx : Nat) (hfy : Nat) (cut : UInt64) (hq : Nat) (side : UInt64) (qa : UInt64) (qb : UInt64) (qr : UInt64) (ha : Nat) (i : Nat) (f : UInt64) (fx : Nat → UInt64) (fy : Nat → UInt64) (fx0 : UInt64) (fy0 : UInt64) (hi : i < 10) (hf : fp_I f (fp_d (-1) 1200) (fp_d 1 1200)) (hqa : pb_Ia qa) (hqb : pb_Ia qb) (hfx0 : fp_I fx0 (fp_d (-1) 1220) (fp_d 1 1220)) (hfy0 : fp_I fy0 (fp_d (-1) 1220) (fp_d 1 1220)) : Met l y_Pulls_addPull w_Pulls_addPull ({ frames := 0, cells := 0, slots := 0, locals := 0 }) (va_Pc [.ref hp, .int (nI i), .double f] (gx_B (dC, dI) classes (gx_T cI cD cZ) [(hp, .inr (4, [.ref hq, .ref ha, .ref hso0, .ref hb0, .ref hfx, .ref hfy, .double cut])), (hq, .inr (7, [.double side, .double qa, .double qb, .double qr])), (hfx, .inl (cD, 10, .inr (.inr (.inr (.inl (vf_upd fx i fx0)))))), (hfy, .inl (cD, 10, .inr (.inr (.inr (.inl (vf_upd fy i fy0))))))] sz)) (va_Qv (fun (uu : Unit) => True) (fun (uu : Unit) t => gx_E (dC, dI) classes (gx_T cI cD cZ) (va_A [(hp, .inr (4, [.ref hq, .ref ha, .ref hso0, .ref hb0, .ref hfx, .ref hfy, .double cut])), (hq, .inr (7, [.double side, .double qa, .double qb, .double qr])), (hfx, .inl (cD, 10, .inr (.inr (.inr (.inl (vf_upd fx i fx0)))))), (hfy, .inl (cD, 10, .inr (.inr (.inr (.inl (vf_upd fy i fy0))))))] sz) [(hp, .inr (4, [.ref hq, .ref ha, .ref hso0, .ref hb0, .ref hfx, .ref hfy, .double cut])), (hq, .inr (7, [.double side, .double qa, .double qb, .double qr])), (hfx, .inl (cD, 10, .inr (.inr (.inr (.inl (vf_upd fx i (FP.dadd fx0 (FP.dmul f qa)))))))), (hfy, .inl (cD, 10, .inr (.inr (.inr (.inl (vf_upd fy i (FP.dadd fy0 (FP.dmul f qb))))))))] t) (va_A [(hp, .inr (4, [.ref hq, .ref ha, .ref hso0, .ref hb0, .ref hfx, .ref hfy, .double cut])), (hq, .inr (7, [.double side, .double qa, .double qb, .double qr])), (hfx, .inl (cD, 10, .inr (.inr (.inr (.inl (vf_upd fx i fx0)))))), (hfy, .inl (cD, 10, .inr (.inr (.inr (.inl (vf_upd fy i fy0))))))] sz)) 0 0 (va_A [(hp, .inr (4, [.ref hq, .ref ha, .ref hso0, .ref hb0, .ref hfx, .ref hfy, .double cut])), (hq, .inr (7, [.double side, .double qa, .double qb, .double qr])), (hfx, .inl (cD, 10, .inr (.inr (.inr (.inl (vf_upd fx i fx0)))))), (hfy, .inl (cD, 10, .inr (.inr (.inr (.inl (vf_upd fy i fy0))))))] sz) := by
  refine Met.ofW (cc := b_Pulls_addPull) (maxL := 4) (ret := none) (by decide) rfl ?_
  intro p e s m args below meth c s₁ B hml hv
  obtain ⟨rfl, hsz, hP, hK, hD0, hN⟩ := hv
  have hx := B.exec
  have hb := B.bytes
  have hr := B.returns
  have hts := atoms_spec (ws := w_Pulls_addPull) B.pre
  have hown : s.vm.findClass R_Pulls = some m.cls := findClass_of_methodNamed B.named
  have hlocks := B.notSynchronized
  subst hsz
  have hD := hD0.self (sz := s.heap.size)
  generalize hAe : va_A [(hp, .inr (4, [.ref hq, .ref ha, .ref hso0, .ref hb0, .ref hfx, .ref hfy, .double cut])), (hq, .inr (7, [.double side, .double qa, .double qb, .double qr])), (hfx, .inl (cD, 10, .inr (.inr (.inr (.inl (vf_upd fx i fx0)))))), (hfy, .inl (cD, 10, .inr (.inr (.inr (.inl (vf_upd fy i fy0))))))] s.heap.size = A at hD ⊢
  have hA : ∀ q : Nat, s.heap.size ≤ q → A q := fun q h => by rw [← hAe]; exact Or.inr h
  have hS : va_S A s.heap s.heap [] := va_S.rf
  have hl := lv_entry ([.ref hp, .int (nI i), .double f]) (n := 4) (Nat.le_of_ble_eq_true rfl)
  rw [lg_entry_eq]
  generalize (lg_sl ([.ref hp, .int (nI i), .double f]) ++ List.replicate (4 - (lg_sl ([.ref hp, .int (nI i), .double f])).length) Slot.unset).toArray = ls at hl ⊢
  have hl : lv_has ls 4 [(0, .ref hp), (1, .int (nI i)), (2, .double f)] := hl
  obtain ⟨H, hH⟩ : ∃ H, H = s.heap := ⟨_, rfl⟩
  rw [← hH] at hP
  have hS : va_S A s.heap H [] := by rw [hH]; exact hS
  refine gx_start hH ?_
  refine lv_aload_n hx hb d_Pulls_addPull_0 rfl (lv_at hl 0 rfl) ?_
  refine va_get (D := (dC, dI)) (ci := 4) (v := .ref hfx) (C := R_Pulls) (T := F_Pulls) (N := 7) hx hb hts (fun w h => List.mem_cons_of_mem _ (i_Pulls w h)) hown hK hP 0 rfl rfl 4 (by decide) (hts _ (List.mem_cons_of_mem _ kw_228)) (fun _ h9 => h9) rfl d_Pulls_addPull_1 ?_
  refine lv_iload_n hx hb d_Pulls_addPull_4 rfl (lv_at hl 1 rfl) ?_
  refine lv_aload_n hx hb d_Pulls_addPull_5 rfl (lv_at hl 0 rfl) ?_
  refine va_get (D := (dC, dI)) (ci := 4) (v := .ref hfx) (C := R_Pulls) (T := F_Pulls) (N := 7) hx hb hts (fun w h => List.mem_cons_of_mem _ (i_Pulls w h)) hown hK hP 0 rfl rfl 4 (by decide) (hts _ (List.mem_cons_of_mem _ kw_228)) (fun _ h9 => h9) rfl d_Pulls_addPull_6 ?_
  refine lv_iload_n hx hb d_Pulls_addPull_9 rfl (lv_at hl 1 rfl) ?_
  refine gx_dald hx hb hK hP 2 1 rfl rfl (by omega) (by decide) d_Pulls_addPull_10 ?_
  rw [pb_us]
  refine lv_dload_n hx hb d_Pulls_addPull_11 rfl (lv_at hl 2 rfl) ?_
  refine lv_aload_n hx hb d_Pulls_addPull_12 rfl (lv_at hl 0 rfl) ?_
  refine va_get (D := (dC, dI)) (ci := 4) (v := .ref hq) (C := R_Pulls) (T := F_Pulls) (N := 7) hx hb hts (fun w h => List.mem_cons_of_mem _ (i_Pulls w h)) hown hK hP 0 rfl rfl 0 (by decide) (hts _ (List.mem_cons_of_mem _ kw_224)) (fun _ h9 => h9) rfl d_Pulls_addPull_13 ?_
  refine va_get (D := (dC, dI)) (ci := 7) (v := .double qa) (C := R_Square) (T := F_Square) (N := 4) hx hb hts (fun w h => List.mem_cons_of_mem _ (i_Square w h)) hown hK hP 1 rfl rfl 1 (by decide) (hts _ (List.mem_cons_of_mem _ kw_88)) (fun _ h9 => h9) rfl d_Pulls_addPull_16 ?_
  have g_1 := fp_I_mul (fp_d (-17) 1200) (fp_d 17 1200) hf hqa (by decide +kernel)
  refine lv_dmul hx hb d_Pulls_addPull_19 g_1.n ?_
  have g_2 := fp_I_add (fp_d (-1048593) 1200) (fp_d 1048593 1200) hfx0 g_1 (by decide +kernel)
  refine lv_dadd hx hb d_Pulls_addPull_20 g_2.n ?_
  refine gx_dast hx hb hK hP hD hS 2 1 rfl rfl (by omega) (by decide) d_Pulls_addPull_21 (fun H locs hP hD hS => ?_)
  have hP : va_P (dC, dI) classes [(hp, .inr (4, [.ref hq, .ref ha, .ref hso0, .ref hb0, .ref hfx, .ref hfy, .double cut])), (hq, .inr (7, [.double side, .double qa, .double qb, .double qr])), (hfx, .inl (cD, 10, .inr (.inr (.inr (.inl (vf_upd (vf_upd fx i fx0) i (FP.dadd fx0 (FP.dmul f qa)))))))), (hfy, .inl (cD, 10, .inr (.inr (.inr (.inl (vf_upd fy i fy0))))))] H := hP
  have hD : va_D A [(hp, .inr (4, [.ref hq, .ref ha, .ref hso0, .ref hb0, .ref hfx, .ref hfy, .double cut])), (hq, .inr (7, [.double side, .double qa, .double qb, .double qr])), (hfx, .inl (cD, 10, .inr (.inr (.inr (.inl (vf_upd (vf_upd fx i fx0) i (FP.dadd fx0 (FP.dmul f qa)))))))), (hfy, .inl (cD, 10, .inr (.inr (.inr (.inl (vf_upd fy i fy0))))))] := hD
  rw [pb_uu] at hP hD
  refine lv_aload_n hx hb d_Pulls_addPull_22 rfl (lv_at hl 0 rfl) ?_
  refine va_get (D := (dC, dI)) (ci := 4) (v := .ref hfy) (C := R_Pulls) (T := F_Pulls) (N := 7) hx hb hts (fun w h => List.mem_cons_of_mem _ (i_Pulls w h)) hown hK hP 0 rfl rfl 5 (by decide) (hts _ (List.mem_cons_of_mem _ kw_231)) (fun _ h9 => h9) rfl d_Pulls_addPull_23 ?_
  refine lv_iload_n hx hb d_Pulls_addPull_26 rfl (lv_at hl 1 rfl) ?_
  refine lv_aload_n hx hb d_Pulls_addPull_27 rfl (lv_at hl 0 rfl) ?_
  refine va_get (D := (dC, dI)) (ci := 4) (v := .ref hfy) (C := R_Pulls) (T := F_Pulls) (N := 7) hx hb hts (fun w h => List.mem_cons_of_mem _ (i_Pulls w h)) hown hK hP 0 rfl rfl 5 (by decide) (hts _ (List.mem_cons_of_mem _ kw_231)) (fun _ h9 => h9) rfl d_Pulls_addPull_28 ?_
  refine lv_iload_n hx hb d_Pulls_addPull_31 rfl (lv_at hl 1 rfl) ?_
  refine gx_dald hx hb hK hP 3 1 rfl rfl (by omega) (by decide) d_Pulls_addPull_32 ?_
  rw [pb_us]
  refine lv_dload_n hx hb d_Pulls_addPull_33 rfl (lv_at hl 2 rfl) ?_
  refine lv_aload_n hx hb d_Pulls_addPull_34 rfl (lv_at hl 0 rfl) ?_
  refine va_get (D := (dC, dI)) (ci := 4) (v := .ref hq) (C := R_Pulls) (T := F_Pulls) (N := 7) hx hb hts (fun w h => List.mem_cons_of_mem _ (i_Pulls w h)) hown hK hP 0 rfl rfl 0 (by decide) (hts _ (List.mem_cons_of_mem _ kw_224)) (fun _ h9 => h9) rfl d_Pulls_addPull_35 ?_
  refine va_get (D := (dC, dI)) (ci := 7) (v := .double qb) (C := R_Square) (T := F_Square) (N := 4) hx hb hts (fun w h => List.mem_cons_of_mem _ (i_Square w h)) hown hK hP 1 rfl rfl 2 (by decide) (hts _ (List.mem_cons_of_mem _ kw_91)) (fun _ h9 => h9) rfl d_Pulls_addPull_38 ?_
  have g_3 := fp_I_mul (fp_d (-17) 1200) (fp_d 17 1200) hf hqb (by decide +kernel)
  refine lv_dmul hx hb d_Pulls_addPull_41 g_3.n ?_
  have g_4 := fp_I_add (fp_d (-1048593) 1200) (fp_d 1048593 1200) hfy0 g_3 (by decide +kernel)
  refine lv_dadd hx hb d_Pulls_addPull_42 g_4.n ?_
  refine gx_dast hx hb hK hP hD hS 3 1 rfl rfl (by omega) (by decide) d_Pulls_addPull_43 (fun H locs hP hD hS => ?_)
  have hP : va_P (dC, dI) classes [(hp, .inr (4, [.ref hq, .ref ha, .ref hso0, .ref hb0, .ref hfx, .ref hfy, .double cut])), (hq, .inr (7, [.double side, .double qa, .double qb, .double qr])), (hfx, .inl (cD, 10, .inr (.inr (.inr (.inl (vf_upd fx i (FP.dadd fx0 (FP.dmul f qa)))))))), (hfy, .inl (cD, 10, .inr (.inr (.inr (.inl (vf_upd (vf_upd fy i fy0) i (FP.dadd fy0 (FP.dmul f qb))))))))] H := hP
  have hD : va_D A [(hp, .inr (4, [.ref hq, .ref ha, .ref hso0, .ref hb0, .ref hfx, .ref hfy, .double cut])), (hq, .inr (7, [.double side, .double qa, .double qb, .double qr])), (hfx, .inl (cD, 10, .inr (.inr (.inr (.inl (vf_upd fx i (FP.dadd fx0 (FP.dmul f qa)))))))), (hfy, .inl (cD, 10, .inr (.inr (.inr (.inl (vf_upd (vf_upd fy i fy0) i (FP.dadd fy0 (FP.dmul f qb))))))))] := hD
  rw [pb_uu] at hP hD
  have hP9 := hP.sub (ws' := [(hp, .inr (4, [.ref hq, .ref ha, .ref hso0, .ref hb0, .ref hfx, .ref hfy, .double cut])), (hq, .inr (7, [.double side, .double qa, .double qb, .double qr])), (hfx, .inl (cD, 10, .inr (.inr (.inr (.inl (vf_upd fx i (FP.dadd fx0 (FP.dmul f qa)))))))), (hfy, .inl (cD, 10, .inr (.inr (.inr (.inl (vf_upd fy i (FP.dadd fy0 (FP.dmul f qb))))))))]) [0, 1, 2, 3] rfl
  have hD9 := hD.sub (ws' := [(hp, .inr (4, [.ref hq, .ref ha, .ref hso0, .ref hb0, .ref hfx, .ref hfy, .double cut])), (hq, .inr (7, [.double side, .double qa, .double qb, .double qr])), (hfx, .inl (cD, 10, .inr (.inr (.inr (.inl (vf_upd fx i (FP.dadd fx0 (FP.dmul f qa)))))))), (hfy, .inl (cD, 10, .inr (.inr (.inr (.inl (vf_upd fy i (FP.dadd fy0 (FP.dmul f qb))))))))]) [0, 1, 2, 3] (by decide) rfl
  exact W.vret hx hb hr (fun t ht hW => ⟨⟨(), rfl, trivial, by rw [ht]; exact hP9, va_K.moved hW.alike hK, hD9⟩, hS.F ht⟩) hS.2.2 d_Pulls_addPull_44
