theorem d_Model_thrown_0 : decode b_Model_thrown 0 = .ok (.aload_n 0, 1) := by decide +kernel
theorem d_Model_thrown_1 : decode b_Model_thrown 1 = .ok (.getfield 115, 3) := by decide +kernel
theorem d_Model_thrown_4 : decode b_Model_thrown 4 = .ok (.ireturn, 1) := by decide +kernel
theorem d_Model_in_0 : decode b_Model_in 0 = .ok (.dload_n 0, 1) := by decide +kernel
theorem d_Model_in_1 : decode b_Model_in 1 = .ok (.dload_n 2, 1) := by decide +kernel
theorem d_Model_in_2 : decode b_Model_in 2 = .ok (.dcmp .l, 1) := by decide +kernel
theorem d_Model_in_3 : decode b_Model_in 3 = .ok (.ifCond .lt 14, 3) := by decide +kernel
theorem d_Model_in_6 : decode b_Model_in 6 = .ok (.dload_n 0, 1) := by decide +kernel
theorem d_Model_in_7 : decode b_Model_in 7 = .ok (.dload 4, 2) := by decide +kernel
theorem d_Model_in_9 : decode b_Model_in 9 = .ok (.dcmp .g, 1) := by decide +kernel
theorem d_Model_in_10 : decode b_Model_in 10 = .ok (.ifCond .gt 7, 3) := by decide +kernel
theorem d_Model_in_13 : decode b_Model_in 13 = .ok (.iconst 1, 1) := by decide +kernel
theorem d_Model_in_14 : decode b_Model_in 14 = .ok (.goto 4, 3) := by decide +kernel
theorem d_Model_in_17 : decode b_Model_in 17 = .ok (.iconst 0, 1) := by decide +kernel
theorem d_Model_in_18 : decode b_Model_in 18 = .ok (.ireturn, 1) := by decide +kernel
theorem d_Model_bad_0 : decode b_Model_bad 0 = .ok (.aload_n 0, 1) := by decide +kernel
theorem d_Model_bad_1 : decode b_Model_bad 1 = .ok (.iload_n 1, 1) := by decide +kernel
theorem d_Model_bad_2 : decode b_Model_bad 2 = .ok (.ifCond .eq 7, 3) := by decide +kernel
theorem d_Model_bad_5 : decode b_Model_bad 5 = .ok (.iconst 0, 1) := by decide +kernel
theorem d_Model_bad_6 : decode b_Model_bad 6 = .ok (.goto 4, 3) := by decide +kernel
theorem d_Model_bad_9 : decode b_Model_bad 9 = .ok (.iconst 1, 1) := by decide +kernel
theorem d_Model_bad_10 : decode b_Model_bad 10 = .ok (.putfield 115, 3) := by decide +kernel
theorem d_Model_bad_13 : decode b_Model_bad 13 = .ok (.iload_n 1, 1) := by decide +kernel
theorem d_Model_bad_14 : decode b_Model_bad 14 = .ok (.ifCond .ne 7, 3) := by decide +kernel
theorem d_Model_bad_17 : decode b_Model_bad 17 = .ok (.iconst 1, 1) := by decide +kernel
theorem d_Model_bad_18 : decode b_Model_bad 18 = .ok (.goto 4, 3) := by decide +kernel
theorem d_Model_bad_21 : decode b_Model_bad 21 = .ok (.iconst 0, 1) := by decide +kernel
theorem d_Model_bad_22 : decode b_Model_bad 22 = .ok (.ireturn, 1) := by decide +kernel
theorem d_Model_isAtom_0 : decode b_Model_isAtom 0 = .ok (.iload_n 1, 1) := by decide +kernel
theorem d_Model_isAtom_1 : decode b_Model_isAtom 1 = .ok (.ifCond .lt 15, 3) := by decide +kernel
theorem d_Model_isAtom_4 : decode b_Model_isAtom 4 = .ok (.iload_n 1, 1) := by decide +kernel
theorem d_Model_isAtom_5 : decode b_Model_isAtom 5 = .ok (.aload_n 0, 1) := by decide +kernel
theorem d_Model_isAtom_6 : decode b_Model_isAtom 6 = .ok (.getfield 119, 3) := by decide +kernel
theorem d_Model_isAtom_9 : decode b_Model_isAtom 9 = .ok (.if_icmp .ge 7, 3) := by decide +kernel
theorem d_Model_isAtom_12 : decode b_Model_isAtom 12 = .ok (.iconst 1, 1) := by decide +kernel
theorem d_Model_isAtom_13 : decode b_Model_isAtom 13 = .ok (.goto 4, 3) := by decide +kernel
theorem d_Model_isAtom_16 : decode b_Model_isAtom 16 = .ok (.iconst 0, 1) := by decide +kernel
theorem d_Model_isAtom_17 : decode b_Model_isAtom 17 = .ok (.ireturn, 1) := by decide +kernel
theorem d_Model_floor_0 : decode b_Model_floor 0 = .ok (.dload_n 0, 1) := by decide +kernel
theorem d_Model_floor_1 : decode b_Model_floor 1 = .ok (.d2l, 1) := by decide +kernel
theorem d_Model_floor_2 : decode b_Model_floor 2 = .ok (.lstore_n 2, 1) := by decide +kernel
theorem d_Model_floor_3 : decode b_Model_floor 3 = .ok (.lload_n 2, 1) := by decide +kernel
theorem d_Model_floor_4 : decode b_Model_floor 4 = .ok (.l2d, 1) := by decide +kernel
theorem d_Model_floor_5 : decode b_Model_floor 5 = .ok (.dload_n 0, 1) := by decide +kernel
theorem d_Model_floor_6 : decode b_Model_floor 6 = .ok (.dcmp .l, 1) := by decide +kernel
theorem d_Model_floor_7 : decode b_Model_floor 7 = .ok (.ifCond .le 10, 3) := by decide +kernel
theorem d_Model_floor_10 : decode b_Model_floor 10 = .ok (.lload_n 2, 1) := by decide +kernel
theorem d_Model_floor_11 : decode b_Model_floor 11 = .ok (.lconst 1, 1) := by decide +kernel
theorem d_Model_floor_12 : decode b_Model_floor 12 = .ok (.lsub, 1) := by decide +kernel
theorem d_Model_floor_13 : decode b_Model_floor 13 = .ok (.l2d, 1) := by decide +kernel
theorem d_Model_floor_14 : decode b_Model_floor 14 = .ok (.goto 5, 3) := by decide +kernel
theorem d_Model_floor_17 : decode b_Model_floor 17 = .ok (.lload_n 2, 1) := by decide +kernel
theorem d_Model_floor_18 : decode b_Model_floor 18 = .ok (.l2d, 1) := by decide +kernel
theorem d_Model_floor_19 : decode b_Model_floor 19 = .ok (.dreturn, 1) := by decide +kernel
theorem d_Model_root_0 : decode b_Model_root 0 = .ok (.dload_n 0, 1) := by decide +kernel
theorem d_Model_root_1 : decode b_Model_root 1 = .ok (.dconst 0, 1) := by decide +kernel
theorem d_Model_root_2 : decode b_Model_root 2 = .ok (.dcmp .l, 1) := by decide +kernel
theorem d_Model_root_3 : decode b_Model_root 3 = .ok (.ifCond .ne 5, 3) := by decide +kernel
theorem d_Model_root_6 : decode b_Model_root 6 = .ok (.dconst 0, 1) := by decide +kernel
theorem d_Model_root_7 : decode b_Model_root 7 = .ok (.dreturn, 1) := by decide +kernel
theorem d_Model_root_8 : decode b_Model_root 8 = .ok (.dload_n 0, 1) := by decide +kernel
theorem d_Model_root_9 : decode b_Model_root 9 = .ok (.dconst 1, 1) := by decide +kernel
theorem d_Model_root_10 : decode b_Model_root 10 = .ok (.dadd, 1) := by decide +kernel
theorem d_Model_root_11 : decode b_Model_root 11 = .ok (.ldc2_w 7, 3) := by decide +kernel
theorem d_Model_root_14 : decode b_Model_root 14 = .ok (.dmul, 1) := by decide +kernel
theorem d_Model_root_15 : decode b_Model_root 15 = .ok (.dstore_n 2, 1) := by decide +kernel
theorem d_Model_root_16 : decode b_Model_root 16 = .ok (.iconst 0, 1) := by decide +kernel
theorem d_Model_root_17 : decode b_Model_root 17 = .ok (.istore 4, 2) := by decide +kernel
theorem d_Model_root_19 : decode b_Model_root 19 = .ok (.iload 4, 2) := by decide +kernel
theorem d_Model_root_21 : decode b_Model_root 21 = .ok (.bipush 40, 2) := by decide +kernel
theorem d_Model_root_23 : decode b_Model_root 23 = .ok (.if_icmp .ge 19, 3) := by decide +kernel
theorem d_Model_root_26 : decode b_Model_root 26 = .ok (.dload_n 2, 1) := by decide +kernel
theorem d_Model_root_27 : decode b_Model_root 27 = .ok (.dload_n 0, 1) := by decide +kernel
theorem d_Model_root_28 : decode b_Model_root 28 = .ok (.dload_n 2, 1) := by decide +kernel
theorem d_Model_root_29 : decode b_Model_root 29 = .ok (.ddiv, 1) := by decide +kernel
theorem d_Model_root_30 : decode b_Model_root 30 = .ok (.dadd, 1) := by decide +kernel
theorem d_Model_root_31 : decode b_Model_root 31 = .ok (.ldc2_w 7, 3) := by decide +kernel
theorem d_Model_root_34 : decode b_Model_root 34 = .ok (.dmul, 1) := by decide +kernel
theorem d_Model_root_35 : decode b_Model_root 35 = .ok (.dstore_n 2, 1) := by decide +kernel
theorem d_Model_root_36 : decode b_Model_root 36 = .ok (.iinc 4 1, 3) := by decide +kernel
theorem d_Model_root_39 : decode b_Model_root 39 = .ok (.goto (-20), 3) := by decide +kernel
theorem d_Model_root_42 : decode b_Model_root 42 = .ok (.dload_n 2, 1) := by decide +kernel
theorem d_Model_root_43 : decode b_Model_root 43 = .ok (.dreturn, 1) := by decide +kernel
theorem d_Model_wrapped_0 : decode b_Model_wrapped 0 = .ok (.dload_n 1, 1) := by decide +kernel
theorem d_Model_wrapped_1 : decode b_Model_wrapped 1 = .ok (.aload_n 0, 1) := by decide +kernel
theorem d_Model_wrapped_2 : decode b_Model_wrapped 2 = .ok (.getfield 107, 3) := by decide +kernel
theorem d_Model_wrapped_5 : decode b_Model_wrapped 5 = .ok (.dload_n 1, 1) := by decide +kernel
theorem d_Model_wrapped_6 : decode b_Model_wrapped 6 = .ok (.aload_n 0, 1) := by decide +kernel
theorem d_Model_wrapped_7 : decode b_Model_wrapped 7 = .ok (.getfield 107, 3) := by decide +kernel
theorem d_Model_wrapped_10 : decode b_Model_wrapped 10 = .ok (.ddiv, 1) := by decide +kernel
theorem d_Model_wrapped_11 : decode b_Model_wrapped 11 = .ok (.invokestatic 122, 3) := by decide +kernel
theorem d_Model_wrapped_14 : decode b_Model_wrapped 14 = .ok (.dmul, 1) := by decide +kernel
theorem d_Model_wrapped_15 : decode b_Model_wrapped 15 = .ok (.dsub, 1) := by decide +kernel
theorem d_Model_wrapped_16 : decode b_Model_wrapped 16 = .ok (.dstore_n 3, 1) := by decide +kernel
theorem d_Model_wrapped_17 : decode b_Model_wrapped 17 = .ok (.dload_n 3, 1) := by decide +kernel
theorem d_Model_wrapped_18 : decode b_Model_wrapped 18 = .ok (.aload_n 0, 1) := by decide +kernel
theorem d_Model_wrapped_19 : decode b_Model_wrapped 19 = .ok (.getfield 107, 3) := by decide +kernel
theorem d_Model_wrapped_22 : decode b_Model_wrapped 22 = .ok (.dcmp .l, 1) := by decide +kernel
theorem d_Model_wrapped_23 : decode b_Model_wrapped 23 = .ok (.ifCond .lt 7, 3) := by decide +kernel
theorem d_Model_wrapped_26 : decode b_Model_wrapped 26 = .ok (.dconst 0, 1) := by decide +kernel
theorem d_Model_wrapped_27 : decode b_Model_wrapped 27 = .ok (.goto 4, 3) := by decide +kernel
theorem d_Model_wrapped_30 : decode b_Model_wrapped 30 = .ok (.dload_n 3, 1) := by decide +kernel
theorem d_Model_wrapped_31 : decode b_Model_wrapped 31 = .ok (.dreturn, 1) := by decide +kernel
theorem d_Model_nearest_0 : decode b_Model_nearest 0 = .ok (.dload_n 1, 1) := by decide +kernel
theorem d_Model_nearest_1 : decode b_Model_nearest 1 = .ok (.aload_n 0, 1) := by decide +kernel
theorem d_Model_nearest_2 : decode b_Model_nearest 2 = .ok (.getfield 107, 3) := by decide +kernel
theorem d_Model_nearest_5 : decode b_Model_nearest 5 = .ok (.dload_n 1, 1) := by decide +kernel
theorem d_Model_nearest_6 : decode b_Model_nearest 6 = .ok (.aload_n 0, 1) := by decide +kernel
theorem d_Model_nearest_7 : decode b_Model_nearest 7 = .ok (.getfield 107, 3) := by decide +kernel
theorem d_Model_nearest_10 : decode b_Model_nearest 10 = .ok (.ddiv, 1) := by decide +kernel
theorem d_Model_nearest_11 : decode b_Model_nearest 11 = .ok (.ldc2_w 7, 3) := by decide +kernel
theorem d_Model_nearest_14 : decode b_Model_nearest 14 = .ok (.dadd, 1) := by decide +kernel
theorem d_Model_nearest_15 : decode b_Model_nearest 15 = .ok (.invokestatic 122, 3) := by decide +kernel
theorem d_Model_nearest_18 : decode b_Model_nearest 18 = .ok (.dmul, 1) := by decide +kernel
theorem d_Model_nearest_19 : decode b_Model_nearest 19 = .ok (.dsub, 1) := by decide +kernel
theorem d_Model_nearest_20 : decode b_Model_nearest 20 = .ok (.dreturn, 1) := by decide +kernel
theorem d_Model_way_0 : decode b_Model_way 0 = .ok (.aload_n 0, 1) := by decide +kernel
theorem d_Model_way_1 : decode b_Model_way 1 = .ok (.dload 5, 2) := by decide +kernel
theorem d_Model_way_3 : decode b_Model_way 3 = .ok (.dload_n 1, 1) := by decide +kernel
theorem d_Model_way_4 : decode b_Model_way 4 = .ok (.dsub, 1) := by decide +kernel
theorem d_Model_way_5 : decode b_Model_way 5 = .ok (.putfield 126, 3) := by decide +kernel
theorem d_Model_way_8 : decode b_Model_way 8 = .ok (.aload_n 0, 1) := by decide +kernel
theorem d_Model_way_9 : decode b_Model_way 9 = .ok (.aload_n 0, 1) := by decide +kernel
theorem d_Model_way_10 : decode b_Model_way 10 = .ok (.aload_n 0, 1) := by decide +kernel
theorem d_Model_way_11 : decode b_Model_way 11 = .ok (.getfield 126, 3) := by decide +kernel
theorem d_Model_way_14 : decode b_Model_way 14 = .ok (.invokevirtual 129, 3) := by decide +kernel
theorem d_Model_way_17 : decode b_Model_way 17 = .ok (.putfield 126, 3) := by decide +kernel
theorem d_Model_way_20 : decode b_Model_way 20 = .ok (.aload_n 0, 1) := by decide +kernel
theorem d_Model_way_21 : decode b_Model_way 21 = .ok (.dload 7, 2) := by decide +kernel
theorem d_Model_way_23 : decode b_Model_way 23 = .ok (.dload_n 3, 1) := by decide +kernel
theorem d_Model_way_24 : decode b_Model_way 24 = .ok (.dsub, 1) := by decide +kernel
theorem d_Model_way_25 : decode b_Model_way 25 = .ok (.putfield 132, 3) := by decide +kernel
theorem d_Model_way_28 : decode b_Model_way 28 = .ok (.aload_n 0, 1) := by decide +kernel
theorem d_Model_way_29 : decode b_Model_way 29 = .ok (.aload_n 0, 1) := by decide +kernel
theorem d_Model_way_30 : decode b_Model_way 30 = .ok (.aload_n 0, 1) := by decide +kernel
theorem d_Model_way_31 : decode b_Model_way 31 = .ok (.getfield 132, 3) := by decide +kernel
theorem d_Model_way_34 : decode b_Model_way 34 = .ok (.invokevirtual 129, 3) := by decide +kernel
theorem d_Model_way_37 : decode b_Model_way 37 = .ok (.putfield 132, 3) := by decide +kernel
theorem d_Model_way_40 : decode b_Model_way 40 = .ok (.aload_n 0, 1) := by decide +kernel
theorem d_Model_way_41 : decode b_Model_way 41 = .ok (.aload_n 0, 1) := by decide +kernel
theorem d_Model_way_42 : decode b_Model_way 42 = .ok (.getfield 126, 3) := by decide +kernel
theorem d_Model_way_45 : decode b_Model_way 45 = .ok (.aload_n 0, 1) := by decide +kernel
theorem d_Model_way_46 : decode b_Model_way 46 = .ok (.getfield 126, 3) := by decide +kernel
theorem d_Model_way_49 : decode b_Model_way 49 = .ok (.dmul, 1) := by decide +kernel
theorem d_Model_way_50 : decode b_Model_way 50 = .ok (.aload_n 0, 1) := by decide +kernel
theorem d_Model_way_51 : decode b_Model_way 51 = .ok (.getfield 132, 3) := by decide +kernel
theorem d_Model_way_54 : decode b_Model_way 54 = .ok (.aload_n 0, 1) := by decide +kernel
theorem d_Model_way_55 : decode b_Model_way 55 = .ok (.getfield 132, 3) := by decide +kernel
theorem d_Model_way_58 : decode b_Model_way 58 = .ok (.dmul, 1) := by decide +kernel
theorem d_Model_way_59 : decode b_Model_way 59 = .ok (.dadd, 1) := by decide +kernel
theorem d_Model_way_60 : decode b_Model_way 60 = .ok (.putfield 135, 3) := by decide +kernel
theorem d_Model_way_63 : decode b_Model_way 63 = .ok (.return_, 1) := by decide +kernel
theorem d_Model_between_0 : decode b_Model_between 0 = .ok (.aload_n 0, 1) := by decide +kernel
theorem d_Model_between_1 : decode b_Model_between 1 = .ok (.aload_n 0, 1) := by decide +kernel
theorem d_Model_between_2 : decode b_Model_between 2 = .ok (.getfield 20, 3) := by decide +kernel
theorem d_Model_between_5 : decode b_Model_between 5 = .ok (.iload_n 1, 1) := by decide +kernel
theorem d_Model_between_6 : decode b_Model_between 6 = .ok (.daload, 1) := by decide +kernel
theorem d_Model_between_7 : decode b_Model_between 7 = .ok (.aload_n 0, 1) := by decide +kernel
theorem d_Model_between_8 : decode b_Model_between 8 = .ok (.getfield 24, 3) := by decide +kernel
theorem d_Model_between_11 : decode b_Model_between 11 = .ok (.iload_n 1, 1) := by decide +kernel
theorem d_Model_between_12 : decode b_Model_between 12 = .ok (.daload, 1) := by decide +kernel
theorem d_Model_between_13 : decode b_Model_between 13 = .ok (.aload_n 0, 1) := by decide +kernel
theorem d_Model_between_14 : decode b_Model_between 14 = .ok (.getfield 20, 3) := by decide +kernel
theorem d_Model_between_17 : decode b_Model_between 17 = .ok (.iload_n 2, 1) := by decide +kernel
theorem d_Model_between_18 : decode b_Model_between 18 = .ok (.daload, 1) := by decide +kernel
theorem d_Model_between_19 : decode b_Model_between 19 = .ok (.aload_n 0, 1) := by decide +kernel
theorem d_Model_between_20 : decode b_Model_between 20 = .ok (.getfield 24, 3) := by decide +kernel
theorem d_Model_between_23 : decode b_Model_between 23 = .ok (.iload_n 2, 1) := by decide +kernel
theorem d_Model_between_24 : decode b_Model_between 24 = .ok (.daload, 1) := by decide +kernel
theorem d_Model_between_25 : decode b_Model_between 25 = .ok (.invokevirtual 138, 3) := by decide +kernel
theorem d_Model_between_28 : decode b_Model_between 28 = .ok (.return_, 1) := by decide +kernel
theorem pb_b_iff {p q : Prop} (h : p ↔ q) : pb_b p = pb_b q := by rw [propext h]
theorem pb_far_s {side skin : UInt64} {mx my x y : Nat → UInt64} {i : Nat} : pb_far side skin mx my x y (i + 1) ↔ pb_far side skin mx my x y i ∨ pb_far1 side skin mx my x y i := by
  constructor
  · rintro ⟨q, h1, h2⟩
    rcases Nat.lt_or_eq_of_le (Nat.lt_succ_iff.mp h1) with h | h
    · exact Or.inl ⟨q, h, h2⟩
    · subst h; exact Or.inr h2
  · rintro (⟨q, h1, h2⟩ | h)
    · exact ⟨q, by omega, h2⟩
    · exact ⟨i, by omega, h⟩
set_option maxHeartbeats 4000000 in
set_option maxRecDepth 100000 in
/-- thrown -/
theorem c_Model_thrown (l : Launch) (dC : Nat → ClassId) (dI : Nat → Nat → Nat) (cI cD cZ : ClassId) (sz : Nat) (pm : Nat) (pX : Nat) (pY : Nat) (pU : Nat) (pV : Nat) (pM : Nat) (pS : Nat) (pK : Nat) (pW : Nat) (pD : Nat) (pC : Nat) (pBI : Nat) (pBJ : Nat) (pRI : Nat) (pRJ : Nat) (pBK : Nat) (pBL : Nat) (pRL : Nat) (pLX : Nat) (pLY : Nat) (pOX : Nat) (pOY : Nat) (pOU : Nat) (pOV : Nat) (pNX : Nat) (pNY : Nat) (pFX : Nat) (pFY : Nat) (pBN : Nat) (side : UInt64) (cut : UInt64) (skin : UInt64) (heat : UInt64) (n : Nat) (nb : Nat) (nr : Nat) (isT : Int32) (stn : Int32) (tm : Int32) (rd : Int32) (tk : Int32) (ov1 : Int32) (st1 : Int32) (bl1 : Int32) (thw : Int32) (cg : Int32) (qa : UInt64) (qb : UInt64) (qr : UInt64) : Met l y_Model_thrown w_Model_thrown ({ frames := 0, cells := 0, slots := 0, locals := 0 }) (va_Pc [.ref pm] (gx_B (dC, dI) classes (gx_T cI cD cZ) [(pm, .inr (9, [.double side, .double cut, .double skin, .double heat, .ref pX, .ref pY, .ref pU, .ref pV, .ref pM, .ref pS, .ref pK, .ref pW, .ref pD, .ref pC, .int (nI n), .int (nI nb), .int (nI nr), .ref pBI, .ref pBJ, .ref pRI, .ref pRJ, .ref pBK, .ref pBL, .ref pRL, .ref pLX, .ref pLY, .int isT, .ref pOX, .ref pOY, .ref pOU, .ref pOV, .ref pNX, .ref pNY, .ref pFX, .ref pFY, .ref pBN, .int stn, .int tm, .int rd, .int tk, .int ov1, .int st1, .int bl1, .int thw, .int cg, .double qa, .double qb, .double qr]))] sz)) (va_Qi (fun (rr : Int32) (uu : Unit) => rr = thw) (fun (uu : Unit) t => gx_E (dC, dI) classes (gx_T cI cD cZ) (va_A [(pm, .inr (9, [.double side, .double cut, .double skin, .double heat, .ref pX, .ref pY, .ref pU, .ref pV, .ref pM, .ref pS, .ref pK, .ref pW, .ref pD, .ref pC, .int (nI n), .int (nI nb), .int (nI nr), .ref pBI, .ref pBJ, .ref pRI, .ref pRJ, .ref pBK, .ref pBL, .ref pRL, .ref pLX, .ref pLY, .int isT, .ref pOX, .ref pOY, .ref pOU, .ref pOV, .ref pNX, .ref pNY, .ref pFX, .ref pFY, .ref pBN, .int stn, .int tm, .int rd, .int tk, .int ov1, .int st1, .int bl1, .int thw, .int cg, .double qa, .double qb, .double qr]))] sz) [(pm, .inr (9, [.double side, .double cut, .double skin, .double heat, .ref pX, .ref pY, .ref pU, .ref pV, .ref pM, .ref pS, .ref pK, .ref pW, .ref pD, .ref pC, .int (nI n), .int (nI nb), .int (nI nr), .ref pBI, .ref pBJ, .ref pRI, .ref pRJ, .ref pBK, .ref pBL, .ref pRL, .ref pLX, .ref pLY, .int isT, .ref pOX, .ref pOY, .ref pOU, .ref pOV, .ref pNX, .ref pNY, .ref pFX, .ref pFY, .ref pBN, .int stn, .int tm, .int rd, .int tk, .int ov1, .int st1, .int bl1, .int thw, .int cg, .double qa, .double qb, .double qr]))] t) (va_A [(pm, .inr (9, [.double side, .double cut, .double skin, .double heat, .ref pX, .ref pY, .ref pU, .ref pV, .ref pM, .ref pS, .ref pK, .ref pW, .ref pD, .ref pC, .int (nI n), .int (nI nb), .int (nI nr), .ref pBI, .ref pBJ, .ref pRI, .ref pRJ, .ref pBK, .ref pBL, .ref pRL, .ref pLX, .ref pLY, .int isT, .ref pOX, .ref pOY, .ref pOU, .ref pOV, .ref pNX, .ref pNY, .ref pFX, .ref pFY, .ref pBN, .int stn, .int tm, .int rd, .int tk, .int ov1, .int st1, .int bl1, .int thw, .int cg, .double qa, .double qb, .double qr]))] sz)) 0 0 (va_A [(pm, .inr (9, [.double side, .double cut, .double skin, .double heat, .ref pX, .ref pY, .ref pU, .ref pV, .ref pM, .ref pS, .ref pK, .ref pW, .ref pD, .ref pC, .int (nI n), .int (nI nb), .int (nI nr), .ref pBI, .ref pBJ, .ref pRI, .ref pRJ, .ref pBK, .ref pBL, .ref pRL, .ref pLX, .ref pLY, .int isT, .ref pOX, .ref pOY, .ref pOU, .ref pOV, .ref pNX, .ref pNY, .ref pFX, .ref pFY, .ref pBN, .int stn, .int tm, .int rd, .int tk, .int ov1, .int st1, .int bl1, .int thw, .int cg, .double qa, .double qb, .double qr]))] sz) := by
  refine Met.ofW (cc := b_Model_thrown) (maxL := 1) (ret := (some .int)) (by decide) rfl ?_
  intro p e s m args below meth c s₁ B hml hv
  obtain ⟨rfl, hsz, hP, hK, hD0, hN⟩ := hv
  have hx := B.exec
  have hb := B.bytes
  have hr := B.returns
  have hts := atoms_spec (ws := w_Model_thrown) B.pre
  have hown : s.vm.findClass R_Model = some m.cls := findClass_of_methodNamed B.named
  have hlocks := B.notSynchronized
  subst hsz
  have hD := hD0.self (sz := s.heap.size)
  generalize hAe : va_A [(pm, .inr (9, [.double side, .double cut, .double skin, .double heat, .ref pX, .ref pY, .ref pU, .ref pV, .ref pM, .ref pS, .ref pK, .ref pW, .ref pD, .ref pC, .int (nI n), .int (nI nb), .int (nI nr), .ref pBI, .ref pBJ, .ref pRI, .ref pRJ, .ref pBK, .ref pBL, .ref pRL, .ref pLX, .ref pLY, .int isT, .ref pOX, .ref pOY, .ref pOU, .ref pOV, .ref pNX, .ref pNY, .ref pFX, .ref pFY, .ref pBN, .int stn, .int tm, .int rd, .int tk, .int ov1, .int st1, .int bl1, .int thw, .int cg, .double qa, .double qb, .double qr]))] s.heap.size = A at hD ⊢
  have hA : ∀ q : Nat, s.heap.size ≤ q → A q := fun q h => by rw [← hAe]; exact Or.inr h
  have hS : va_S A s.heap s.heap [] := va_S.rf
  have hl := lv_entry ([.ref pm]) (n := 1) (Nat.le_of_ble_eq_true rfl)
  rw [lg_entry_eq]
  generalize (lg_sl ([.ref pm]) ++ List.replicate (1 - (lg_sl ([.ref pm])).length) Slot.unset).toArray = ls at hl ⊢
  have hl : lv_has ls 1 [(0, .ref pm)] := hl
  obtain ⟨H, hH⟩ : ∃ H, H = s.heap := ⟨_, rfl⟩
  rw [← hH] at hP
  have hS : va_S A s.heap H [] := by rw [hH]; exact hS
  refine gx_start hH ?_
  refine lv_aload_n hx hb d_Model_thrown_0 rfl (lv_at hl 0 rfl) ?_
  refine va_get (D := (dC, dI)) (ci := 9) (v := .int thw) (C := R_Model) (T := F_Model) (N := 48) hx hb hts (fun w h => List.mem_cons_of_mem _ (i_Model w h)) hown hK hP 0 rfl rfl 43 (by decide) (hts _ (List.mem_cons_of_mem _ kw_884)) (fun _ h9 => h9) rfl d_Model_thrown_1 ?_
  have hP9 := hP.sub (ws' := [(pm, .inr (9, [.double side, .double cut, .double skin, .double heat, .ref pX, .ref pY, .ref pU, .ref pV, .ref pM, .ref pS, .ref pK, .ref pW, .ref pD, .ref pC, .int (nI n), .int (nI nb), .int (nI nr), .ref pBI, .ref pBJ, .ref pRI, .ref pRJ, .ref pBK, .ref pBL, .ref pRL, .ref pLX, .ref pLY, .int isT, .ref pOX, .ref pOY, .ref pOU, .ref pOV, .ref pNX, .ref pNY, .ref pFX, .ref pFY, .ref pBN, .int stn, .int tm, .int rd, .int tk, .int ov1, .int st1, .int bl1, .int thw, .int cg, .double qa, .double qb, .double qr]))]) [0] rfl
  have hD9 := hD.sub (ws' := [(pm, .inr (9, [.double side, .double cut, .double skin, .double heat, .ref pX, .ref pY, .ref pU, .ref pV, .ref pM, .ref pS, .ref pK, .ref pW, .ref pD, .ref pC, .int (nI n), .int (nI nb), .int (nI nr), .ref pBI, .ref pBJ, .ref pRI, .ref pRJ, .ref pBK, .ref pBL, .ref pRL, .ref pLX, .ref pLY, .int isT, .ref pOX, .ref pOY, .ref pOU, .ref pOV, .ref pNX, .ref pNY, .ref pFX, .ref pFY, .ref pBN, .int stn, .int tm, .int rd, .int tk, .int ov1, .int st1, .int bl1, .int thw, .int cg, .double qa, .double qb, .double qr]))]) [0] (by decide) rfl
  exact W.iret (v := thw) hx hb hr (fun tt9 ht9 hW9 => ⟨⟨thw, (), rfl, rfl, by rw [ht9]; exact hP9, va_K.moved hW9.alike hK, hD9⟩, hS.F ht9⟩) hS.2.2 d_Model_thrown_4
set_option maxHeartbeats 4000000 in
set_option maxRecDepth 100000 in
/-- in -/
theorem c_Model_in (l : Launch) (dC : Nat → ClassId) (dI : Nat → Nat → Nat) (cI cD cZ : ClassId) (sz : Nat) (z : UInt64) (lo : UInt64) (hi : UInt64) : Met l y_Model_in w_Model_in ({ frames := 0, cells := 0, slots := 0, locals := 0 }) (va_Pc [.double z, .double lo, .double hi] (gx_B (dC, dI) classes (gx_T cI cD cZ) [] sz)) (va_Qi (fun (rr : Int32) (uu : Unit) => rr = pb_b (pb_in z lo hi)) (fun (uu : Unit) t => gx_E (dC, dI) classes (gx_T cI cD cZ) (va_A [] sz) [] t) (va_A [] sz)) 0 0 (va_A [] sz) := by
  refine Met.ofW (cc := b_Model_in) (maxL := 6) (ret := (some .boolean)) (by decide) rfl ?_
  intro p e s m args below meth c s₁ B hml hv
  obtain ⟨rfl, hsz, hP, hK, hD0, hN⟩ := hv
  have hx := B.exec
  have hb := B.bytes
  have hr := B.returns
  have hts := atoms_spec (ws := w_Model_in) B.pre
  have hown : s.vm.findClass R_Model = some m.cls := findClass_of_methodNamed B.named
  have hlocks := B.notSynchronized
  subst hsz
  have hD := hD0.self (sz := s.heap.size)
  generalize hAe : va_A [] s.heap.size = A at hD ⊢
  have hA : ∀ q : Nat, s.heap.size ≤ q → A q := fun q h => by rw [← hAe]; exact Or.inr h
  have hS : va_S A s.heap s.heap [] := va_S.rf
  have hl := lv_entry ([.double z, .double lo, .double hi]) (n := 6) (Nat.le_of_ble_eq_true rfl)
  rw [lg_entry_eq]
  generalize (lg_sl ([.double z, .double lo, .double hi]) ++ List.replicate (6 - (lg_sl ([.double z, .double lo, .double hi])).length) Slot.unset).toArray = ls at hl ⊢
  have hl : lv_has ls 6 [(0, .double z), (2, .double lo), (4, .double hi)] := hl
  obtain ⟨H, hH⟩ : ∃ H, H = s.heap := ⟨_, rfl⟩
  rw [← hH] at hP
  have hS : va_S A s.heap H [] := by rw [hH]; exact hS
  refine gx_start hH ?_
  refine lv_dload_n hx hb d_Model_in_0 rfl (lv_at hl 0 rfl) ?_
  refine lv_dload_n hx hb d_Model_in_1 rfl (lv_at hl 1 rfl) ?_
  refine gx_ge (tgt := 17) hx hb d_Model_in_2 d_Model_in_3 (by decide) (fun c2 => ?_) (fun c2 => ?_)
  · skip
    refine lv_iconst (v := 0) hx hb d_Model_in_17 (by decide) ?_
    have hP9 := hP.sub (ws' := []) [] rfl
    have hD9 := hD.sub (ws' := []) [] (by decide) rfl
    exact W.zret (v := 0) hx hb hr rfl (fun tt9 ht9 hW9 => ⟨⟨0, (), rfl, (pb_b_f (fun h => c2 h.1)).symm, by rw [ht9]; exact hP9, va_K.moved hW9.alike hK, hD9⟩, hS.F ht9⟩) hS.2.2 d_Model_in_18
  · skip
    refine lv_dload_n hx hb d_Model_in_6 rfl (lv_at hl 0 rfl) ?_
    refine lv_dload hx hb d_Model_in_7 (lv_at hl 2 rfl) ?_
    refine gx_le (tgt := 17) hx hb d_Model_in_9 d_Model_in_10 (by decide) (fun c9 => ?_) (fun c9 => ?_)
    · skip
      refine lv_iconst (v := 0) hx hb d_Model_in_17 (by decide) ?_
      have hP9 := hP.sub (ws' := []) [] rfl
      have hD9 := hD.sub (ws' := []) [] (by decide) rfl
      exact W.zret (v := 0) hx hb hr rfl (fun tt9 ht9 hW9 => ⟨⟨0, (), rfl, (pb_b_f (fun h => c9 h.2)).symm, by rw [ht9]; exact hP9, va_K.moved hW9.alike hK, hD9⟩, hS.F ht9⟩) hS.2.2 d_Model_in_18
    · skip
      refine lv_iconst (v := 1) hx hb d_Model_in_13 (by decide) ?_
      refine lv_goto (tgt := 18) hx hb d_Model_in_14 (by decide) ?_
      have hP9 := hP.sub (ws' := []) [] rfl
      have hD9 := hD.sub (ws' := []) [] (by decide) rfl
      exact W.zret (v := 1) hx hb hr rfl (fun tt9 ht9 hW9 => ⟨⟨1, (), rfl, (pb_b_t ⟨c2, c9⟩).symm, by rw [ht9]; exact hP9, va_K.moved hW9.alike hK, hD9⟩, hS.F ht9⟩) hS.2.2 d_Model_in_18
set_option maxHeartbeats 4000000 in
set_option maxRecDepth 100000 in
/-- bad -/
theorem c_Model_bad (l : Launch) (dC : Nat → ClassId) (dI : Nat → Nat → Nat) (cI cD cZ : ClassId) (sz : Nat) (pm : Nat) (pX : Nat) (pY : Nat) (pU : Nat) (pV : Nat) (pM : Nat) (pS : Nat) (pK : Nat) (pW : Nat) (pD : Nat) (pC : Nat) (pBI : Nat) (pBJ : Nat) (pRI : Nat) (pRJ : Nat) (pBK : Nat) (pBL : Nat) (pRL : Nat) (pLX : Nat) (pLY : Nat) (pOX : Nat) (pOY : Nat) (pOU : Nat) (pOV : Nat) (pNX : Nat) (pNY : Nat) (pFX : Nat) (pFY : Nat) (pBN : Nat) (side : UInt64) (cut : UInt64) (skin : UInt64) (heat : UInt64) (n : Nat) (nb : Nat) (nr : Nat) (isT : Int32) (stn : Int32) (tm : Int32) (rd : Int32) (tk : Int32) (ov1 : Int32) (st1 : Int32) (bl1 : Int32) (thw : Int32) (cg : Int32) (qa : UInt64) (qb : UInt64) (qr : UInt64) (z : Int32) : Met l y_Model_bad w_Model_bad ({ frames := 0, cells := 0, slots := 0, locals := 0 }) (va_Pc [.ref pm, .int z] (gx_B (dC, dI) classes (gx_T cI cD cZ) [(pm, .inr (9, [.double side, .double cut, .double skin, .double heat, .ref pX, .ref pY, .ref pU, .ref pV, .ref pM, .ref pS, .ref pK, .ref pW, .ref pD, .ref pC, .int (nI n), .int (nI nb), .int (nI nr), .ref pBI, .ref pBJ, .ref pRI, .ref pRJ, .ref pBK, .ref pBL, .ref pRL, .ref pLX, .ref pLY, .int isT, .ref pOX, .ref pOY, .ref pOU, .ref pOV, .ref pNX, .ref pNY, .ref pFX, .ref pFY, .ref pBN, .int stn, .int tm, .int rd, .int tk, .int ov1, .int st1, .int bl1, .int thw, .int cg, .double qa, .double qb, .double qr]))] sz)) (va_Qi (fun (rr : Int32) (uu : Unit) => rr = pb_b (z = 0)) (fun (uu : Unit) t => gx_E (dC, dI) classes (gx_T cI cD cZ) (va_A [(pm, .inr (9, [.double side, .double cut, .double skin, .double heat, .ref pX, .ref pY, .ref pU, .ref pV, .ref pM, .ref pS, .ref pK, .ref pW, .ref pD, .ref pC, .int (nI n), .int (nI nb), .int (nI nr), .ref pBI, .ref pBJ, .ref pRI, .ref pRJ, .ref pBK, .ref pBL, .ref pRL, .ref pLX, .ref pLY, .int isT, .ref pOX, .ref pOY, .ref pOU, .ref pOV, .ref pNX, .ref pNY, .ref pFX, .ref pFY, .ref pBN, .int stn, .int tm, .int rd, .int tk, .int ov1, .int st1, .int bl1, .int thw, .int cg, .double qa, .double qb, .double qr]))] sz) [(pm, .inr (9, [.double side, .double cut, .double skin, .double heat, .ref pX, .ref pY, .ref pU, .ref pV, .ref pM, .ref pS, .ref pK, .ref pW, .ref pD, .ref pC, .int (nI n), .int (nI nb), .int (nI nr), .ref pBI, .ref pBJ, .ref pRI, .ref pRJ, .ref pBK, .ref pBL, .ref pRL, .ref pLX, .ref pLY, .int isT, .ref pOX, .ref pOY, .ref pOU, .ref pOV, .ref pNX, .ref pNY, .ref pFX, .ref pFY, .ref pBN, .int stn, .int tm, .int rd, .int tk, .int ov1, .int st1, .int bl1, .int (pb_b (z = 0)), .int cg, .double qa, .double qb, .double qr]))] t) (va_A [(pm, .inr (9, [.double side, .double cut, .double skin, .double heat, .ref pX, .ref pY, .ref pU, .ref pV, .ref pM, .ref pS, .ref pK, .ref pW, .ref pD, .ref pC, .int (nI n), .int (nI nb), .int (nI nr), .ref pBI, .ref pBJ, .ref pRI, .ref pRJ, .ref pBK, .ref pBL, .ref pRL, .ref pLX, .ref pLY, .int isT, .ref pOX, .ref pOY, .ref pOU, .ref pOV, .ref pNX, .ref pNY, .ref pFX, .ref pFY, .ref pBN, .int stn, .int tm, .int rd, .int tk, .int ov1, .int st1, .int bl1, .int thw, .int cg, .double qa, .double qb, .double qr]))] sz)) 0 0 (va_A [(pm, .inr (9, [.double side, .double cut, .double skin, .double heat, .ref pX, .ref pY, .ref pU, .ref pV, .ref pM, .ref pS, .ref pK, .ref pW, .ref pD, .ref pC, .int (nI n), .int (nI nb), .int (nI nr), .ref pBI, .ref pBJ, .ref pRI, .ref pRJ, .ref pBK, .ref pBL, .ref pRL, .ref pLX, .ref pLY, .int isT, .ref pOX, .ref pOY, .ref pOU, .ref pOV, .ref pNX, .ref pNY, .ref pFX, .ref pFY, .ref pBN, .int stn, .int tm, .int rd, .int tk, .int ov1, .int st1, .int bl1, .int thw, .int cg, .double qa, .double qb, .double qr]))] sz) := by
  refine Met.ofW (cc := b_Model_bad) (maxL := 2) (ret := (some .boolean)) (by decide) rfl ?_
  intro p e s m args below meth c s₁ B hml hv
  obtain ⟨rfl, hsz, hP, hK, hD0, hN⟩ := hv
  have hx := B.exec
  have hb := B.bytes
  have hr := B.returns
  have hts := atoms_spec (ws := w_Model_bad) B.pre
  have hown : s.vm.findClass R_Model = some m.cls := findClass_of_methodNamed B.named
  have hlocks := B.notSynchronized
  subst hsz
  have hD := hD0.self (sz := s.heap.size)
  generalize hAe : va_A [(pm, .inr (9, [.double side, .double cut, .double skin, .double heat, .ref pX, .ref pY, .ref pU, .ref pV, .ref pM, .ref pS, .ref pK, .ref pW, .ref pD, .ref pC, .int (nI n), .int (nI nb), .int (nI nr), .ref pBI, .ref pBJ, .ref pRI, .ref pRJ, .ref pBK, .ref pBL, .ref pRL, .ref pLX, .ref pLY, .int isT, .ref pOX, .ref pOY, .ref pOU, .ref pOV, .ref pNX, .ref pNY, .ref pFX, .ref pFY, .ref pBN, .int stn, .int tm, .int rd, .int tk, .int ov1, .int st1, .int bl1, .int thw, .int cg, .double qa, .double qb, .double qr]))] s.heap.size = A at hD ⊢
  have hA : ∀ q : Nat, s.heap.size ≤ q → A q := fun q h => by rw [← hAe]; exact Or.inr h
  have hS : va_S A s.heap s.heap [] := va_S.rf
  have hl := lv_entry ([.ref pm, .int z]) (n := 2) (Nat.le_of_ble_eq_true rfl)
  rw [lg_entry_eq]
  generalize (lg_sl ([.ref pm, .int z]) ++ List.replicate (2 - (lg_sl ([.ref pm, .int z])).length) Slot.unset).toArray = ls at hl ⊢
  have hl : lv_has ls 2 [(0, .ref pm), (1, .int z)] := hl
  obtain ⟨H, hH⟩ : ∃ H, H = s.heap := ⟨_, rfl⟩
  rw [← hH] at hP
  have hS : va_S A s.heap H [] := by rw [hH]; exact hS
  refine gx_start hH ?_
  refine lv_aload_n hx hb d_Model_bad_0 rfl (lv_at hl 0 rfl) ?_
  refine lv_iload_n hx hb d_Model_bad_1 rfl (lv_at hl 1 rfl) ?_
  refine gx_join 10 [.int (pb_b (z = 0)), .ref pm] (fun H locs => va_P (dC, dI) classes [(pm, .inr (9, [.double side, .double cut, .double skin, .double heat, .ref pX, .ref pY, .ref pU, .ref pV, .ref pM, .ref pS, .ref pK, .ref pW, .ref pD, .ref pC, .int (nI n), .int (nI nb), .int (nI nr), .ref pBI, .ref pBJ, .ref pRI, .ref pRJ, .ref pBK, .ref pBL, .ref pRL, .ref pLX, .ref pLY, .int isT, .ref pOX, .ref pOY, .ref pOU, .ref pOV, .ref pNX, .ref pNY, .ref pFX, .ref pFY, .ref pBN, .int stn, .int tm, .int rd, .int tk, .int ov1, .int st1, .int bl1, .int thw, .int cg, .double qa, .double qb, .double qr]))] H ∧ va_D A [(pm, .inr (9, [.double side, .double cut, .double skin, .double heat, .ref pX, .ref pY, .ref pU, .ref pV, .ref pM, .ref pS, .ref pK, .ref pW, .ref pD, .ref pC, .int (nI n), .int (nI nb), .int (nI nr), .ref pBI, .ref pBJ, .ref pRI, .ref pRJ, .ref pBK, .ref pBL, .ref pRL, .ref pLX, .ref pLY, .int isT, .ref pOX, .ref pOY, .ref pOU, .ref pOV, .ref pNX, .ref pNY, .ref pFX, .ref pFY, .ref pBN, .int stn, .int tm, .int rd, .int tk, .int ov1, .int st1, .int bl1, .int thw, .int cg, .double qa, .double qb, .double qr]))] ∧ va_S A s.heap H locs) (fun H locs hI9 => ?_) (fun J2 => ?_)
  · skip
    obtain ⟨hP, hD, hS⟩ := hI9
    refine va_put (D := (dC, dI)) (ci := 9) (v := .int (pb_b (z = 0))) (ty := .int) (C := R_Model) (T := F_Model) (N := 48) hx hb hts (fun w h => List.mem_cons_of_mem _ (i_Model w h)) t_Model t_Model_ok n_Model hown hK hP hD hS 0 rfl rfl 43 (by decide) (hts _ (List.mem_cons_of_mem _ kw_884)) (fun _ h9 => h9) rfl (by decide +kernel) rfl rfl (Nat.le_of_ble_eq_true rfl) d_Model_bad_10 (fun H locs hP hD hS => ?_)
    have hP : va_P (dC, dI) classes [(pm, .inr (9, [.double side, .double cut, .double skin, .double heat, .ref pX, .ref pY, .ref pU, .ref pV, .ref pM, .ref pS, .ref pK, .ref pW, .ref pD, .ref pC, .int (nI n), .int (nI nb), .int (nI nr), .ref pBI, .ref pBJ, .ref pRI, .ref pRJ, .ref pBK, .ref pBL, .ref pRL, .ref pLX, .ref pLY, .int isT, .ref pOX, .ref pOY, .ref pOU, .ref pOV, .ref pNX, .ref pNY, .ref pFX, .ref pFY, .ref pBN, .int stn, .int tm, .int rd, .int tk, .int ov1, .int st1, .int bl1, .int (pb_b (z = 0)), .int cg, .double qa, .double qb, .double qr]))] H := hP
    have hD : va_D A [(pm, .inr (9, [.double side, .double cut, .double skin, .double heat, .ref pX, .ref pY, .ref pU, .ref pV, .ref pM, .ref pS, .ref pK, .ref pW, .ref pD, .ref pC, .int (nI n), .int (nI nb), .int (nI nr), .ref pBI, .ref pBJ, .ref pRI, .ref pRJ, .ref pBK, .ref pBL, .ref pRL, .ref pLX, .ref pLY, .int isT, .ref pOX, .ref pOY, .ref pOU, .ref pOV, .ref pNX, .ref pNY, .ref pFX, .ref pFY, .ref pBN, .int stn, .int tm, .int rd, .int tk, .int ov1, .int st1, .int bl1, .int (pb_b (z = 0)), .int cg, .double qa, .double qb, .double qr]))] := hD
    refine lv_iload_n hx hb d_Model_bad_13 rfl (lv_at hl 1 rfl) ?_
    refine gx_join 22 [.int (pb_b (z = 0))] (fun H locs => va_P (dC, dI) classes [(pm, .inr (9, [.double side, .double cut, .double skin, .double heat, .ref pX, .ref pY, .ref pU, .ref pV, .ref pM, .ref pS, .ref pK, .ref pW, .ref pD, .ref pC, .int (nI n), .int (nI nb), .int (nI nr), .ref pBI, .ref pBJ, .ref pRI, .ref pRJ, .ref pBK, .ref pBL, .ref pRL, .ref pLX, .ref pLY, .int isT, .ref pOX, .ref pOY, .ref pOU, .ref pOV, .ref pNX, .ref pNY, .ref pFX, .ref pFY, .ref pBN, .int stn, .int tm, .int rd, .int tk, .int ov1, .int st1, .int bl1, .int (pb_b (z = 0)), .int cg, .double qa, .double qb, .double qr]))] H ∧ va_D A [(pm, .inr (9, [.double side, .double cut, .double skin, .double heat, .ref pX, .ref pY, .ref pU, .ref pV, .ref pM, .ref pS, .ref pK, .ref pW, .ref pD, .ref pC, .int (nI n), .int (nI nb), .int (nI nr), .ref pBI, .ref pBJ, .ref pRI, .ref pRJ, .ref pBK, .ref pBL, .ref pRL, .ref pLX, .ref pLY, .int isT, .ref pOX, .ref pOY, .ref pOU, .ref pOV, .ref pNX, .ref pNY, .ref pFX, .ref pFY, .ref pBN, .int stn, .int tm, .int rd, .int tk, .int ov1, .int st1, .int bl1, .int (pb_b (z = 0)), .int cg, .double qa, .double qb, .double qr]))] ∧ va_S A s.heap H locs) (fun H locs hI9 => ?_) (fun J14 => ?_)
    · skip
      obtain ⟨hP, hD, hS⟩ := hI9
      have hP9 := hP.sub (ws' := [(pm, .inr (9, [.double side, .double cut, .double skin, .double heat, .ref pX, .ref pY, .ref pU, .ref pV, .ref pM, .ref pS, .ref pK, .ref pW, .ref pD, .ref pC, .int (nI n), .int (nI nb), .int (nI nr), .ref pBI, .ref pBJ, .ref pRI, .ref pRJ, .ref pBK, .ref pBL, .ref pRL, .ref pLX, .ref pLY, .int isT, .ref pOX, .ref pOY, .ref pOU, .ref pOV, .ref pNX, .ref pNY, .ref pFX, .ref pFY, .ref pBN, .int stn, .int tm, .int rd, .int tk, .int ov1, .int st1, .int bl1, .int (pb_b (z = 0)), .int cg, .double qa, .double qb, .double qr]))]) [0] rfl
      have hD9 := hD.sub (ws' := [(pm, .inr (9, [.double side, .double cut, .double skin, .double heat, .ref pX, .ref pY, .ref pU, .ref pV, .ref pM, .ref pS, .ref pK, .ref pW, .ref pD, .ref pC, .int (nI n), .int (nI nb), .int (nI nr), .ref pBI, .ref pBJ, .ref pRI, .ref pRJ, .ref pBK, .ref pBL, .ref pRL, .ref pLX, .ref pLY, .int isT, .ref pOX, .ref pOY, .ref pOU, .ref pOV, .ref pNX, .ref pNY, .ref pFX, .ref pFY, .ref pBN, .int stn, .int tm, .int rd, .int tk, .int ov1, .int st1, .int bl1, .int (pb_b (z = 0)), .int cg, .double qa, .double qb, .double qr]))]) [0] (by decide) rfl
      exact W.zret (v := (pb_b (z = 0))) hx hb hr (pb_b_nar _) (fun tt9 ht9 hW9 => ⟨⟨(pb_b (z = 0)), (), rfl, rfl, by rw [ht9]; exact hP9, va_K.moved hW9.alike hK, hD9⟩, hS.F ht9⟩) hS.2.2 d_Model_bad_22
    · skip
      refine lv_if_ne (tgt := 21) hx hb d_Model_bad_14 (by decide) (fun c14 => ?_) (fun c14 => ?_)
      · skip
        refine lv_iconst (v := 0) hx hb d_Model_bad_21 (by decide) ?_
        refine W.eq (g2 := F0 m 22 ls [.int (pb_b (z = 0))]) (congrArg (fun zz9 => F0 m 22 ls (.int zz9 :: [])) ((pb_b_f c14).symm)) ?_
        exact J14 _ _ ⟨hP.sub [0] rfl, hD.sub [0] (by decide) rfl, hS⟩
      · skip
        refine lv_iconst (v := 1) hx hb d_Model_bad_17 (by decide) ?_
        refine lv_goto (tgt := 22) hx hb d_Model_bad_18 (by decide) ?_
        refine W.eq (g2 := F0 m 22 ls [.int (pb_b (z = 0))]) (congrArg (fun zz9 => F0 m 22 ls (.int zz9 :: [])) ((pb_b_t c14).symm)) ?_
        exact J14 _ _ ⟨hP.sub [0] rfl, hD.sub [0] (by decide) rfl, hS⟩
  · skip
    refine lv_if_eq (tgt := 9) hx hb d_Model_bad_2 (by decide) (fun c2 => ?_) (fun c2 => ?_)
    · skip
      refine lv_iconst (v := 1) hx hb d_Model_bad_9 (by decide) ?_
      refine W.eq (g2 := F0 m 10 ls [.int (pb_b (z = 0)), .ref pm]) (congrArg (fun zz9 => F0 m 10 ls (.int zz9 :: [.ref pm])) ((pb_b_t c2).symm)) ?_
      exact J2 _ _ ⟨hP.sub [0] rfl, hD.sub [0] (by decide) rfl, hS⟩
    · skip
      refine lv_iconst (v := 0) hx hb d_Model_bad_5 (by decide) ?_
      refine lv_goto (tgt := 10) hx hb d_Model_bad_6 (by decide) ?_
      refine W.eq (g2 := F0 m 10 ls [.int (pb_b (z = 0)), .ref pm]) (congrArg (fun zz9 => F0 m 10 ls (.int zz9 :: [.ref pm])) ((pb_b_f c2).symm)) ?_
      exact J2 _ _ ⟨hP.sub [0] rfl, hD.sub [0] (by decide) rfl, hS⟩
set_option maxHeartbeats 4000000 in
set_option maxRecDepth 100000 in
/-- isAtom -/
theorem c_Model_isAtom (l : Launch) (dC : Nat → ClassId) (dI : Nat → Nat → Nat) (cI cD cZ : ClassId) (sz : Nat) (pm : Nat) (pX : Nat) (pY : Nat) (pU : Nat) (pV : Nat) (pM : Nat) (pS : Nat) (pK : Nat) (pW : Nat) (pD : Nat) (pC : Nat) (pBI : Nat) (pBJ : Nat) (pRI : Nat) (pRJ : Nat) (pBK : Nat) (pBL : Nat) (pRL : Nat) (pLX : Nat) (pLY : Nat) (pOX : Nat) (pOY : Nat) (pOU : Nat) (pOV : Nat) (pNX : Nat) (pNY : Nat) (pFX : Nat) (pFY : Nat) (pBN : Nat) (side : UInt64) (cut : UInt64) (skin : UInt64) (heat : UInt64) (n : Nat) (nb : Nat) (nr : Nat) (isT : Int32) (stn : Int32) (tm : Int32) (rd : Int32) (tk : Int32) (ov1 : Int32) (st1 : Int32) (bl1 : Int32) (thw : Int32) (cg : Int32) (qa : UInt64) (qb : UInt64) (qr : UInt64) (q : Int32) : Met l y_Model_isAtom w_Model_isAtom ({ frames := 0, cells := 0, slots := 0, locals := 0 }) (va_Pc [.ref pm, .int q] (gx_B (dC, dI) classes (gx_T cI cD cZ) [(pm, .inr (9, [.double side, .double cut, .double skin, .double heat, .ref pX, .ref pY, .ref pU, .ref pV, .ref pM, .ref pS, .ref pK, .ref pW, .ref pD, .ref pC, .int (nI n), .int (nI nb), .int (nI nr), .ref pBI, .ref pBJ, .ref pRI, .ref pRJ, .ref pBK, .ref pBL, .ref pRL, .ref pLX, .ref pLY, .int isT, .ref pOX, .ref pOY, .ref pOU, .ref pOV, .ref pNX, .ref pNY, .ref pFX, .ref pFY, .ref pBN, .int stn, .int tm, .int rd, .int tk, .int ov1, .int st1, .int bl1, .int thw, .int cg, .double qa, .double qb, .double qr]))] sz)) (va_Qi (fun (rr : Int32) (uu : Unit) => rr = pb_b (pb_has n q)) (fun (uu : Unit) t => gx_E (dC, dI) classes (gx_T cI cD cZ) (va_A [(pm, .inr (9, [.double side, .double cut, .double skin, .double heat, .ref pX, .ref pY, .ref pU, .ref pV, .ref pM, .ref pS, .ref pK, .ref pW, .ref pD, .ref pC, .int (nI n), .int (nI nb), .int (nI nr), .ref pBI, .ref pBJ, .ref pRI, .ref pRJ, .ref pBK, .ref pBL, .ref pRL, .ref pLX, .ref pLY, .int isT, .ref pOX, .ref pOY, .ref pOU, .ref pOV, .ref pNX, .ref pNY, .ref pFX, .ref pFY, .ref pBN, .int stn, .int tm, .int rd, .int tk, .int ov1, .int st1, .int bl1, .int thw, .int cg, .double qa, .double qb, .double qr]))] sz) [(pm, .inr (9, [.double side, .double cut, .double skin, .double heat, .ref pX, .ref pY, .ref pU, .ref pV, .ref pM, .ref pS, .ref pK, .ref pW, .ref pD, .ref pC, .int (nI n), .int (nI nb), .int (nI nr), .ref pBI, .ref pBJ, .ref pRI, .ref pRJ, .ref pBK, .ref pBL, .ref pRL, .ref pLX, .ref pLY, .int isT, .ref pOX, .ref pOY, .ref pOU, .ref pOV, .ref pNX, .ref pNY, .ref pFX, .ref pFY, .ref pBN, .int stn, .int tm, .int rd, .int tk, .int ov1, .int st1, .int bl1, .int thw, .int cg, .double qa, .double qb, .double qr]))] t) (va_A [(pm, .inr (9, [.double side, .double cut, .double skin, .double heat, .ref pX, .ref pY, .ref pU, .ref pV, .ref pM, .ref pS, .ref pK, .ref pW, .ref pD, .ref pC, .int (nI n), .int (nI nb), .int (nI nr), .ref pBI, .ref pBJ, .ref pRI, .ref pRJ, .ref pBK, .ref pBL, .ref pRL, .ref pLX, .ref pLY, .int isT, .ref pOX, .ref pOY, .ref pOU, .ref pOV, .ref pNX, .ref pNY, .ref pFX, .ref pFY, .ref pBN, .int stn, .int tm, .int rd, .int tk, .int ov1, .int st1, .int bl1, .int thw, .int cg, .double qa, .double qb, .double qr]))] sz)) 0 0 (va_A [(pm, .inr (9, [.double side, .double cut, .double skin, .double heat, .ref pX, .ref pY, .ref pU, .ref pV, .ref pM, .ref pS, .ref pK, .ref pW, .ref pD, .ref pC, .int (nI n), .int (nI nb), .int (nI nr), .ref pBI, .ref pBJ, .ref pRI, .ref pRJ, .ref pBK, .ref pBL, .ref pRL, .ref pLX, .ref pLY, .int isT, .ref pOX, .ref pOY, .ref pOU, .ref pOV, .ref pNX, .ref pNY, .ref pFX, .ref pFY, .ref pBN, .int stn, .int tm, .int rd, .int tk, .int ov1, .int st1, .int bl1, .int thw, .int cg, .double qa, .double qb, .double qr]))] sz) := by
  refine Met.ofW (cc := b_Model_isAtom) (maxL := 2) (ret := (some .boolean)) (by decide) rfl ?_
  intro p e s m args below meth c s₁ B hml hv
  obtain ⟨rfl, hsz, hP, hK, hD0, hN⟩ := hv
  have hx := B.exec
  have hb := B.bytes
  have hr := B.returns
  have hts := atoms_spec (ws := w_Model_isAtom) B.pre
  have hown : s.vm.findClass R_Model = some m.cls := findClass_of_methodNamed B.named
  have hlocks := B.notSynchronized
  subst hsz
  have hD := hD0.self (sz := s.heap.size)
  generalize hAe : va_A [(pm, .inr (9, [.double side, .double cut, .double skin, .double heat, .ref pX, .ref pY, .ref pU, .ref pV, .ref pM, .ref pS, .ref pK, .ref pW, .ref pD, .ref pC, .int (nI n), .int (nI nb), .int (nI nr), .ref pBI, .ref pBJ, .ref pRI, .ref pRJ, .ref pBK, .ref pBL, .ref pRL, .ref pLX, .ref pLY, .int isT, .ref pOX, .ref pOY, .ref pOU, .ref pOV, .ref pNX, .ref pNY, .ref pFX, .ref pFY, .ref pBN, .int stn, .int tm, .int rd, .int tk, .int ov1, .int st1, .int bl1, .int thw, .int cg, .double qa, .double qb, .double qr]))] s.heap.size = A at hD ⊢
  have hA : ∀ q : Nat, s.heap.size ≤ q → A q := fun q h => by rw [← hAe]; exact Or.inr h
  have hS : va_S A s.heap s.heap [] := va_S.rf
  have hl := lv_entry ([.ref pm, .int q]) (n := 2) (Nat.le_of_ble_eq_true rfl)
  rw [lg_entry_eq]
  generalize (lg_sl ([.ref pm, .int q]) ++ List.replicate (2 - (lg_sl ([.ref pm, .int q])).length) Slot.unset).toArray = ls at hl ⊢
  have hl : lv_has ls 2 [(0, .ref pm), (1, .int q)] := hl
  obtain ⟨H, hH⟩ : ∃ H, H = s.heap := ⟨_, rfl⟩
  rw [← hH] at hP
  have hS : va_S A s.heap H [] := by rw [hH]; exact hS
  refine gx_start hH ?_
  refine lv_iload_n hx hb d_Model_isAtom_0 rfl (lv_at hl 1 rfl) ?_
  refine lv_if_lt (tgt := 16) hx hb d_Model_isAtom_1 (by decide) (fun c1 => ?_) (fun c1 => ?_)
  · skip
    refine lv_iconst (v := 0) hx hb d_Model_isAtom_16 (by decide) ?_
    have hP9 := hP.sub (ws' := [(pm, .inr (9, [.double side, .double cut, .double skin, .double heat, .ref pX, .ref pY, .ref pU, .ref pV, .ref pM, .ref pS, .ref pK, .ref pW, .ref pD, .ref pC, .int (nI n), .int (nI nb), .int (nI nr), .ref pBI, .ref pBJ, .ref pRI, .ref pRJ, .ref pBK, .ref pBL, .ref pRL, .ref pLX, .ref pLY, .int isT, .ref pOX, .ref pOY, .ref pOU, .ref pOV, .ref pNX, .ref pNY, .ref pFX, .ref pFY, .ref pBN, .int stn, .int tm, .int rd, .int tk, .int ov1, .int st1, .int bl1, .int thw, .int cg, .double qa, .double qb, .double qr]))]) [0] rfl
    have hD9 := hD.sub (ws' := [(pm, .inr (9, [.double side, .double cut, .double skin, .double heat, .ref pX, .ref pY, .ref pU, .ref pV, .ref pM, .ref pS, .ref pK, .ref pW, .ref pD, .ref pC, .int (nI n), .int (nI nb), .int (nI nr), .ref pBI, .ref pBJ, .ref pRI, .ref pRJ, .ref pBK, .ref pBL, .ref pRL, .ref pLX, .ref pLY, .int isT, .ref pOX, .ref pOY, .ref pOU, .ref pOV, .ref pNX, .ref pNY, .ref pFX, .ref pFY, .ref pBN, .int stn, .int tm, .int rd, .int tk, .int ov1, .int st1, .int bl1, .int thw, .int cg, .double qa, .double qb, .double qr]))]) [0] (by decide) rfl
    exact W.zret (v := 0) hx hb hr rfl (fun tt9 ht9 hW9 => ⟨⟨0, (), rfl, (pb_b_f (fun h => h.1 c1)).symm, by rw [ht9]; exact hP9, va_K.moved hW9.alike hK, hD9⟩, hS.F ht9⟩) hS.2.2 d_Model_isAtom_17
  · skip
    refine lv_iload_n hx hb d_Model_isAtom_4 rfl (lv_at hl 1 rfl) ?_
    refine lv_aload_n hx hb d_Model_isAtom_5 rfl (lv_at hl 0 rfl) ?_
    refine va_get (D := (dC, dI)) (ci := 9) (v := .int (nI n)) (C := R_Model) (T := F_Model) (N := 48) hx hb hts (fun w h => List.mem_cons_of_mem _ (i_Model w h)) hown hK hP 0 rfl rfl 14 (by decide) (hts _ (List.mem_cons_of_mem _ kw_855)) (fun _ h9 => h9) rfl d_Model_isAtom_6 ?_
    refine lv_icmp_ge (tgt := 16) hx hb d_Model_isAtom_9 (by decide) (fun c9 => ?_) (fun c9 => ?_)
    · skip
      refine lv_iconst (v := 0) hx hb d_Model_isAtom_16 (by decide) ?_
      have hP9 := hP.sub (ws' := [(pm, .inr (9, [.double side, .double cut, .double skin, .double heat, .ref pX, .ref pY, .ref pU, .ref pV, .ref pM, .ref pS, .ref pK, .ref pW, .ref pD, .ref pC, .int (nI n), .int (nI nb), .int (nI nr), .ref pBI, .ref pBJ, .ref pRI, .ref pRJ, .ref pBK, .ref pBL, .ref pRL, .ref pLX, .ref pLY, .int isT, .ref pOX, .ref pOY, .ref pOU, .ref pOV, .ref pNX, .ref pNY, .ref pFX, .ref pFY, .ref pBN, .int stn, .int tm, .int rd, .int tk, .int ov1, .int st1, .int bl1, .int thw, .int cg, .double qa, .double qb, .double qr]))]) [0] rfl
      have hD9 := hD.sub (ws' := [(pm, .inr (9, [.double side, .double cut, .double skin, .double heat, .ref pX, .ref pY, .ref pU, .ref pV, .ref pM, .ref pS, .ref pK, .ref pW, .ref pD, .ref pC, .int (nI n), .int (nI nb), .int (nI nr), .ref pBI, .ref pBJ, .ref pRI, .ref pRJ, .ref pBK, .ref pBL, .ref pRL, .ref pLX, .ref pLY, .int isT, .ref pOX, .ref pOY, .ref pOU, .ref pOV, .ref pNX, .ref pNY, .ref pFX, .ref pFY, .ref pBN, .int stn, .int tm, .int rd, .int tk, .int ov1, .int st1, .int bl1, .int thw, .int cg, .double qa, .double qb, .double qr]))]) [0] (by decide) rfl
      exact W.zret (v := 0) hx hb hr rfl (fun tt9 ht9 hW9 => ⟨⟨0, (), rfl, (pb_b_f (fun h => h.2 c9)).symm, by rw [ht9]; exact hP9, va_K.moved hW9.alike hK, hD9⟩, hS.F ht9⟩) hS.2.2 d_Model_isAtom_17
    · skip
      refine lv_iconst (v := 1) hx hb d_Model_isAtom_12 (by decide) ?_
      refine lv_goto (tgt := 17) hx hb d_Model_isAtom_13 (by decide) ?_
      have hP9 := hP.sub (ws' := [(pm, .inr (9, [.double side, .double cut, .double skin, .double heat, .ref pX, .ref pY, .ref pU, .ref pV, .ref pM, .ref pS, .ref pK, .ref pW, .ref pD, .ref pC, .int (nI n), .int (nI nb), .int (nI nr), .ref pBI, .ref pBJ, .ref pRI, .ref pRJ, .ref pBK, .ref pBL, .ref pRL, .ref pLX, .ref pLY, .int isT, .ref pOX, .ref pOY, .ref pOU, .ref pOV, .ref pNX, .ref pNY, .ref pFX, .ref pFY, .ref pBN, .int stn, .int tm, .int rd, .int tk, .int ov1, .int st1, .int bl1, .int thw, .int cg, .double qa, .double qb, .double qr]))]) [0] rfl
      have hD9 := hD.sub (ws' := [(pm, .inr (9, [.double side, .double cut, .double skin, .double heat, .ref pX, .ref pY, .ref pU, .ref pV, .ref pM, .ref pS, .ref pK, .ref pW, .ref pD, .ref pC, .int (nI n), .int (nI nb), .int (nI nr), .ref pBI, .ref pBJ, .ref pRI, .ref pRJ, .ref pBK, .ref pBL, .ref pRL, .ref pLX, .ref pLY, .int isT, .ref pOX, .ref pOY, .ref pOU, .ref pOV, .ref pNX, .ref pNY, .ref pFX, .ref pFY, .ref pBN, .int stn, .int tm, .int rd, .int tk, .int ov1, .int st1, .int bl1, .int thw, .int cg, .double qa, .double qb, .double qr]))]) [0] (by decide) rfl
      exact W.zret (v := 1) hx hb hr rfl (fun tt9 ht9 hW9 => ⟨⟨1, (), rfl, (pb_b_t ⟨c1, c9⟩).symm, by rw [ht9]; exact hP9, va_K.moved hW9.alike hK, hD9⟩, hS.F ht9⟩) hS.2.2 d_Model_isAtom_17
set_option maxHeartbeats 4000000 in
set_option maxRecDepth 100000 in
/-- FLOOR -/
theorem c_Model_floor (l : Launch) (dC : Nat → ClassId) (dI : Nat → Nat → Nat) (cI cD cZ : ClassId) (sz : Nat) (z : UInt64) (hz : fp_I z (fp_d (-1) 1121) (fp_d 1 1121)) : Met l y_Model_floor w_Model_floor ({ frames := 0, cells := 0, slots := 0, locals := 0 }) (va_Pc [.double z] (gx_B (dC, dI) classes (gx_T cI cD cZ) [] sz)) (va_Qd (fun (rr : UInt64) (uu : Unit) => rr = pb_floor z) (fun (uu : Unit) t => gx_E (dC, dI) classes (gx_T cI cD cZ) (va_A [] sz) [] t) (va_A [] sz)) 0 0 (va_A [] sz) := by
  refine Met.ofW (cc := b_Model_floor) (maxL := 4) (ret := (some .double)) (by decide) rfl ?_
  intro p e s m args below meth c s₁ B hml hv
  obtain ⟨rfl, hsz, hP, hK, hD0, hN⟩ := hv
  have hx := B.exec
  have hb := B.bytes
  have hr := B.returns
  have hts := atoms_spec (ws := w_Model_floor) B.pre
  have hown : s.vm.findClass R_Model = some m.cls := findClass_of_methodNamed B.named
  have hlocks := B.notSynchronized
  subst hsz
  have hD := hD0.self (sz := s.heap.size)
  generalize hAe : va_A [] s.heap.size = A at hD ⊢
  have hA : ∀ q : Nat, s.heap.size ≤ q → A q := fun q h => by rw [← hAe]; exact Or.inr h
  have hS : va_S A s.heap s.heap [] := va_S.rf
  have hl := lv_entry ([.double z]) (n := 4) (Nat.le_of_ble_eq_true rfl)
  rw [lg_entry_eq]
  generalize (lg_sl ([.double z]) ++ List.replicate (4 - (lg_sl ([.double z])).length) Slot.unset).toArray = ls at hl ⊢
  have hl : lv_has ls 4 [(0, .double z)] := hl
  obtain ⟨H, hH⟩ : ∃ H, H = s.heap := ⟨_, rfl⟩
  rw [← hH] at hP
  have hS : va_S A s.heap H [] := by rw [hH]; exact hS
  refine gx_start hH ?_
  refine lv_dload_n hx hb d_Model_floor_0 rfl (lv_at hl 0 rfl) ?_
  refine lv_d2l hx hb d_Model_floor_1 ?_
  refine lv_lstore_n (lv' := [(2, .long (FP.d2l z)), (0, .double z)]) hx hb d_Model_floor_2 rfl hl (by decide) rfl (fun ls hl => ?_)
  refine lv_lload_n hx hb d_Model_floor_3 rfl (lv_at hl 0 rfl) ?_
  refine lv_l2d hx hb d_Model_floor_4 ?_
  have g_1 := fp_l2d_I (FP.d2l z)
  refine lv_dload_n hx hb d_Model_floor_5 rfl (lv_at hl 1 rfl) ?_
  refine gx_join 19 [.double (pb_floor z)] (fun H locs => va_P (dC, dI) classes [] H ∧ va_D A [] ∧ va_S A s.heap H locs) (fun H locs hI9 => ?_) (fun J6 => ?_)
  · skip
    obtain ⟨hP, hD, hS⟩ := hI9
    have hP9 := hP.sub (ws' := []) [] rfl
    have hD9 := hD.sub (ws' := []) [] (by decide) rfl
    exact W.dret (v := (pb_floor z)) hx hb hr (fun tt9 ht9 hW9 => ⟨⟨(pb_floor z), (), rfl, rfl, by rw [ht9]; exact hP9, va_K.moved hW9.alike hK, hD9⟩, hS.F ht9⟩) hS.2.2 d_Model_floor_19
  · skip
    refine gx_gt (tgt := 17) hx hb d_Model_floor_6 d_Model_floor_7 (by decide) (fun c6 => ?_) (fun c6 => ?_)
    · skip
      refine lv_lload_n hx hb d_Model_floor_17 rfl (lv_at hl 0 rfl) ?_
      refine lv_l2d hx hb d_Model_floor_18 ?_
      refine W.eq (g2 := F0 m 19 ls [.double (pb_floor z)]) (congrArg (fun zz9 => F0 m 19 ls (.double zz9 :: [])) ((pb_floor_k c6))) ?_
      exact J6 _ _ ⟨hP.sub [] rfl, hD.sub [] (by decide) rfl, hS⟩
    · skip
      refine lv_lload_n hx hb d_Model_floor_10 rfl (lv_at hl 0 rfl) ?_
      refine lv_lconst (v := 1) hx hb d_Model_floor_11 (by decide) ?_
      refine lv_lsub hx hb d_Model_floor_12 ?_
      refine lv_l2d hx hb d_Model_floor_13 ?_
      have g_2 := fp_l2d_I ((FP.d2l z) - 1)
      refine lv_goto (tgt := 19) hx hb d_Model_floor_14 (by decide) ?_
      refine W.eq (g2 := F0 m 19 ls [.double (pb_floor z)]) (congrArg (fun zz9 => F0 m 19 ls (.double zz9 :: [])) ((pb_floor_l hz c6))) ?_
      exact J6 _ _ ⟨hP.sub [] rfl, hD.sub [] (by decide) rfl, hS⟩
set_option maxHeartbeats 4000000 in
set_option maxRecDepth 100000 in
/-- ROOT -/
theorem c_Model_root (l : Launch) (dC : Nat → ClassId) (dI : Nat → Nat → Nat) (cI cD cZ : ClassId) (sz : Nat) (z : UInt64) (hz : fp_I z 0 (fp_d 1 1105)) : Met l y_Model_root w_Model_root ({ frames := 0, cells := 0, slots := 0, locals := 0 }) (va_Pc [.double z] (gx_B (dC, dI) classes (gx_T cI cD cZ) [] sz)) (va_Qd (fun (rr : UInt64) (uu : Unit) => rr = pb_root z) (fun (uu : Unit) t => gx_E (dC, dI) classes (gx_T cI cD cZ) (va_A [] sz) [] t) (va_A [] sz)) 0 0 (va_A [] sz) := by
  refine Met.ofW (cc := b_Model_root) (maxL := 5) (ret := (some .double)) (by decide) rfl ?_
  intro p e s m args below meth c s₁ B hml hv
  obtain ⟨rfl, hsz, hP, hK, hD0, hN⟩ := hv
  have hx := B.exec
  have hb := B.bytes
  have hr := B.returns
  have hts := atoms_spec (ws := w_Model_root) B.pre
  have hown : s.vm.findClass R_Model = some m.cls := findClass_of_methodNamed B.named
  have hlocks := B.notSynchronized
  subst hsz
  have hD := hD0.self (sz := s.heap.size)
  generalize hAe : va_A [] s.heap.size = A at hD ⊢
  have hA : ∀ q : Nat, s.heap.size ≤ q → A q := fun q h => by rw [← hAe]; exact Or.inr h
  have hS : va_S A s.heap s.heap [] := va_S.rf
  have hl := lv_entry ([.double z]) (n := 5) (Nat.le_of_ble_eq_true rfl)
  rw [lg_entry_eq]
  generalize (lg_sl ([.double z]) ++ List.replicate (5 - (lg_sl ([.double z])).length) Slot.unset).toArray = ls at hl ⊢
  have hl : lv_has ls 5 [(0, .double z)] := hl
  obtain ⟨H, hH⟩ : ∃ H, H = s.heap := ⟨_, rfl⟩
  rw [← hH] at hP
  have hS : va_S A s.heap H [] := by rw [hH]; exact hS
  refine gx_start hH ?_
  refine lv_dload_n hx hb d_Model_root_0 rfl (lv_at hl 0 rfl) ?_
  refine lv_dconst0 hx hb d_Model_root_1 ?_
  refine gx_eq (tgt := 8) hx hb d_Model_root_2 d_Model_root_3 (by decide) (fun c2 => ?_) (fun c2 => ?_)
  · skip
    refine lv_dload_n hx hb d_Model_root_8 rfl (lv_at hl 0 rfl) ?_
    refine lv_dconst1 hx hb d_Model_root_9 ?_
    have g_1 := fp_const (a := FP.dconst1) (T := (fp_d 1 1074)) (by decide +kernel)
    have g_2 := fp_I_add (fp_d 1 1074) (fp_d 8388609 1082) hz g_1 (by decide +kernel)
    refine lv_dadd hx hb d_Model_root_10 g_2.n ?_
    refine lv_ldc2d (v := 4602678819172646912) hx hb hown (hts (.constantDouble R_Model 7 4602678819172646912) (by decide +kernel)) d_Model_root_11 ?_
    have g_3 := fp_const (a := 4602678819172646912) (T := (fp_d 1 1073)) (by decide +kernel)
    have g_4 := fp_I_mul (fp_d 1 1073) (fp_d 8388609 1081) g_2 g_3 (by decide +kernel)
    refine lv_dmul hx hb d_Model_root_14 g_4.n ?_
    refine lv_dstore_n (lv' := [(2, .double (FP.dmul (FP.dadd z FP.dconst1) 4602678819172646912)), (0, .double z)]) hx hb d_Model_root_15 rfl hl (by decide) rfl (fun ls hl => ?_)
    refine lv_iconst (v := nI 0) hx hb d_Model_root_16 (by decide) ?_
    refine lv_istore (lv' := [(4, .int (nI 0)), (2, .double (FP.dmul (FP.dadd z FP.dconst1) 4602678819172646912)), (0, .double z)]) hx hb d_Model_root_17 hl (by decide) rfl (fun ls hl => ?_)
    refine gx_loop (fun (k : Nat) (H : Heap) (locs : List Loc) (ls : Array Slot) => va_P (dC, dI) classes [] H ∧ va_D A [] ∧ va_S A s.heap H locs ∧ lv_has ls 5 [(4, .int (nI k)), (2, .double (pb_rt z k)), (0, .double z)] ∧ (k ≤ 40)) (fun (k : Nat) => 40 - k) (fun N K19 xx H locs ls hI hmu => ?_) 0 ?_
    rotate_left
    · skip
      refine ⟨hP.sub [] rfl, hD.sub [] (by decide) rfl, hS, lv_sub hl [0, 1, 2] rfl, (by omega)⟩
    obtain ⟨k, rfl⟩ : ∃ zz, zz = xx := ⟨_, rfl⟩
    obtain ⟨hP, hD, hS, hl, hk⟩ := hI
    try dsimp only at hmu
    refine lv_iload hx hb d_Model_root_19 (lv_at hl 0 rfl) ?_
    refine lv_bipush (v := nI 40) hx hb d_Model_root_21 (by decide) ?_
    refine lv_icmp_ge (tgt := 42) hx hb d_Model_root_23 (by decide) (fun c23 => ?_) (fun c23 => ?_)
    · skip
      have c23 : 40 ≤ k := (nI_leI (a := 40) (b := k) (by omega) (by omega)).mp c23
      have hk2 : k = 40 := by omega
      subst hk2
      refine lv_dload_n hx hb d_Model_root_42 rfl (lv_at hl 1 rfl) ?_
      have hP9 := hP.sub (ws' := []) [] rfl
      have hD9 := hD.sub (ws' := []) [] (by decide) rfl
      exact W.dret (v := (pb_rt z 40)) hx hb hr (fun tt9 ht9 hW9 => ⟨⟨(pb_rt z 40), (), rfl, (by unfold pb_root; rw [if_neg c2]), by rw [ht9]; exact hP9, va_K.moved hW9.alike hK, hD9⟩, hS.F ht9⟩) hS.2.2 d_Model_root_43
    · skip
      have c23 : ¬ 40 ≤ k := fun h => c23 ((nI_leI (a := 40) (b := k) (by omega) (by omega)).mpr h)
      have gk := pb_rt_I hz k (by omega)
      refine lv_dload_n hx hb d_Model_root_26 rfl (lv_at hl 1 rfl) ?_
      refine lv_dload_n hx hb d_Model_root_27 rfl (lv_at hl 2 rfl) ?_
      refine lv_dload_n hx hb d_Model_root_28 rfl (lv_at hl 1 rfl) ?_
      have g_5 := fp_I_div (fp_d 0 0) (fp_d 1 1146) hz gk (by decide +kernel)
      refine lv_ddiv hx hb d_Model_root_29 g_5.n ?_
      have g_6 := fp_I_add (fp_d 1 1033) (fp_d 1 1147) gk g_5 (by decide +kernel)
      refine lv_dadd hx hb d_Model_root_30 g_6.n ?_
      refine lv_ldc2d (v := 4602678819172646912) hx hb hown (hts (.constantDouble R_Model 7 4602678819172646912) (by decide +kernel)) d_Model_root_31 ?_
      have g_7 := fp_const (a := 4602678819172646912) (T := (fp_d 1 1073)) (by decide +kernel)
      have g_8 := fp_I_mul (fp_d 1 1032) (fp_d 1 1146) g_6 g_7 (by decide +kernel)
      refine lv_dmul hx hb d_Model_root_34 g_8.n ?_
      refine lv_dstore_n (lv' := [(2, .double (FP.dmul (FP.dadd (pb_rt z k) (FP.ddiv z (pb_rt z k))) 4602678819172646912)), (4, .int (nI k)), (0, .double z)]) hx hb d_Model_root_35 rfl hl (by decide) rfl (fun ls hl => ?_)
      refine lv_iinc (v := nI (k + 1)) (lv' := [(4, .int (nI (k + 1))), (2, .double (FP.dmul (FP.dadd (pb_rt z k) (FP.ddiv z (pb_rt z k))) 4602678819172646912)), (0, .double z)]) hx hb d_Model_root_36 hl (k := 1) rfl (nI_1 k) (by decide) rfl (fun ls hl => ?_)
      refine lv_goto (tgt := 19) hx hb d_Model_root_39 (by decide) ?_
      exact K19 (k + 1) _ _ _ ⟨hP.sub [] rfl, hD.sub [] (by decide) rfl, hS, lv_sub hl [0, 1, 2] rfl, (by omega)⟩ (by omega)
  · skip
    refine lv_dconst0 hx hb d_Model_root_6 ?_
    have hP9 := hP.sub (ws' := []) [] rfl
    have hD9 := hD.sub (ws' := []) [] (by decide) rfl
    exact W.dret (v := FP.dconst0) hx hb hr (fun tt9 ht9 hW9 => ⟨⟨FP.dconst0, (), rfl, (by unfold pb_root; rw [if_pos c2]), by rw [ht9]; exact hP9, va_K.moved hW9.alike hK, hD9⟩, hS.F ht9⟩) hS.2.2 d_Model_root_7
set_option maxHeartbeats 4000000 in
set_option maxRecDepth 100000 in
/-- WRAPPED -/
theorem c_Model_wrapped (l : Launch) (dC : Nat → ClassId) (dI : Nat → Nat → Nat) (cI cD cZ : ClassId) (sz : Nat) (pm : Nat) (pX : Nat) (pY : Nat) (pU : Nat) (pV : Nat) (pM : Nat) (pS : Nat) (pK : Nat) (pW : Nat) (pD : Nat) (pC : Nat) (pBI : Nat) (pBJ : Nat) (pRI : Nat) (pRJ : Nat) (pBK : Nat) (pBL : Nat) (pRL : Nat) (pLX : Nat) (pLY : Nat) (pOX : Nat) (pOY : Nat) (pOU : Nat) (pOV : Nat) (pNX : Nat) (pNY : Nat) (pFX : Nat) (pFY : Nat) (pBN : Nat) (side : UInt64) (cut : UInt64) (skin : UInt64) (heat : UInt64) (n : Nat) (nb : Nat) (nr : Nat) (isT : Int32) (stn : Int32) (tm : Int32) (rd : Int32) (tk : Int32) (ov1 : Int32) (st1 : Int32) (bl1 : Int32) (thw : Int32) (cg : Int32) (qa : UInt64) (qb : UInt64) (qr : UInt64) (z : UInt64) (k : Int) (hs : pb_S side k) (hz : fp_I z (fp_d (-1) 1121) (fp_d 1 1121)) : Met l y_Model_wrapped w_Model_wrapped ({ frames := 1, cells := 0, slots := 0, locals := 23 }) (va_Pc [.ref pm, .double z] (gx_B (dC, dI) classes (gx_T cI cD cZ) [(pm, .inr (9, [.double side, .double cut, .double skin, .double heat, .ref pX, .ref pY, .ref pU, .ref pV, .ref pM, .ref pS, .ref pK, .ref pW, .ref pD, .ref pC, .int (nI n), .int (nI nb), .int (nI nr), .ref pBI, .ref pBJ, .ref pRI, .ref pRJ, .ref pBK, .ref pBL, .ref pRL, .ref pLX, .ref pLY, .int isT, .ref pOX, .ref pOY, .ref pOU, .ref pOV, .ref pNX, .ref pNY, .ref pFX, .ref pFY, .ref pBN, .int stn, .int tm, .int rd, .int tk, .int ov1, .int st1, .int bl1, .int thw, .int cg, .double qa, .double qb, .double qr]))] sz)) (va_Qd (fun (rr : UInt64) (uu : Unit) => rr = pb_wrap side z) (fun (uu : Unit) t => gx_E (dC, dI) classes (gx_T cI cD cZ) (va_A [(pm, .inr (9, [.double side, .double cut, .double skin, .double heat, .ref pX, .ref pY, .ref pU, .ref pV, .ref pM, .ref pS, .ref pK, .ref pW, .ref pD, .ref pC, .int (nI n), .int (nI nb), .int (nI nr), .ref pBI, .ref pBJ, .ref pRI, .ref pRJ, .ref pBK, .ref pBL, .ref pRL, .ref pLX, .ref pLY, .int isT, .ref pOX, .ref pOY, .ref pOU, .ref pOV, .ref pNX, .ref pNY, .ref pFX, .ref pFY, .ref pBN, .int stn, .int tm, .int rd, .int tk, .int ov1, .int st1, .int bl1, .int thw, .int cg, .double qa, .double qb, .double qr]))] sz) [(pm, .inr (9, [.double side, .double cut, .double skin, .double heat, .ref pX, .ref pY, .ref pU, .ref pV, .ref pM, .ref pS, .ref pK, .ref pW, .ref pD, .ref pC, .int (nI n), .int (nI nb), .int (nI nr), .ref pBI, .ref pBJ, .ref pRI, .ref pRJ, .ref pBK, .ref pBL, .ref pRL, .ref pLX, .ref pLY, .int isT, .ref pOX, .ref pOY, .ref pOU, .ref pOV, .ref pNX, .ref pNY, .ref pFX, .ref pFY, .ref pBN, .int stn, .int tm, .int rd, .int tk, .int ov1, .int st1, .int bl1, .int thw, .int cg, .double qa, .double qb, .double qr]))] t) (va_A [(pm, .inr (9, [.double side, .double cut, .double skin, .double heat, .ref pX, .ref pY, .ref pU, .ref pV, .ref pM, .ref pS, .ref pK, .ref pW, .ref pD, .ref pC, .int (nI n), .int (nI nb), .int (nI nr), .ref pBI, .ref pBJ, .ref pRI, .ref pRJ, .ref pBK, .ref pBL, .ref pRL, .ref pLX, .ref pLY, .int isT, .ref pOX, .ref pOY, .ref pOU, .ref pOV, .ref pNX, .ref pNY, .ref pFX, .ref pFY, .ref pBN, .int stn, .int tm, .int rd, .int tk, .int ov1, .int st1, .int bl1, .int thw, .int cg, .double qa, .double qb, .double qr]))] sz)) 0 0 (va_A [(pm, .inr (9, [.double side, .double cut, .double skin, .double heat, .ref pX, .ref pY, .ref pU, .ref pV, .ref pM, .ref pS, .ref pK, .ref pW, .ref pD, .ref pC, .int (nI n), .int (nI nb), .int (nI nr), .ref pBI, .ref pBJ, .ref pRI, .ref pRJ, .ref pBK, .ref pBL, .ref pRL, .ref pLX, .ref pLY, .int isT, .ref pOX, .ref pOY, .ref pOU, .ref pOV, .ref pNX, .ref pNY, .ref pFX, .ref pFY, .ref pBN, .int stn, .int tm, .int rd, .int tk, .int ov1, .int st1, .int bl1, .int thw, .int cg, .double qa, .double qb, .double qr]))] sz) := by
  refine Met.ofW (cc := b_Model_wrapped) (maxL := 5) (ret := (some .double)) (by decide) rfl ?_
  intro p e s m args below meth c s₁ B hml hv
  obtain ⟨rfl, hsz, hP, hK, hD0, hN⟩ := hv
  have hx := B.exec
  have hb := B.bytes
  have hr := B.returns
  have hts := atoms_spec (ws := w_Model_wrapped) B.pre
  have hown : s.vm.findClass R_Model = some m.cls := findClass_of_methodNamed B.named
  have hlocks := B.notSynchronized
  subst hsz
  have hD := hD0.self (sz := s.heap.size)
  generalize hAe : va_A [(pm, .inr (9, [.double side, .double cut, .double skin, .double heat, .ref pX, .ref pY, .ref pU, .ref pV, .ref pM, .ref pS, .ref pK, .ref pW, .ref pD, .ref pC, .int (nI n), .int (nI nb), .int (nI nr), .ref pBI, .ref pBJ, .ref pRI, .ref pRJ, .ref pBK, .ref pBL, .ref pRL, .ref pLX, .ref pLY, .int isT, .ref pOX, .ref pOY, .ref pOU, .ref pOV, .ref pNX, .ref pNY, .ref pFX, .ref pFY, .ref pBN, .int stn, .int tm, .int rd, .int tk, .int ov1, .int st1, .int bl1, .int thw, .int cg, .double qa, .double qb, .double qr]))] s.heap.size = A at hD ⊢
  have hA : ∀ q : Nat, s.heap.size ≤ q → A q := fun q h => by rw [← hAe]; exact Or.inr h
  have hS : va_S A s.heap s.heap [] := va_S.rf
  have hl := lv_entry ([.ref pm, .double z]) (n := 5) (Nat.le_of_ble_eq_true rfl)
  rw [lg_entry_eq]
  generalize (lg_sl ([.ref pm, .double z]) ++ List.replicate (5 - (lg_sl ([.ref pm, .double z])).length) Slot.unset).toArray = ls at hl ⊢
  have hl : lv_has ls 5 [(0, .ref pm), (1, .double z)] := hl
  obtain ⟨H, hH⟩ : ∃ H, H = s.heap := ⟨_, rfl⟩
  rw [← hH] at hP
  have hS : va_S A s.heap H [] := by rw [hH]; exact hS
  refine gx_start hH ?_
  refine lv_dload_n hx hb d_Model_wrapped_0 rfl (lv_at hl 1 rfl) ?_
  refine lv_aload_n hx hb d_Model_wrapped_1 rfl (lv_at hl 0 rfl) ?_
  refine va_get (D := (dC, dI)) (ci := 9) (v := .double side) (C := R_Model) (T := F_Model) (N := 48) hx hb hts (fun w h => List.mem_cons_of_mem _ (i_Model w h)) hown hK hP 0 rfl rfl 0 (by decide) (hts _ (List.mem_cons_of_mem _ kw_841)) (fun _ h9 => h9) rfl d_Model_wrapped_2 ?_
  refine lv_dload_n hx hb d_Model_wrapped_5 rfl (lv_at hl 1 rfl) ?_
  refine lv_aload_n hx hb d_Model_wrapped_6 rfl (lv_at hl 0 rfl) ?_
  refine va_get (D := (dC, dI)) (ci := 9) (v := .double side) (C := R_Model) (T := F_Model) (N := 48) hx hb hts (fun w h => List.mem_cons_of_mem _ (i_Model w h)) hown hK hP 0 rfl rfl 0 (by decide) (hts _ (List.mem_cons_of_mem _ kw_841)) (fun _ h9 => h9) rfl d_Model_wrapped_7 ?_
  have g_1 := fp_I_div (fp_d (-1) 1119) (fp_d 1 1119) hz hs.I (by decide +kernel)
  refine lv_ddiv hx hb d_Model_wrapped_10 g_1.n ?_
  refine gx_Sd (st0 := [.double (FP.ddiv z side), .double side, .double z]) (As := [.double (FP.ddiv z side)]) (rest := [.double side, .double z]) (wr := [(pm, .inr (9, [.double side, .double cut, .double skin, .double heat, .ref pX, .ref pY, .ref pU, .ref pV, .ref pM, .ref pS, .ref pK, .ref pW, .ref pD, .ref pC, .int (nI n), .int (nI nb), .int (nI nr), .ref pBI, .ref pBJ, .ref pRI, .ref pRJ, .ref pBK, .ref pBL, .ref pRL, .ref pLX, .ref pLY, .int isT, .ref pOX, .ref pOY, .ref pOU, .ref pOV, .ref pNX, .ref pNY, .ref pFX, .ref pFY, .ref pBN, .int stn, .int tm, .int rd, .int tk, .int ov1, .int st1, .int bl1, .int thw, .int cg, .double qa, .double qb, .double qr]))]) ⟨hx, hb, hml, hown, hts⟩ hN hK hP hD hS hA [] [0] rfl rfl (by decide) (c_Model_floor l dC dI cI cD cZ H.size (FP.ddiv z side) (g_1.w (by decide +kernel) (by decide +kernel))) (va_cwS 1 hts (gx_gS kw_1009 kw_1010 kw_54 kw_1011) rfl rfl rfl (by decide +kernel) ⟨Nat.le_of_ble_eq_true rfl, Nat.le_of_ble_eq_true rfl⟩) rfl hl.1 rfl (Nat.le_of_ble_eq_true rfl) d_Model_wrapped_11 ⟨Nat.le_of_ble_eq_true rfl, Nat.le_of_ble_eq_true rfl⟩ (fun r_2 u_3 H locs hw11 hP hD hS => ?_)
  try dsimp only at hw11 hP hD
  have hP : va_P (dC, dI) classes [(pm, .inr (9, [.double side, .double cut, .double skin, .double heat, .ref pX, .ref pY, .ref pU, .ref pV, .ref pM, .ref pS, .ref pK, .ref pW, .ref pD, .ref pC, .int (nI n), .int (nI nb), .int (nI nr), .ref pBI, .ref pBJ, .ref pRI, .ref pRJ, .ref pBK, .ref pBL, .ref pRL, .ref pLX, .ref pLY, .int isT, .ref pOX, .ref pOY, .ref pOU, .ref pOV, .ref pNX, .ref pNY, .ref pFX, .ref pFY, .ref pBN, .int stn, .int tm, .int rd, .int tk, .int ov1, .int st1, .int bl1, .int thw, .int cg, .double qa, .double qb, .double qr]))] H := hP
  have hD : va_D A [(pm, .inr (9, [.double side, .double cut, .double skin, .double heat, .ref pX, .ref pY, .ref pU, .ref pV, .ref pM, .ref pS, .ref pK, .ref pW, .ref pD, .ref pC, .int (nI n), .int (nI nb), .int (nI nr), .ref pBI, .ref pBJ, .ref pRI, .ref pRJ, .ref pBK, .ref pBL, .ref pRL, .ref pLX, .ref pLY, .int isT, .ref pOX, .ref pOY, .ref pOU, .ref pOV, .ref pNX, .ref pNY, .ref pFX, .ref pFY, .ref pBN, .int stn, .int tm, .int rd, .int tk, .int ov1, .int st1, .int bl1, .int thw, .int cg, .double qa, .double qb, .double qr]))] := hD
  obtain rfl : r_2 = pb_floor (FP.ddiv z side) := hw11
  have g_4 := pb_floor_I (g_1.w (by decide +kernel) (by decide +kernel))
  have g_5 := fp_I_mul (fp_d (-1) 1127) (fp_d 1 1127) hs.I g_4 (by decide +kernel)
  refine lv_dmul hx hb d_Model_wrapped_14 g_5.n ?_
  have g_6 := fp_I_sub (fp_d (-65) 1121) (fp_d 65 1121) hz g_5 (by decide +kernel)
  refine lv_dsub hx hb d_Model_wrapped_15 g_6.n ?_
  refine lv_dstore_n (lv' := [(3, .double (FP.dsub z (FP.dmul side (pb_floor (FP.ddiv z side))))), (0, .ref pm), (1, .double z)]) hx hb d_Model_wrapped_16 rfl hl (by decide) rfl (fun ls hl => ?_)
  refine lv_dload_n hx hb d_Model_wrapped_17 rfl (lv_at hl 0 rfl) ?_
  refine lv_aload_n hx hb d_Model_wrapped_18 rfl (lv_at hl 1 rfl) ?_
  refine va_get (D := (dC, dI)) (ci := 9) (v := .double side) (C := R_Model) (T := F_Model) (N := 48) hx hb hts (fun w h => List.mem_cons_of_mem _ (i_Model w h)) hown hK hP 0 rfl rfl 0 (by decide) (hts _ (List.mem_cons_of_mem _ kw_841)) (fun _ h9 => h9) rfl d_Model_wrapped_19 ?_
  refine gx_ge (tgt := 30) hx hb d_Model_wrapped_22 d_Model_wrapped_23 (by decide) (fun c22 => ?_) (fun c22 => ?_)
  · skip
    refine lv_dload_n hx hb d_Model_wrapped_30 rfl (lv_at hl 0 rfl) ?_
    have hP9 := hP.sub (ws' := [(pm, .inr (9, [.double side, .double cut, .double skin, .double heat, .ref pX, .ref pY, .ref pU, .ref pV, .ref pM, .ref pS, .ref pK, .ref pW, .ref pD, .ref pC, .int (nI n), .int (nI nb), .int (nI nr), .ref pBI, .ref pBJ, .ref pRI, .ref pRJ, .ref pBK, .ref pBL, .ref pRL, .ref pLX, .ref pLY, .int isT, .ref pOX, .ref pOY, .ref pOU, .ref pOV, .ref pNX, .ref pNY, .ref pFX, .ref pFY, .ref pBN, .int stn, .int tm, .int rd, .int tk, .int ov1, .int st1, .int bl1, .int thw, .int cg, .double qa, .double qb, .double qr]))]) [0] rfl
    have hD9 := hD.sub (ws' := [(pm, .inr (9, [.double side, .double cut, .double skin, .double heat, .ref pX, .ref pY, .ref pU, .ref pV, .ref pM, .ref pS, .ref pK, .ref pW, .ref pD, .ref pC, .int (nI n), .int (nI nb), .int (nI nr), .ref pBI, .ref pBJ, .ref pRI, .ref pRJ, .ref pBK, .ref pBL, .ref pRL, .ref pLX, .ref pLY, .int isT, .ref pOX, .ref pOY, .ref pOU, .ref pOV, .ref pNX, .ref pNY, .ref pFX, .ref pFY, .ref pBN, .int stn, .int tm, .int rd, .int tk, .int ov1, .int st1, .int bl1, .int thw, .int cg, .double qa, .double qb, .double qr]))]) [0] (by decide) rfl
    exact W.dret (v := (FP.dsub z (FP.dmul side (pb_floor (FP.ddiv z side))))) hx hb hr (fun tt9 ht9 hW9 => ⟨⟨(FP.dsub z (FP.dmul side (pb_floor (FP.ddiv z side)))), (), rfl, (by unfold pb_wrap; rw [if_pos (pb_ngeq g_6.1 hs.1 c22)]), by rw [ht9]; exact hP9, va_K.moved hW9.alike hK, hD9⟩, hS.F ht9⟩) hS.2.2 d_Model_wrapped_31
  · skip
    refine lv_dconst0 hx hb d_Model_wrapped_26 ?_
    refine lv_goto (tgt := 31) hx hb d_Model_wrapped_27 (by decide) ?_
    have hP9 := hP.sub (ws' := [(pm, .inr (9, [.double side, .double cut, .double skin, .double heat, .ref pX, .ref pY, .ref pU, .ref pV, .ref pM, .ref pS, .ref pK, .ref pW, .ref pD, .ref pC, .int (nI n), .int (nI nb), .int (nI nr), .ref pBI, .ref pBJ, .ref pRI, .ref pRJ, .ref pBK, .ref pBL, .ref pRL, .ref pLX, .ref pLY, .int isT, .ref pOX, .ref pOY, .ref pOU, .ref pOV, .ref pNX, .ref pNY, .ref pFX, .ref pFY, .ref pBN, .int stn, .int tm, .int rd, .int tk, .int ov1, .int st1, .int bl1, .int thw, .int cg, .double qa, .double qb, .double qr]))]) [0] rfl
    have hD9 := hD.sub (ws' := [(pm, .inr (9, [.double side, .double cut, .double skin, .double heat, .ref pX, .ref pY, .ref pU, .ref pV, .ref pM, .ref pS, .ref pK, .ref pW, .ref pD, .ref pC, .int (nI n), .int (nI nb), .int (nI nr), .ref pBI, .ref pBJ, .ref pRI, .ref pRJ, .ref pBK, .ref pBL, .ref pRL, .ref pLX, .ref pLY, .int isT, .ref pOX, .ref pOY, .ref pOU, .ref pOV, .ref pNX, .ref pNY, .ref pFX, .ref pFY, .ref pBN, .int stn, .int tm, .int rd, .int tk, .int ov1, .int st1, .int bl1, .int thw, .int cg, .double qa, .double qb, .double qr]))]) [0] (by decide) rfl
    exact W.dret (v := FP.dconst0) hx hb hr (fun tt9 ht9 hW9 => ⟨⟨FP.dconst0, (), rfl, (by unfold pb_wrap; rw [if_neg (pb_geqn c22)]), by rw [ht9]; exact hP9, va_K.moved hW9.alike hK, hD9⟩, hS.F ht9⟩) hS.2.2 d_Model_wrapped_31
set_option maxHeartbeats 4000000 in
set_option maxRecDepth 100000 in
/-- NEAREST -/
theorem c_Model_nearest (l : Launch) (dC : Nat → ClassId) (dI : Nat → Nat → Nat) (cI cD cZ : ClassId) (sz : Nat) (pm : Nat) (pX : Nat) (pY : Nat) (pU : Nat) (pV : Nat) (pM : Nat) (pS : Nat) (pK : Nat) (pW : Nat) (pD : Nat) (pC : Nat) (pBI : Nat) (pBJ : Nat) (pRI : Nat) (pRJ : Nat) (pBK : Nat) (pBL : Nat) (pRL : Nat) (pLX : Nat) (pLY : Nat) (pOX : Nat) (pOY : Nat) (pOU : Nat) (pOV : Nat) (pNX : Nat) (pNY : Nat) (pFX : Nat) (pFY : Nat) (pBN : Nat) (side : UInt64) (cut : UInt64) (skin : UInt64) (heat : UInt64) (n : Nat) (nb : Nat) (nr : Nat) (isT : Int32) (stn : Int32) (tm : Int32) (rd : Int32) (tk : Int32) (ov1 : Int32) (st1 : Int32) (bl1 : Int32) (thw : Int32) (cg : Int32) (qa : UInt64) (qb : UInt64) (qr : UInt64) (z : UInt64) (k : Int) (hs : pb_S side k) (hz : fp_I z (fp_d (-1) 1122) (fp_d 1 1122)) : Met l y_Model_nearest w_Model_nearest ({ frames := 1, cells := 0, slots := 0, locals := 23 }) (va_Pc [.ref pm, .double z] (gx_B (dC, dI) classes (gx_T cI cD cZ) [(pm, .inr (9, [.double side, .double cut, .double skin, .double heat, .ref pX, .ref pY, .ref pU, .ref pV, .ref pM, .ref pS, .ref pK, .ref pW, .ref pD, .ref pC, .int (nI n), .int (nI nb), .int (nI nr), .ref pBI, .ref pBJ, .ref pRI, .ref pRJ, .ref pBK, .ref pBL, .ref pRL, .ref pLX, .ref pLY, .int isT, .ref pOX, .ref pOY, .ref pOU, .ref pOV, .ref pNX, .ref pNY, .ref pFX, .ref pFY, .ref pBN, .int stn, .int tm, .int rd, .int tk, .int ov1, .int st1, .int bl1, .int thw, .int cg, .double qa, .double qb, .double qr]))] sz)) (va_Qd (fun (rr : UInt64) (uu : Unit) => rr = pb_near side z) (fun (uu : Unit) t => gx_E (dC, dI) classes (gx_T cI cD cZ) (va_A [(pm, .inr (9, [.double side, .double cut, .double skin, .double heat, .ref pX, .ref pY, .ref pU, .ref pV, .ref pM, .ref pS, .ref pK, .ref pW, .ref pD, .ref pC, .int (nI n), .int (nI nb), .int (nI nr), .ref pBI, .ref pBJ, .ref pRI, .ref pRJ, .ref pBK, .ref pBL, .ref pRL, .ref pLX, .ref pLY, .int isT, .ref pOX, .ref pOY, .ref pOU, .ref pOV, .ref pNX, .ref pNY, .ref pFX, .ref pFY, .ref pBN, .int stn, .int tm, .int rd, .int tk, .int ov1, .int st1, .int bl1, .int thw, .int cg, .double qa, .double qb, .double qr]))] sz) [(pm, .inr (9, [.double side, .double cut, .double skin, .double heat, .ref pX, .ref pY, .ref pU, .ref pV, .ref pM, .ref pS, .ref pK, .ref pW, .ref pD, .ref pC, .int (nI n), .int (nI nb), .int (nI nr), .ref pBI, .ref pBJ, .ref pRI, .ref pRJ, .ref pBK, .ref pBL, .ref pRL, .ref pLX, .ref pLY, .int isT, .ref pOX, .ref pOY, .ref pOU, .ref pOV, .ref pNX, .ref pNY, .ref pFX, .ref pFY, .ref pBN, .int stn, .int tm, .int rd, .int tk, .int ov1, .int st1, .int bl1, .int thw, .int cg, .double qa, .double qb, .double qr]))] t) (va_A [(pm, .inr (9, [.double side, .double cut, .double skin, .double heat, .ref pX, .ref pY, .ref pU, .ref pV, .ref pM, .ref pS, .ref pK, .ref pW, .ref pD, .ref pC, .int (nI n), .int (nI nb), .int (nI nr), .ref pBI, .ref pBJ, .ref pRI, .ref pRJ, .ref pBK, .ref pBL, .ref pRL, .ref pLX, .ref pLY, .int isT, .ref pOX, .ref pOY, .ref pOU, .ref pOV, .ref pNX, .ref pNY, .ref pFX, .ref pFY, .ref pBN, .int stn, .int tm, .int rd, .int tk, .int ov1, .int st1, .int bl1, .int thw, .int cg, .double qa, .double qb, .double qr]))] sz)) 0 0 (va_A [(pm, .inr (9, [.double side, .double cut, .double skin, .double heat, .ref pX, .ref pY, .ref pU, .ref pV, .ref pM, .ref pS, .ref pK, .ref pW, .ref pD, .ref pC, .int (nI n), .int (nI nb), .int (nI nr), .ref pBI, .ref pBJ, .ref pRI, .ref pRJ, .ref pBK, .ref pBL, .ref pRL, .ref pLX, .ref pLY, .int isT, .ref pOX, .ref pOY, .ref pOU, .ref pOV, .ref pNX, .ref pNY, .ref pFX, .ref pFY, .ref pBN, .int stn, .int tm, .int rd, .int tk, .int ov1, .int st1, .int bl1, .int thw, .int cg, .double qa, .double qb, .double qr]))] sz) := by
  refine Met.ofW (cc := b_Model_nearest) (maxL := 3) (ret := (some .double)) (by decide) rfl ?_
  intro p e s m args below meth c s₁ B hml hv
  obtain ⟨rfl, hsz, hP, hK, hD0, hN⟩ := hv
  have hx := B.exec
  have hb := B.bytes
  have hr := B.returns
  have hts := atoms_spec (ws := w_Model_nearest) B.pre
  have hown : s.vm.findClass R_Model = some m.cls := findClass_of_methodNamed B.named
  have hlocks := B.notSynchronized
  subst hsz
  have hD := hD0.self (sz := s.heap.size)
  generalize hAe : va_A [(pm, .inr (9, [.double side, .double cut, .double skin, .double heat, .ref pX, .ref pY, .ref pU, .ref pV, .ref pM, .ref pS, .ref pK, .ref pW, .ref pD, .ref pC, .int (nI n), .int (nI nb), .int (nI nr), .ref pBI, .ref pBJ, .ref pRI, .ref pRJ, .ref pBK, .ref pBL, .ref pRL, .ref pLX, .ref pLY, .int isT, .ref pOX, .ref pOY, .ref pOU, .ref pOV, .ref pNX, .ref pNY, .ref pFX, .ref pFY, .ref pBN, .int stn, .int tm, .int rd, .int tk, .int ov1, .int st1, .int bl1, .int thw, .int cg, .double qa, .double qb, .double qr]))] s.heap.size = A at hD ⊢
  have hA : ∀ q : Nat, s.heap.size ≤ q → A q := fun q h => by rw [← hAe]; exact Or.inr h
  have hS : va_S A s.heap s.heap [] := va_S.rf
  have hl := lv_entry ([.ref pm, .double z]) (n := 3) (Nat.le_of_ble_eq_true rfl)
  rw [lg_entry_eq]
  generalize (lg_sl ([.ref pm, .double z]) ++ List.replicate (3 - (lg_sl ([.ref pm, .double z])).length) Slot.unset).toArray = ls at hl ⊢
  have hl : lv_has ls 3 [(0, .ref pm), (1, .double z)] := hl
  obtain ⟨H, hH⟩ : ∃ H, H = s.heap := ⟨_, rfl⟩
  rw [← hH] at hP
  have hS : va_S A s.heap H [] := by rw [hH]; exact hS
  refine gx_start hH ?_
  refine lv_dload_n hx hb d_Model_nearest_0 rfl (lv_at hl 1 rfl) ?_
  refine lv_aload_n hx hb d_Model_nearest_1 rfl (lv_at hl 0 rfl) ?_
  refine va_get (D := (dC, dI)) (ci := 9) (v := .double side) (C := R_Model) (T := F_Model) (N := 48) hx hb hts (fun w h => List.mem_cons_of_mem _ (i_Model w h)) hown hK hP 0 rfl rfl 0 (by decide) (hts _ (List.mem_cons_of_mem _ kw_841)) (fun _ h9 => h9) rfl d_Model_nearest_2 ?_
  refine lv_dload_n hx hb d_Model_nearest_5 rfl (lv_at hl 1 rfl) ?_
  refine lv_aload_n hx hb d_Model_nearest_6 rfl (lv_at hl 0 rfl) ?_
  refine va_get (D := (dC, dI)) (ci := 9) (v := .double side) (C := R_Model) (T := F_Model) (N := 48) hx hb hts (fun w h => List.mem_cons_of_mem _ (i_Model w h)) hown hK hP 0 rfl rfl 0 (by decide) (hts _ (List.mem_cons_of_mem _ kw_841)) (fun _ h9 => h9) rfl d_Model_nearest_7 ?_
  have g_1 := fp_I_div (fp_d (-1) 1120) (fp_d 1 1120) hz hs.I (by decide +kernel)
  refine lv_ddiv hx hb d_Model_nearest_10 g_1.n ?_
  refine lv_ldc2d (v := 4602678819172646912) hx hb hown (hts (.constantDouble R_Model 7 4602678819172646912) (by decide +kernel)) d_Model_nearest_11 ?_
  have g_2 := fp_const (a := 4602678819172646912) (T := (fp_d 1 1073)) (by decide +kernel)
  have g_3 := fp_I_add (fp_d (-1) 1120) (fp_d 8388609 1097) g_1 g_2 (by decide +kernel)
  refine lv_dadd hx hb d_Model_nearest_14 g_3.n ?_
  refine gx_Sd (st0 := [.double (FP.dadd (FP.ddiv z side) 4602678819172646912), .double side, .double z]) (As := [.double (FP.dadd (FP.ddiv z side) 4602678819172646912)]) (rest := [.double side, .double z]) (wr := [(pm, .inr (9, [.double side, .double cut, .double skin, .double heat, .ref pX, .ref pY, .ref pU, .ref pV, .ref pM, .ref pS, .ref pK, .ref pW, .ref pD, .ref pC, .int (nI n), .int (nI nb), .int (nI nr), .ref pBI, .ref pBJ, .ref pRI, .ref pRJ, .ref pBK, .ref pBL, .ref pRL, .ref pLX, .ref pLY, .int isT, .ref pOX, .ref pOY, .ref pOU, .ref pOV, .ref pNX, .ref pNY, .ref pFX, .ref pFY, .ref pBN, .int stn, .int tm, .int rd, .int tk, .int ov1, .int st1, .int bl1, .int thw, .int cg, .double qa, .double qb, .double qr]))]) ⟨hx, hb, hml, hown, hts⟩ hN hK hP hD hS hA [] [0] rfl rfl (by decide) (c_Model_floor l dC dI cI cD cZ H.size (FP.dadd (FP.ddiv z side) 4602678819172646912) (g_3.w (by decide +kernel) (by decide +kernel))) (va_cwS 1 hts (gx_gS kw_1009 kw_1010 kw_54 kw_1011) rfl rfl rfl (by decide +kernel) ⟨Nat.le_of_ble_eq_true rfl, Nat.le_of_ble_eq_true rfl⟩) rfl hl.1 rfl (Nat.le_of_ble_eq_true rfl) d_Model_nearest_15 ⟨Nat.le_of_ble_eq_true rfl, Nat.le_of_ble_eq_true rfl⟩ (fun r_4 u_5 H locs hw15 hP hD hS => ?_)
  try dsimp only at hw15 hP hD
  have hP : va_P (dC, dI) classes [(pm, .inr (9, [.double side, .double cut, .double skin, .double heat, .ref pX, .ref pY, .ref pU, .ref pV, .ref pM, .ref pS, .ref pK, .ref pW, .ref pD, .ref pC, .int (nI n), .int (nI nb), .int (nI nr), .ref pBI, .ref pBJ, .ref pRI, .ref pRJ, .ref pBK, .ref pBL, .ref pRL, .ref pLX, .ref pLY, .int isT, .ref pOX, .ref pOY, .ref pOU, .ref pOV, .ref pNX, .ref pNY, .ref pFX, .ref pFY, .ref pBN, .int stn, .int tm, .int rd, .int tk, .int ov1, .int st1, .int bl1, .int thw, .int cg, .double qa, .double qb, .double qr]))] H := hP
  have hD : va_D A [(pm, .inr (9, [.double side, .double cut, .double skin, .double heat, .ref pX, .ref pY, .ref pU, .ref pV, .ref pM, .ref pS, .ref pK, .ref pW, .ref pD, .ref pC, .int (nI n), .int (nI nb), .int (nI nr), .ref pBI, .ref pBJ, .ref pRI, .ref pRJ, .ref pBK, .ref pBL, .ref pRL, .ref pLX, .ref pLY, .int isT, .ref pOX, .ref pOY, .ref pOU, .ref pOV, .ref pNX, .ref pNY, .ref pFX, .ref pFY, .ref pBN, .int stn, .int tm, .int rd, .int tk, .int ov1, .int st1, .int bl1, .int thw, .int cg, .double qa, .double qb, .double qr]))] := hD
  obtain rfl : r_4 = pb_floor (FP.dadd (FP.ddiv z side) 4602678819172646912) := hw15
  have g_6 := pb_floor_I (g_3.w (by decide +kernel) (by decide +kernel))
  have g_7 := fp_I_mul (fp_d (-1) 1127) (fp_d 1 1127) hs.I g_6 (by decide +kernel)
  refine lv_dmul hx hb d_Model_nearest_18 g_7.n ?_
  have g_8 := fp_I_sub (fp_d (-33) 1122) (fp_d 33 1122) hz g_7 (by decide +kernel)
  refine lv_dsub hx hb d_Model_nearest_19 g_8.n ?_
  have hP9 := hP.sub (ws' := [(pm, .inr (9, [.double side, .double cut, .double skin, .double heat, .ref pX, .ref pY, .ref pU, .ref pV, .ref pM, .ref pS, .ref pK, .ref pW, .ref pD, .ref pC, .int (nI n), .int (nI nb), .int (nI nr), .ref pBI, .ref pBJ, .ref pRI, .ref pRJ, .ref pBK, .ref pBL, .ref pRL, .ref pLX, .ref pLY, .int isT, .ref pOX, .ref pOY, .ref pOU, .ref pOV, .ref pNX, .ref pNY, .ref pFX, .ref pFY, .ref pBN, .int stn, .int tm, .int rd, .int tk, .int ov1, .int st1, .int bl1, .int thw, .int cg, .double qa, .double qb, .double qr]))]) [0] rfl
  have hD9 := hD.sub (ws' := [(pm, .inr (9, [.double side, .double cut, .double skin, .double heat, .ref pX, .ref pY, .ref pU, .ref pV, .ref pM, .ref pS, .ref pK, .ref pW, .ref pD, .ref pC, .int (nI n), .int (nI nb), .int (nI nr), .ref pBI, .ref pBJ, .ref pRI, .ref pRJ, .ref pBK, .ref pBL, .ref pRL, .ref pLX, .ref pLY, .int isT, .ref pOX, .ref pOY, .ref pOU, .ref pOV, .ref pNX, .ref pNY, .ref pFX, .ref pFY, .ref pBN, .int stn, .int tm, .int rd, .int tk, .int ov1, .int st1, .int bl1, .int thw, .int cg, .double qa, .double qb, .double qr]))]) [0] (by decide) rfl
  exact W.dret (v := (FP.dsub z (FP.dmul side (pb_floor (FP.dadd (FP.ddiv z side) 4602678819172646912))))) hx hb hr (fun tt9 ht9 hW9 => ⟨⟨(FP.dsub z (FP.dmul side (pb_floor (FP.dadd (FP.ddiv z side) 4602678819172646912)))), (), rfl, rfl, by rw [ht9]; exact hP9, va_K.moved hW9.alike hK, hD9⟩, hS.F ht9⟩) hS.2.2 d_Model_nearest_20
set_option maxHeartbeats 4000000 in
set_option maxRecDepth 100000 in
/-- FROM TO -/
theorem c_Model_way (l : Launch) (dC : Nat → ClassId) (dI : Nat → Nat → Nat) (cI cD cZ : ClassId) (sz : Nat) (pm : Nat) (pX : Nat) (pY : Nat) (pU : Nat) (pV : Nat) (pM : Nat) (pS : Nat) (pK : Nat) (pW : Nat) (pD : Nat) (pC : Nat) (pBI : Nat) (pBJ : Nat) (pRI : Nat) (pRJ : Nat) (pBK : Nat) (pBL : Nat) (pRL : Nat) (pLX : Nat) (pLY : Nat) (pOX : Nat) (pOY : Nat) (pOU : Nat) (pOV : Nat) (pNX : Nat) (pNY : Nat) (pFX : Nat) (pFY : Nat) (pBN : Nat) (side : UInt64) (cut : UInt64) (skin : UInt64) (heat : UInt64) (n : Nat) (nb : Nat) (nr : Nat) (isT : Int32) (stn : Int32) (tm : Int32) (rd : Int32) (tk : Int32) (ov1 : Int32) (st1 : Int32) (bl1 : Int32) (thw : Int32) (cg : Int32) (qa : UInt64) (qb : UInt64) (qr : UInt64) (x1 : UInt64) (y1 : UInt64) (x2 : UInt64) (y2 : UInt64) (k : Int) (hs : pb_S side k) (hx1 : fp_I x1 (fp_d (-1) 1121) (fp_d 1 1121)) (hy1 : fp_I y1 (fp_d (-1) 1121) (fp_d 1 1121)) (hx2 : fp_I x2 (fp_d (-1) 1121) (fp_d 1 1121)) (hy2 : fp_I y2 (fp_d (-1) 1121) (fp_d 1 1121)) : Met l y_Model_way w_Model_way ({ frames := 2, cells := 0, slots := 0, locals := 45 }) (va_Pc [.ref pm, .double x1, .double y1, .double x2, .double y2] (gx_B (dC, dI) classes (gx_T cI cD cZ) [(pm, .inr (9, [.double side, .double cut, .double skin, .double heat, .ref pX, .ref pY, .ref pU, .ref pV, .ref pM, .ref pS, .ref pK, .ref pW, .ref pD, .ref pC, .int (nI n), .int (nI nb), .int (nI nr), .ref pBI, .ref pBJ, .ref pRI, .ref pRJ, .ref pBK, .ref pBL, .ref pRL, .ref pLX, .ref pLY, .int isT, .ref pOX, .ref pOY, .ref pOU, .ref pOV, .ref pNX, .ref pNY, .ref pFX, .ref pFY, .ref pBN, .int stn, .int tm, .int rd, .int tk, .int ov1, .int st1, .int bl1, .int thw, .int cg, .double qa, .double qb, .double qr]))] sz)) (va_Qv (fun (uu : Unit) => True) (fun (uu : Unit) t => gx_E (dC, dI) classes (gx_T cI cD cZ) (va_A [(pm, .inr (9, [.double side, .double cut, .double skin, .double heat, .ref pX, .ref pY, .ref pU, .ref pV, .ref pM, .ref pS, .ref pK, .ref pW, .ref pD, .ref pC, .int (nI n), .int (nI nb), .int (nI nr), .ref pBI, .ref pBJ, .ref pRI, .ref pRJ, .ref pBK, .ref pBL, .ref pRL, .ref pLX, .ref pLY, .int isT, .ref pOX, .ref pOY, .ref pOU, .ref pOV, .ref pNX, .ref pNY, .ref pFX, .ref pFY, .ref pBN, .int stn, .int tm, .int rd, .int tk, .int ov1, .int st1, .int bl1, .int thw, .int cg, .double qa, .double qb, .double qr]))] sz) [(pm, .inr (9, [.double side, .double cut, .double skin, .double heat, .ref pX, .ref pY, .ref pU, .ref pV, .ref pM, .ref pS, .ref pK, .ref pW, .ref pD, .ref pC, .int (nI n), .int (nI nb), .int (nI nr), .ref pBI, .ref pBJ, .ref pRI, .ref pRJ, .ref pBK, .ref pBL, .ref pRL, .ref pLX, .ref pLY, .int isT, .ref pOX, .ref pOY, .ref pOU, .ref pOV, .ref pNX, .ref pNY, .ref pFX, .ref pFY, .ref pBN, .int stn, .int tm, .int rd, .int tk, .int ov1, .int st1, .int bl1, .int thw, .int cg, .double (pb_near side (FP.dsub x2 x1)), .double (pb_near side (FP.dsub y2 y1)), .double (pb_r2 side x1 y1 x2 y2)]))] t) (va_A [(pm, .inr (9, [.double side, .double cut, .double skin, .double heat, .ref pX, .ref pY, .ref pU, .ref pV, .ref pM, .ref pS, .ref pK, .ref pW, .ref pD, .ref pC, .int (nI n), .int (nI nb), .int (nI nr), .ref pBI, .ref pBJ, .ref pRI, .ref pRJ, .ref pBK, .ref pBL, .ref pRL, .ref pLX, .ref pLY, .int isT, .ref pOX, .ref pOY, .ref pOU, .ref pOV, .ref pNX, .ref pNY, .ref pFX, .ref pFY, .ref pBN, .int stn, .int tm, .int rd, .int tk, .int ov1, .int st1, .int bl1, .int thw, .int cg, .double qa, .double qb, .double qr]))] sz)) 0 0 (va_A [(pm, .inr (9, [.double side, .double cut, .double skin, .double heat, .ref pX, .ref pY, .ref pU, .ref pV, .ref pM, .ref pS, .ref pK, .ref pW, .ref pD, .ref pC, .int (nI n), .int (nI nb), .int (nI nr), .ref pBI, .ref pBJ, .ref pRI, .ref pRJ, .ref pBK, .ref pBL, .ref pRL, .ref pLX, .ref pLY, .int isT, .ref pOX, .ref pOY, .ref pOU, .ref pOV, .ref pNX, .ref pNY, .ref pFX, .ref pFY, .ref pBN, .int stn, .int tm, .int rd, .int tk, .int ov1, .int st1, .int bl1, .int thw, .int cg, .double qa, .double qb, .double qr]))] sz) := by
  refine Met.ofW (cc := b_Model_way) (maxL := 9) (ret := none) (by decide) rfl ?_
  intro p e s m args below meth c s₁ B hml hv
  obtain ⟨rfl, hsz, hP, hK, hD0, hN⟩ := hv
  have hx := B.exec
  have hb := B.bytes
  have hr := B.returns
  have hts := atoms_spec (ws := w_Model_way) B.pre
  have hown : s.vm.findClass R_Model = some m.cls := findClass_of_methodNamed B.named
  have hlocks := B.notSynchronized
  subst hsz
  have hD := hD0.self (sz := s.heap.size)
  generalize hAe : va_A [(pm, .inr (9, [.double side, .double cut, .double skin, .double heat, .ref pX, .ref pY, .ref pU, .ref pV, .ref pM, .ref pS, .ref pK, .ref pW, .ref pD, .ref pC, .int (nI n), .int (nI nb), .int (nI nr), .ref pBI, .ref pBJ, .ref pRI, .ref pRJ, .ref pBK, .ref pBL, .ref pRL, .ref pLX, .ref pLY, .int isT, .ref pOX, .ref pOY, .ref pOU, .ref pOV, .ref pNX, .ref pNY, .ref pFX, .ref pFY, .ref pBN, .int stn, .int tm, .int rd, .int tk, .int ov1, .int st1, .int bl1, .int thw, .int cg, .double qa, .double qb, .double qr]))] s.heap.size = A at hD ⊢
  have hA : ∀ q : Nat, s.heap.size ≤ q → A q := fun q h => by rw [← hAe]; exact Or.inr h
  have hS : va_S A s.heap s.heap [] := va_S.rf
  have hl := lv_entry ([.ref pm, .double x1, .double y1, .double x2, .double y2]) (n := 9) (Nat.le_of_ble_eq_true rfl)
  rw [lg_entry_eq]
  generalize (lg_sl ([.ref pm, .double x1, .double y1, .double x2, .double y2]) ++ List.replicate (9 - (lg_sl ([.ref pm, .double x1, .double y1, .double x2, .double y2])).length) Slot.unset).toArray = ls at hl ⊢
  have hl : lv_has ls 9 [(0, .ref pm), (1, .double x1), (3, .double y1), (5, .double x2), (7, .double y2)] := hl
  obtain ⟨H, hH⟩ : ∃ H, H = s.heap := ⟨_, rfl⟩
  rw [← hH] at hP
  have hS : va_S A s.heap H [] := by rw [hH]; exact hS
  refine gx_start hH ?_
  refine lv_aload_n hx hb d_Model_way_0 rfl (lv_at hl 0 rfl) ?_
  refine lv_dload hx hb d_Model_way_1 (lv_at hl 3 rfl) ?_
  refine lv_dload_n hx hb d_Model_way_3 rfl (lv_at hl 1 rfl) ?_
  have g_1 := fp_I_sub (fp_d (-1) 1122) (fp_d 1 1122) hx2 hx1 (by decide +kernel)
  refine lv_dsub hx hb d_Model_way_4 g_1.n ?_
  refine va_put (D := (dC, dI)) (ci := 9) (v := .double (FP.dsub x2 x1)) (ty := .double) (C := R_Model) (T := F_Model) (N := 48) hx hb hts (fun w h => List.mem_cons_of_mem _ (i_Model w h)) t_Model t_Model_ok n_Model hown hK hP hD hS 0 rfl rfl 45 (by decide) (hts _ (List.mem_cons_of_mem _ kw_886)) (fun _ h9 => h9) rfl (by decide +kernel) rfl rfl (Nat.le_of_ble_eq_true rfl) d_Model_way_5 (fun H locs hP hD hS => ?_)
  have hP : va_P (dC, dI) classes [(pm, .inr (9, [.double side, .double cut, .double skin, .double heat, .ref pX, .ref pY, .ref pU, .ref pV, .ref pM, .ref pS, .ref pK, .ref pW, .ref pD, .ref pC, .int (nI n), .int (nI nb), .int (nI nr), .ref pBI, .ref pBJ, .ref pRI, .ref pRJ, .ref pBK, .ref pBL, .ref pRL, .ref pLX, .ref pLY, .int isT, .ref pOX, .ref pOY, .ref pOU, .ref pOV, .ref pNX, .ref pNY, .ref pFX, .ref pFY, .ref pBN, .int stn, .int tm, .int rd, .int tk, .int ov1, .int st1, .int bl1, .int thw, .int cg, .double (FP.dsub x2 x1), .double qb, .double qr]))] H := hP
  have hD : va_D A [(pm, .inr (9, [.double side, .double cut, .double skin, .double heat, .ref pX, .ref pY, .ref pU, .ref pV, .ref pM, .ref pS, .ref pK, .ref pW, .ref pD, .ref pC, .int (nI n), .int (nI nb), .int (nI nr), .ref pBI, .ref pBJ, .ref pRI, .ref pRJ, .ref pBK, .ref pBL, .ref pRL, .ref pLX, .ref pLY, .int isT, .ref pOX, .ref pOY, .ref pOU, .ref pOV, .ref pNX, .ref pNY, .ref pFX, .ref pFY, .ref pBN, .int stn, .int tm, .int rd, .int tk, .int ov1, .int st1, .int bl1, .int thw, .int cg, .double (FP.dsub x2 x1), .double qb, .double qr]))] := hD
  refine lv_aload_n hx hb d_Model_way_8 rfl (lv_at hl 0 rfl) ?_
  refine lv_aload_n hx hb d_Model_way_9 rfl (lv_at hl 0 rfl) ?_
  refine lv_aload_n hx hb d_Model_way_10 rfl (lv_at hl 0 rfl) ?_
  refine va_get (D := (dC, dI)) (ci := 9) (v := .double (FP.dsub x2 x1)) (C := R_Model) (T := F_Model) (N := 48) hx hb hts (fun w h => List.mem_cons_of_mem _ (i_Model w h)) hown hK hP 0 rfl rfl 45 (by decide) (hts _ (List.mem_cons_of_mem _ kw_886)) (fun _ h9 => h9) rfl d_Model_way_11 ?_
  refine gx_Vd (st0 := [.double (FP.dsub x2 x1), .ref pm, .ref pm]) (As := [.double (FP.dsub x2 x1)]) (rest := [.ref pm]) (wr := []) ⟨hx, hb, hml, hown, hts⟩ hN hK hP hD hS hA [0] [] rfl rfl (by decide) (c_Model_nearest l dC dI cI cD cZ H.size pm pX pY pU pV pM pS pK pW pD pC pBI pBJ pRI pRJ pBK pBL pRL pLX pLY pOX pOY pOU pOV pNX pNY pFX pFY pBN side cut skin heat n nb nr isT stn tm rd tk ov1 st1 bl1 thw cg (FP.dsub x2 x1) qb qr (FP.dsub x2 x1) k hs (g_1.w (by decide +kernel) (by decide +kernel))) (cwV 1 hts (gx_gV kw_1072 kw_1074 kw_28 kw_54 kw_1075) rfl rfl rfl (by decide +kernel) ⟨Nat.le_of_ble_eq_true rfl, Nat.le_of_ble_eq_true rfl⟩) 0 9 rfl rfl rfl hl.1 rfl (Nat.le_of_ble_eq_true rfl) d_Model_way_14 ⟨Nat.le_of_ble_eq_true rfl, Nat.le_of_ble_eq_true rfl⟩ (fun r_2 u_3 H locs hw14 hP hD hS => ?_)
  try dsimp only at hw14 hP hD
  have hP : va_P (dC, dI) classes [(pm, .inr (9, [.double side, .double cut, .double skin, .double heat, .ref pX, .ref pY, .ref pU, .ref pV, .ref pM, .ref pS, .ref pK, .ref pW, .ref pD, .ref pC, .int (nI n), .int (nI nb), .int (nI nr), .ref pBI, .ref pBJ, .ref pRI, .ref pRJ, .ref pBK, .ref pBL, .ref pRL, .ref pLX, .ref pLY, .int isT, .ref pOX, .ref pOY, .ref pOU, .ref pOV, .ref pNX, .ref pNY, .ref pFX, .ref pFY, .ref pBN, .int stn, .int tm, .int rd, .int tk, .int ov1, .int st1, .int bl1, .int thw, .int cg, .double (FP.dsub x2 x1), .double qb, .double qr]))] H := hP
  have hD : va_D A [(pm, .inr (9, [.double side, .double cut, .double skin, .double heat, .ref pX, .ref pY, .ref pU, .ref pV, .ref pM, .ref pS, .ref pK, .ref pW, .ref pD, .ref pC, .int (nI n), .int (nI nb), .int (nI nr), .ref pBI, .ref pBJ, .ref pRI, .ref pRJ, .ref pBK, .ref pBL, .ref pRL, .ref pLX, .ref pLY, .int isT, .ref pOX, .ref pOY, .ref pOU, .ref pOV, .ref pNX, .ref pNY, .ref pFX, .ref pFY, .ref pBN, .int stn, .int tm, .int rd, .int tk, .int ov1, .int st1, .int bl1, .int thw, .int cg, .double (FP.dsub x2 x1), .double qb, .double qr]))] := hD
  obtain rfl : r_2 = pb_near side (FP.dsub x2 x1) := hw14
  have g_4 := pb_near_I hs (g_1.w (by decide +kernel) (by decide +kernel))
  refine va_put (D := (dC, dI)) (ci := 9) (v := .double (pb_near side (FP.dsub x2 x1))) (ty := .double) (C := R_Model) (T := F_Model) (N := 48) hx hb hts (fun w h => List.mem_cons_of_mem _ (i_Model w h)) t_Model t_Model_ok n_Model hown hK hP hD hS 0 rfl rfl 45 (by decide) (hts _ (List.mem_cons_of_mem _ kw_886)) (fun _ h9 => h9) rfl (by decide +kernel) rfl rfl (Nat.le_of_ble_eq_true rfl) d_Model_way_17 (fun H locs hP hD hS => ?_)
  have hP : va_P (dC, dI) classes [(pm, .inr (9, [.double side, .double cut, .double skin, .double heat, .ref pX, .ref pY, .ref pU, .ref pV, .ref pM, .ref pS, .ref pK, .ref pW, .ref pD, .ref pC, .int (nI n), .int (nI nb), .int (nI nr), .ref pBI, .ref pBJ, .ref pRI, .ref pRJ, .ref pBK, .ref pBL, .ref pRL, .ref pLX, .ref pLY, .int isT, .ref pOX, .ref pOY, .ref pOU, .ref pOV, .ref pNX, .ref pNY, .ref pFX, .ref pFY, .ref pBN, .int stn, .int tm, .int rd, .int tk, .int ov1, .int st1, .int bl1, .int thw, .int cg, .double (pb_near side (FP.dsub x2 x1)), .double qb, .double qr]))] H := hP
  have hD : va_D A [(pm, .inr (9, [.double side, .double cut, .double skin, .double heat, .ref pX, .ref pY, .ref pU, .ref pV, .ref pM, .ref pS, .ref pK, .ref pW, .ref pD, .ref pC, .int (nI n), .int (nI nb), .int (nI nr), .ref pBI, .ref pBJ, .ref pRI, .ref pRJ, .ref pBK, .ref pBL, .ref pRL, .ref pLX, .ref pLY, .int isT, .ref pOX, .ref pOY, .ref pOU, .ref pOV, .ref pNX, .ref pNY, .ref pFX, .ref pFY, .ref pBN, .int stn, .int tm, .int rd, .int tk, .int ov1, .int st1, .int bl1, .int thw, .int cg, .double (pb_near side (FP.dsub x2 x1)), .double qb, .double qr]))] := hD
  refine lv_aload_n hx hb d_Model_way_20 rfl (lv_at hl 0 rfl) ?_
  refine lv_dload hx hb d_Model_way_21 (lv_at hl 4 rfl) ?_
  refine lv_dload_n hx hb d_Model_way_23 rfl (lv_at hl 2 rfl) ?_
  have g_5 := fp_I_sub (fp_d (-1) 1122) (fp_d 1 1122) hy2 hy1 (by decide +kernel)
  refine lv_dsub hx hb d_Model_way_24 g_5.n ?_
  refine va_put (D := (dC, dI)) (ci := 9) (v := .double (FP.dsub y2 y1)) (ty := .double) (C := R_Model) (T := F_Model) (N := 48) hx hb hts (fun w h => List.mem_cons_of_mem _ (i_Model w h)) t_Model t_Model_ok n_Model hown hK hP hD hS 0 rfl rfl 46 (by decide) (hts _ (List.mem_cons_of_mem _ kw_887)) (fun _ h9 => h9) rfl (by decide +kernel) rfl rfl (Nat.le_of_ble_eq_true rfl) d_Model_way_25 (fun H locs hP hD hS => ?_)
  have hP : va_P (dC, dI) classes [(pm, .inr (9, [.double side, .double cut, .double skin, .double heat, .ref pX, .ref pY, .ref pU, .ref pV, .ref pM, .ref pS, .ref pK, .ref pW, .ref pD, .ref pC, .int (nI n), .int (nI nb), .int (nI nr), .ref pBI, .ref pBJ, .ref pRI, .ref pRJ, .ref pBK, .ref pBL, .ref pRL, .ref pLX, .ref pLY, .int isT, .ref pOX, .ref pOY, .ref pOU, .ref pOV, .ref pNX, .ref pNY, .ref pFX, .ref pFY, .ref pBN, .int stn, .int tm, .int rd, .int tk, .int ov1, .int st1, .int bl1, .int thw, .int cg, .double (pb_near side (FP.dsub x2 x1)), .double (FP.dsub y2 y1), .double qr]))] H := hP
  have hD : va_D A [(pm, .inr (9, [.double side, .double cut, .double skin, .double heat, .ref pX, .ref pY, .ref pU, .ref pV, .ref pM, .ref pS, .ref pK, .ref pW, .ref pD, .ref pC, .int (nI n), .int (nI nb), .int (nI nr), .ref pBI, .ref pBJ, .ref pRI, .ref pRJ, .ref pBK, .ref pBL, .ref pRL, .ref pLX, .ref pLY, .int isT, .ref pOX, .ref pOY, .ref pOU, .ref pOV, .ref pNX, .ref pNY, .ref pFX, .ref pFY, .ref pBN, .int stn, .int tm, .int rd, .int tk, .int ov1, .int st1, .int bl1, .int thw, .int cg, .double (pb_near side (FP.dsub x2 x1)), .double (FP.dsub y2 y1), .double qr]))] := hD
  refine lv_aload_n hx hb d_Model_way_28 rfl (lv_at hl 0 rfl) ?_
  refine lv_aload_n hx hb d_Model_way_29 rfl (lv_at hl 0 rfl) ?_
  refine lv_aload_n hx hb d_Model_way_30 rfl (lv_at hl 0 rfl) ?_
  refine va_get (D := (dC, dI)) (ci := 9) (v := .double (FP.dsub y2 y1)) (C := R_Model) (T := F_Model) (N := 48) hx hb hts (fun w h => List.mem_cons_of_mem _ (i_Model w h)) hown hK hP 0 rfl rfl 46 (by decide) (hts _ (List.mem_cons_of_mem _ kw_887)) (fun _ h9 => h9) rfl d_Model_way_31 ?_
  refine gx_Vd (st0 := [.double (FP.dsub y2 y1), .ref pm, .ref pm]) (As := [.double (FP.dsub y2 y1)]) (rest := [.ref pm]) (wr := []) ⟨hx, hb, hml, hown, hts⟩ hN hK hP hD hS hA [0] [] rfl rfl (by decide) (c_Model_nearest l dC dI cI cD cZ H.size pm pX pY pU pV pM pS pK pW pD pC pBI pBJ pRI pRJ pBK pBL pRL pLX pLY pOX pOY pOU pOV pNX pNY pFX pFY pBN side cut skin heat n nb nr isT stn tm rd tk ov1 st1 bl1 thw cg (pb_near side (FP.dsub x2 x1)) (FP.dsub y2 y1) qr (FP.dsub y2 y1) k hs (g_5.w (by decide +kernel) (by decide +kernel))) (cwV 1 hts (gx_gV kw_1072 kw_1074 kw_28 kw_54 kw_1075) rfl rfl rfl (by decide +kernel) ⟨Nat.le_of_ble_eq_true rfl, Nat.le_of_ble_eq_true rfl⟩) 0 9 rfl rfl rfl hl.1 rfl (Nat.le_of_ble_eq_true rfl) d_Model_way_34 ⟨Nat.le_of_ble_eq_true rfl, Nat.le_of_ble_eq_true rfl⟩ (fun r_6 u_7 H locs hw34 hP hD hS => ?_)
  try dsimp only at hw34 hP hD
  have hP : va_P (dC, dI) classes [(pm, .inr (9, [.double side, .double cut, .double skin, .double heat, .ref pX, .ref pY, .ref pU, .ref pV, .ref pM, .ref pS, .ref pK, .ref pW, .ref pD, .ref pC, .int (nI n), .int (nI nb), .int (nI nr), .ref pBI, .ref pBJ, .ref pRI, .ref pRJ, .ref pBK, .ref pBL, .ref pRL, .ref pLX, .ref pLY, .int isT, .ref pOX, .ref pOY, .ref pOU, .ref pOV, .ref pNX, .ref pNY, .ref pFX, .ref pFY, .ref pBN, .int stn, .int tm, .int rd, .int tk, .int ov1, .int st1, .int bl1, .int thw, .int cg, .double (pb_near side (FP.dsub x2 x1)), .double (FP.dsub y2 y1), .double qr]))] H := hP
  have hD : va_D A [(pm, .inr (9, [.double side, .double cut, .double skin, .double heat, .ref pX, .ref pY, .ref pU, .ref pV, .ref pM, .ref pS, .ref pK, .ref pW, .ref pD, .ref pC, .int (nI n), .int (nI nb), .int (nI nr), .ref pBI, .ref pBJ, .ref pRI, .ref pRJ, .ref pBK, .ref pBL, .ref pRL, .ref pLX, .ref pLY, .int isT, .ref pOX, .ref pOY, .ref pOU, .ref pOV, .ref pNX, .ref pNY, .ref pFX, .ref pFY, .ref pBN, .int stn, .int tm, .int rd, .int tk, .int ov1, .int st1, .int bl1, .int thw, .int cg, .double (pb_near side (FP.dsub x2 x1)), .double (FP.dsub y2 y1), .double qr]))] := hD
  obtain rfl : r_6 = pb_near side (FP.dsub y2 y1) := hw34
  have g_8 := pb_near_I hs (g_5.w (by decide +kernel) (by decide +kernel))
  refine va_put (D := (dC, dI)) (ci := 9) (v := .double (pb_near side (FP.dsub y2 y1))) (ty := .double) (C := R_Model) (T := F_Model) (N := 48) hx hb hts (fun w h => List.mem_cons_of_mem _ (i_Model w h)) t_Model t_Model_ok n_Model hown hK hP hD hS 0 rfl rfl 46 (by decide) (hts _ (List.mem_cons_of_mem _ kw_887)) (fun _ h9 => h9) rfl (by decide +kernel) rfl rfl (Nat.le_of_ble_eq_true rfl) d_Model_way_37 (fun H locs hP hD hS => ?_)
  have hP : va_P (dC, dI) classes [(pm, .inr (9, [.double side, .double cut, .double skin, .double heat, .ref pX, .ref pY, .ref pU, .ref pV, .ref pM, .ref pS, .ref pK, .ref pW, .ref pD, .ref pC, .int (nI n), .int (nI nb), .int (nI nr), .ref pBI, .ref pBJ, .ref pRI, .ref pRJ, .ref pBK, .ref pBL, .ref pRL, .ref pLX, .ref pLY, .int isT, .ref pOX, .ref pOY, .ref pOU, .ref pOV, .ref pNX, .ref pNY, .ref pFX, .ref pFY, .ref pBN, .int stn, .int tm, .int rd, .int tk, .int ov1, .int st1, .int bl1, .int thw, .int cg, .double (pb_near side (FP.dsub x2 x1)), .double (pb_near side (FP.dsub y2 y1)), .double qr]))] H := hP
  have hD : va_D A [(pm, .inr (9, [.double side, .double cut, .double skin, .double heat, .ref pX, .ref pY, .ref pU, .ref pV, .ref pM, .ref pS, .ref pK, .ref pW, .ref pD, .ref pC, .int (nI n), .int (nI nb), .int (nI nr), .ref pBI, .ref pBJ, .ref pRI, .ref pRJ, .ref pBK, .ref pBL, .ref pRL, .ref pLX, .ref pLY, .int isT, .ref pOX, .ref pOY, .ref pOU, .ref pOV, .ref pNX, .ref pNY, .ref pFX, .ref pFY, .ref pBN, .int stn, .int tm, .int rd, .int tk, .int ov1, .int st1, .int bl1, .int thw, .int cg, .double (pb_near side (FP.dsub x2 x1)), .double (pb_near side (FP.dsub y2 y1)), .double qr]))] := hD
  refine lv_aload_n hx hb d_Model_way_40 rfl (lv_at hl 0 rfl) ?_
  refine lv_aload_n hx hb d_Model_way_41 rfl (lv_at hl 0 rfl) ?_
  refine va_get (D := (dC, dI)) (ci := 9) (v := .double (pb_near side (FP.dsub x2 x1))) (C := R_Model) (T := F_Model) (N := 48) hx hb hts (fun w h => List.mem_cons_of_mem _ (i_Model w h)) hown hK hP 0 rfl rfl 45 (by decide) (hts _ (List.mem_cons_of_mem _ kw_886)) (fun _ h9 => h9) rfl d_Model_way_42 ?_
  refine lv_aload_n hx hb d_Model_way_45 rfl (lv_at hl 0 rfl) ?_
  refine va_get (D := (dC, dI)) (ci := 9) (v := .double (pb_near side (FP.dsub x2 x1))) (C := R_Model) (T := F_Model) (N := 48) hx hb hts (fun w h => List.mem_cons_of_mem _ (i_Model w h)) hown hK hP 0 rfl rfl 45 (by decide) (hts _ (List.mem_cons_of_mem _ kw_886)) (fun _ h9 => h9) rfl d_Model_way_46 ?_
  have g_9 := fp_I_sq (fp_d 289 1074) g_4 (by decide +kernel)
  refine lv_dmul hx hb d_Model_way_49 g_9.n ?_
  refine lv_aload_n hx hb d_Model_way_50 rfl (lv_at hl 0 rfl) ?_
  refine va_get (D := (dC, dI)) (ci := 9) (v := .double (pb_near side (FP.dsub y2 y1))) (C := R_Model) (T := F_Model) (N := 48) hx hb hts (fun w h => List.mem_cons_of_mem _ (i_Model w h)) hown hK hP 0 rfl rfl 46 (by decide) (hts _ (List.mem_cons_of_mem _ kw_887)) (fun _ h9 => h9) rfl d_Model_way_51 ?_
  refine lv_aload_n hx hb d_Model_way_54 rfl (lv_at hl 0 rfl) ?_
  refine va_get (D := (dC, dI)) (ci := 9) (v := .double (pb_near side (FP.dsub y2 y1))) (C := R_Model) (T := F_Model) (N := 48) hx hb hts (fun w h => List.mem_cons_of_mem _ (i_Model w h)) hown hK hP 0 rfl rfl 46 (by decide) (hts _ (List.mem_cons_of_mem _ kw_887)) (fun _ h9 => h9) rfl d_Model_way_55 ?_
  have g_10 := fp_I_sq (fp_d 289 1074) g_8 (by decide +kernel)
  refine lv_dmul hx hb d_Model_way_58 g_10.n ?_
  have g_11 := fp_I_add (fp_d 0 0) (fp_d 289 1075) g_9 g_10 (by decide +kernel)
  refine lv_dadd hx hb d_Model_way_59 g_11.n ?_
  refine va_put (D := (dC, dI)) (ci := 9) (v := .double (FP.dadd (FP.dmul (pb_near side (FP.dsub x2 x1)) (pb_near side (FP.dsub x2 x1))) (FP.dmul (pb_near side (FP.dsub y2 y1)) (pb_near side (FP.dsub y2 y1))))) (ty := .double) (C := R_Model) (T := F_Model) (N := 48) hx hb hts (fun w h => List.mem_cons_of_mem _ (i_Model w h)) t_Model t_Model_ok n_Model hown hK hP hD hS 0 rfl rfl 47 (by decide) (hts _ (List.mem_cons_of_mem _ kw_888)) (fun _ h9 => h9) rfl (by decide +kernel) rfl rfl (Nat.le_of_ble_eq_true rfl) d_Model_way_60 (fun H locs hP hD hS => ?_)
  have hP : va_P (dC, dI) classes [(pm, .inr (9, [.double side, .double cut, .double skin, .double heat, .ref pX, .ref pY, .ref pU, .ref pV, .ref pM, .ref pS, .ref pK, .ref pW, .ref pD, .ref pC, .int (nI n), .int (nI nb), .int (nI nr), .ref pBI, .ref pBJ, .ref pRI, .ref pRJ, .ref pBK, .ref pBL, .ref pRL, .ref pLX, .ref pLY, .int isT, .ref pOX, .ref pOY, .ref pOU, .ref pOV, .ref pNX, .ref pNY, .ref pFX, .ref pFY, .ref pBN, .int stn, .int tm, .int rd, .int tk, .int ov1, .int st1, .int bl1, .int thw, .int cg, .double (pb_near side (FP.dsub x2 x1)), .double (pb_near side (FP.dsub y2 y1)), .double (FP.dadd (FP.dmul (pb_near side (FP.dsub x2 x1)) (pb_near side (FP.dsub x2 x1))) (FP.dmul (pb_near side (FP.dsub y2 y1)) (pb_near side (FP.dsub y2 y1))))]))] H := hP
  have hD : va_D A [(pm, .inr (9, [.double side, .double cut, .double skin, .double heat, .ref pX, .ref pY, .ref pU, .ref pV, .ref pM, .ref pS, .ref pK, .ref pW, .ref pD, .ref pC, .int (nI n), .int (nI nb), .int (nI nr), .ref pBI, .ref pBJ, .ref pRI, .ref pRJ, .ref pBK, .ref pBL, .ref pRL, .ref pLX, .ref pLY, .int isT, .ref pOX, .ref pOY, .ref pOU, .ref pOV, .ref pNX, .ref pNY, .ref pFX, .ref pFY, .ref pBN, .int stn, .int tm, .int rd, .int tk, .int ov1, .int st1, .int bl1, .int thw, .int cg, .double (pb_near side (FP.dsub x2 x1)), .double (pb_near side (FP.dsub y2 y1)), .double (FP.dadd (FP.dmul (pb_near side (FP.dsub x2 x1)) (pb_near side (FP.dsub x2 x1))) (FP.dmul (pb_near side (FP.dsub y2 y1)) (pb_near side (FP.dsub y2 y1))))]))] := hD
  have hP9 := hP.sub (ws' := [(pm, .inr (9, [.double side, .double cut, .double skin, .double heat, .ref pX, .ref pY, .ref pU, .ref pV, .ref pM, .ref pS, .ref pK, .ref pW, .ref pD, .ref pC, .int (nI n), .int (nI nb), .int (nI nr), .ref pBI, .ref pBJ, .ref pRI, .ref pRJ, .ref pBK, .ref pBL, .ref pRL, .ref pLX, .ref pLY, .int isT, .ref pOX, .ref pOY, .ref pOU, .ref pOV, .ref pNX, .ref pNY, .ref pFX, .ref pFY, .ref pBN, .int stn, .int tm, .int rd, .int tk, .int ov1, .int st1, .int bl1, .int thw, .int cg, .double (pb_near side (FP.dsub x2 x1)), .double (pb_near side (FP.dsub y2 y1)), .double (pb_r2 side x1 y1 x2 y2)]))]) [0] rfl
  have hD9 := hD.sub (ws' := [(pm, .inr (9, [.double side, .double cut, .double skin, .double heat, .ref pX, .ref pY, .ref pU, .ref pV, .ref pM, .ref pS, .ref pK, .ref pW, .ref pD, .ref pC, .int (nI n), .int (nI nb), .int (nI nr), .ref pBI, .ref pBJ, .ref pRI, .ref pRJ, .ref pBK, .ref pBL, .ref pRL, .ref pLX, .ref pLY, .int isT, .ref pOX, .ref pOY, .ref pOU, .ref pOV, .ref pNX, .ref pNY, .ref pFX, .ref pFY, .ref pBN, .int stn, .int tm, .int rd, .int tk, .int ov1, .int st1, .int bl1, .int thw, .int cg, .double (pb_near side (FP.dsub x2 x1)), .double (pb_near side (FP.dsub y2 y1)), .double (pb_r2 side x1 y1 x2 y2)]))]) [0] (by decide) rfl
  exact W.vret hx hb hr (fun tt9 ht9 hW9 => ⟨⟨(), rfl, trivial, by rw [ht9]; exact hP9, va_K.moved hW9.alike hK, hD9⟩, hS.F ht9⟩) hS.2.2 d_Model_way_63
set_option maxHeartbeats 4000000 in
set_option maxRecDepth 100000 in
/-- FROM i TO j -/
theorem c_Model_between (l : Launch) (dC : Nat → ClassId) (dI : Nat → Nat → Nat) (cI cD cZ : ClassId) (sz : Nat) (pm : Nat) (pX : Nat) (pY : Nat) (pU : Nat) (pV : Nat) (pM : Nat) (pS : Nat) (pK : Nat) (pW : Nat) (pD : Nat) (pC : Nat) (pBI : Nat) (pBJ : Nat) (pRI : Nat) (pRJ : Nat) (pBK : Nat) (pBL : Nat) (pRL : Nat) (pLX : Nat) (pLY : Nat) (pOX : Nat) (pOY : Nat) (pOU : Nat) (pOV : Nat) (pNX : Nat) (pNY : Nat) (pFX : Nat) (pFY : Nat) (pBN : Nat) (side : UInt64) (cut : UInt64) (skin : UInt64) (heat : UInt64) (n : Nat) (nb : Nat) (nr : Nat) (isT : Int32) (stn : Int32) (tm : Int32) (rd : Int32) (tk : Int32) (ov1 : Int32) (st1 : Int32) (bl1 : Int32) (thw : Int32) (cg : Int32) (qa : UInt64) (qb : UInt64) (qr : UInt64) (x : Nat → UInt64) (y : Nat → UInt64) (i : Nat) (j : Nat) (k : Int) (hs : pb_S side k) (hn : n ≤ 10) (hi : i < n) (hj : j < n) (hX : ∀ i, i < n → pb_Ip (x i)) (hY : ∀ i, i < n → pb_Ip (y i)) : Met l y_Model_between w_Model_between ({ frames := 3, cells := 0, slots := 0, locals := 73 }) (va_Pc [.ref pm, .int (nI i), .int (nI j)] (gx_B (dC, dI) classes (gx_T cI cD cZ) [(pm, .inr (9, [.double side, .double cut, .double skin, .double heat, .ref pX, .ref pY, .ref pU, .ref pV, .ref pM, .ref pS, .ref pK, .ref pW, .ref pD, .ref pC, .int (nI n), .int (nI nb), .int (nI nr), .ref pBI, .ref pBJ, .ref pRI, .ref pRJ, .ref pBK, .ref pBL, .ref pRL, .ref pLX, .ref pLY, .int isT, .ref pOX, .ref pOY, .ref pOU, .ref pOV, .ref pNX, .ref pNY, .ref pFX, .ref pFY, .ref pBN, .int stn, .int tm, .int rd, .int tk, .int ov1, .int st1, .int bl1, .int thw, .int cg, .double qa, .double qb, .double qr])), (pX, .inl (cD, 10, .inr (.inr (.inr (.inl x))))), (pY, .inl (cD, 10, .inr (.inr (.inr (.inl y)))))] sz)) (va_Qv (fun (uu : Unit) => True) (fun (uu : Unit) t => gx_E (dC, dI) classes (gx_T cI cD cZ) (va_A [(pm, .inr (9, [.double side, .double cut, .double skin, .double heat, .ref pX, .ref pY, .ref pU, .ref pV, .ref pM, .ref pS, .ref pK, .ref pW, .ref pD, .ref pC, .int (nI n), .int (nI nb), .int (nI nr), .ref pBI, .ref pBJ, .ref pRI, .ref pRJ, .ref pBK, .ref pBL, .ref pRL, .ref pLX, .ref pLY, .int isT, .ref pOX, .ref pOY, .ref pOU, .ref pOV, .ref pNX, .ref pNY, .ref pFX, .ref pFY, .ref pBN, .int stn, .int tm, .int rd, .int tk, .int ov1, .int st1, .int bl1, .int thw, .int cg, .double qa, .double qb, .double qr])), (pX, .inl (cD, 10, .inr (.inr (.inr (.inl x))))), (pY, .inl (cD, 10, .inr (.inr (.inr (.inl y)))))] sz) [(pm, .inr (9, [.double side, .double cut, .double skin, .double heat, .ref pX, .ref pY, .ref pU, .ref pV, .ref pM, .ref pS, .ref pK, .ref pW, .ref pD, .ref pC, .int (nI n), .int (nI nb), .int (nI nr), .ref pBI, .ref pBJ, .ref pRI, .ref pRJ, .ref pBK, .ref pBL, .ref pRL, .ref pLX, .ref pLY, .int isT, .ref pOX, .ref pOY, .ref pOU, .ref pOV, .ref pNX, .ref pNY, .ref pFX, .ref pFY, .ref pBN, .int stn, .int tm, .int rd, .int tk, .int ov1, .int st1, .int bl1, .int thw, .int cg, .double (pb_near side (FP.dsub (x j) (x i))), .double (pb_near side (FP.dsub (y j) (y i))), .double (pb_rij side x y i j)])), (pX, .inl (cD, 10, .inr (.inr (.inr (.inl x))))), (pY, .inl (cD, 10, .inr (.inr (.inr (.inl y)))))] t) (va_A [(pm, .inr (9, [.double side, .double cut, .double skin, .double heat, .ref pX, .ref pY, .ref pU, .ref pV, .ref pM, .ref pS, .ref pK, .ref pW, .ref pD, .ref pC, .int (nI n), .int (nI nb), .int (nI nr), .ref pBI, .ref pBJ, .ref pRI, .ref pRJ, .ref pBK, .ref pBL, .ref pRL, .ref pLX, .ref pLY, .int isT, .ref pOX, .ref pOY, .ref pOU, .ref pOV, .ref pNX, .ref pNY, .ref pFX, .ref pFY, .ref pBN, .int stn, .int tm, .int rd, .int tk, .int ov1, .int st1, .int bl1, .int thw, .int cg, .double qa, .double qb, .double qr])), (pX, .inl (cD, 10, .inr (.inr (.inr (.inl x))))), (pY, .inl (cD, 10, .inr (.inr (.inr (.inl y)))))] sz)) 0 0 (va_A [(pm, .inr (9, [.double side, .double cut, .double skin, .double heat, .ref pX, .ref pY, .ref pU, .ref pV, .ref pM, .ref pS, .ref pK, .ref pW, .ref pD, .ref pC, .int (nI n), .int (nI nb), .int (nI nr), .ref pBI, .ref pBJ, .ref pRI, .ref pRJ, .ref pBK, .ref pBL, .ref pRL, .ref pLX, .ref pLY, .int isT, .ref pOX, .ref pOY, .ref pOU, .ref pOV, .ref pNX, .ref pNY, .ref pFX, .ref pFY, .ref pBN, .int stn, .int tm, .int rd, .int tk, .int ov1, .int st1, .int bl1, .int thw, .int cg, .double qa, .double qb, .double qr])), (pX, .inl (cD, 10, .inr (.inr (.inr (.inl x))))), (pY, .inl (cD, 10, .inr (.inr (.inr (.inl y)))))] sz) := by
  refine Met.ofW (cc := b_Model_between) (maxL := 3) (ret := none) (by decide) rfl ?_
  intro p e s m args below meth c s₁ B hml hv
  obtain ⟨rfl, hsz, hP, hK, hD0, hN⟩ := hv
  have hx := B.exec
  have hb := B.bytes
  have hr := B.returns
  have hts := atoms_spec (ws := w_Model_between) B.pre
  have hown : s.vm.findClass R_Model = some m.cls := findClass_of_methodNamed B.named
  have hlocks := B.notSynchronized
  subst hsz
  have hD := hD0.self (sz := s.heap.size)
  generalize hAe : va_A [(pm, .inr (9, [.double side, .double cut, .double skin, .double heat, .ref pX, .ref pY, .ref pU, .ref pV, .ref pM, .ref pS, .ref pK, .ref pW, .ref pD, .ref pC, .int (nI n), .int (nI nb), .int (nI nr), .ref pBI, .ref pBJ, .ref pRI, .ref pRJ, .ref pBK, .ref pBL, .ref pRL, .ref pLX, .ref pLY, .int isT, .ref pOX, .ref pOY, .ref pOU, .ref pOV, .ref pNX, .ref pNY, .ref pFX, .ref pFY, .ref pBN, .int stn, .int tm, .int rd, .int tk, .int ov1, .int st1, .int bl1, .int thw, .int cg, .double qa, .double qb, .double qr])), (pX, .inl (cD, 10, .inr (.inr (.inr (.inl x))))), (pY, .inl (cD, 10, .inr (.inr (.inr (.inl y)))))] s.heap.size = A at hD ⊢
  have hA : ∀ q : Nat, s.heap.size ≤ q → A q := fun q h => by rw [← hAe]; exact Or.inr h
  have hS : va_S A s.heap s.heap [] := va_S.rf
  have hl := lv_entry ([.ref pm, .int (nI i), .int (nI j)]) (n := 3) (Nat.le_of_ble_eq_true rfl)
  rw [lg_entry_eq]
  generalize (lg_sl ([.ref pm, .int (nI i), .int (nI j)]) ++ List.replicate (3 - (lg_sl ([.ref pm, .int (nI i), .int (nI j)])).length) Slot.unset).toArray = ls at hl ⊢
  have hl : lv_has ls 3 [(0, .ref pm), (1, .int (nI i)), (2, .int (nI j))] := hl
  obtain ⟨H, hH⟩ : ∃ H, H = s.heap := ⟨_, rfl⟩
  rw [← hH] at hP
  have hS : va_S A s.heap H [] := by rw [hH]; exact hS
  refine gx_start hH ?_
  refine lv_aload_n hx hb d_Model_between_0 rfl (lv_at hl 0 rfl) ?_
  refine lv_aload_n hx hb d_Model_between_1 rfl (lv_at hl 0 rfl) ?_
  refine va_get (D := (dC, dI)) (ci := 9) (v := .ref pX) (C := R_Model) (T := F_Model) (N := 48) hx hb hts (fun w h => List.mem_cons_of_mem _ (i_Model w h)) hown hK hP 0 rfl rfl 4 (by decide) (hts _ (List.mem_cons_of_mem _ kw_845)) (fun _ h9 => h9) rfl d_Model_between_2 ?_
  refine lv_iload_n hx hb d_Model_between_5 rfl (lv_at hl 1 rfl) ?_
  refine gx_dald hx hb hK hP 1 1 rfl rfl (by omega) (by decide) d_Model_between_6 ?_
  have g_1 := hX i (by omega)
  refine lv_aload_n hx hb d_Model_between_7 rfl (lv_at hl 0 rfl) ?_
  refine va_get (D := (dC, dI)) (ci := 9) (v := .ref pY) (C := R_Model) (T := F_Model) (N := 48) hx hb hts (fun w h => List.mem_cons_of_mem _ (i_Model w h)) hown hK hP 0 rfl rfl 5 (by decide) (hts _ (List.mem_cons_of_mem _ kw_846)) (fun _ h9 => h9) rfl d_Model_between_8 ?_
  refine lv_iload_n hx hb d_Model_between_11 rfl (lv_at hl 1 rfl) ?_
  refine gx_dald hx hb hK hP 2 1 rfl rfl (by omega) (by decide) d_Model_between_12 ?_
  have g_2 := hY i (by omega)
  refine lv_aload_n hx hb d_Model_between_13 rfl (lv_at hl 0 rfl) ?_
  refine va_get (D := (dC, dI)) (ci := 9) (v := .ref pX) (C := R_Model) (T := F_Model) (N := 48) hx hb hts (fun w h => List.mem_cons_of_mem _ (i_Model w h)) hown hK hP 0 rfl rfl 4 (by decide) (hts _ (List.mem_cons_of_mem _ kw_845)) (fun _ h9 => h9) rfl d_Model_between_14 ?_
  refine lv_iload_n hx hb d_Model_between_17 rfl (lv_at hl 2 rfl) ?_
  refine gx_dald hx hb hK hP 1 1 rfl rfl (by omega) (by decide) d_Model_between_18 ?_
  have g_3 := hX j (by omega)
  refine lv_aload_n hx hb d_Model_between_19 rfl (lv_at hl 0 rfl) ?_
  refine va_get (D := (dC, dI)) (ci := 9) (v := .ref pY) (C := R_Model) (T := F_Model) (N := 48) hx hb hts (fun w h => List.mem_cons_of_mem _ (i_Model w h)) hown hK hP 0 rfl rfl 5 (by decide) (hts _ (List.mem_cons_of_mem _ kw_846)) (fun _ h9 => h9) rfl d_Model_between_20 ?_
  refine lv_iload_n hx hb d_Model_between_23 rfl (lv_at hl 2 rfl) ?_
  refine gx_dald hx hb hK hP 2 1 rfl rfl (by omega) (by decide) d_Model_between_24 ?_
  have g_4 := hY j (by omega)
  refine gx_Vv (st0 := [.double (y j), .double (x j), .double (y i), .double (x i), .ref pm]) (As := [.double (x i), .double (y i), .double (x j), .double (y j)]) (rest := []) (wr := [(pX, .inl (cD, 10, .inr (.inr (.inr (.inl x))))), (pY, .inl (cD, 10, .inr (.inr (.inr (.inl y)))))]) ⟨hx, hb, hml, hown, hts⟩ hN hK hP hD hS hA [0] [1, 2] rfl rfl (by decide) (c_Model_way l dC dI cI cD cZ H.size pm pX pY pU pV pM pS pK pW pD pC pBI pBJ pRI pRJ pBK pBL pRL pLX pLY pOX pOY pOU pOV pNX pNY pFX pFY pBN side cut skin heat n nb nr isT stn tm rd tk ov1 st1 bl1 thw cg qa qb qr (x i) (y i) (x j) (y j) k hs (g_1.w (by decide +kernel) (by decide +kernel)) (g_2.w (by decide +kernel) (by decide +kernel)) (g_3.w (by decide +kernel) (by decide +kernel)) (g_4.w (by decide +kernel) (by decide +kernel))) (cwV 4 hts (gx_gV kw_1068 kw_1070 kw_27 kw_54 kw_1071) rfl rfl rfl (by decide +kernel) ⟨Nat.le_of_ble_eq_true rfl, Nat.le_of_ble_eq_true rfl⟩) 0 9 rfl rfl rfl hl.1 rfl (Nat.le_of_ble_eq_true rfl) d_Model_between_25 ⟨Nat.le_of_ble_eq_true rfl, Nat.le_of_ble_eq_true rfl⟩ (fun  u_5 H locs hw25 hP hD hS => ?_)
  try dsimp only at hw25 hP hD
  have hP : va_P (dC, dI) classes [(pX, .inl (cD, 10, .inr (.inr (.inr (.inl x))))), (pY, .inl (cD, 10, .inr (.inr (.inr (.inl y))))), (pm, .inr (9, [.double side, .double cut, .double skin, .double heat, .ref pX, .ref pY, .ref pU, .ref pV, .ref pM, .ref pS, .ref pK, .ref pW, .ref pD, .ref pC, .int (nI n), .int (nI nb), .int (nI nr), .ref pBI, .ref pBJ, .ref pRI, .ref pRJ, .ref pBK, .ref pBL, .ref pRL, .ref pLX, .ref pLY, .int isT, .ref pOX, .ref pOY, .ref pOU, .ref pOV, .ref pNX, .ref pNY, .ref pFX, .ref pFY, .ref pBN, .int stn, .int tm, .int rd, .int tk, .int ov1, .int st1, .int bl1, .int thw, .int cg, .double (pb_near side (FP.dsub (x j) (x i))), .double (pb_near side (FP.dsub (y j) (y i))), .double (pb_r2 side (x i) (y i) (x j) (y j))]))] H := hP
  have hD : va_D A [(pX, .inl (cD, 10, .inr (.inr (.inr (.inl x))))), (pY, .inl (cD, 10, .inr (.inr (.inr (.inl y))))), (pm, .inr (9, [.double side, .double cut, .double skin, .double heat, .ref pX, .ref pY, .ref pU, .ref pV, .ref pM, .ref pS, .ref pK, .ref pW, .ref pD, .ref pC, .int (nI n), .int (nI nb), .int (nI nr), .ref pBI, .ref pBJ, .ref pRI, .ref pRJ, .ref pBK, .ref pBL, .ref pRL, .ref pLX, .ref pLY, .int isT, .ref pOX, .ref pOY, .ref pOU, .ref pOV, .ref pNX, .ref pNY, .ref pFX, .ref pFY, .ref pBN, .int stn, .int tm, .int rd, .int tk, .int ov1, .int st1, .int bl1, .int thw, .int cg, .double (pb_near side (FP.dsub (x j) (x i))), .double (pb_near side (FP.dsub (y j) (y i))), .double (pb_r2 side (x i) (y i) (x j) (y j))]))] := hD
  have hP9 := hP.sub (ws' := [(pm, .inr (9, [.double side, .double cut, .double skin, .double heat, .ref pX, .ref pY, .ref pU, .ref pV, .ref pM, .ref pS, .ref pK, .ref pW, .ref pD, .ref pC, .int (nI n), .int (nI nb), .int (nI nr), .ref pBI, .ref pBJ, .ref pRI, .ref pRJ, .ref pBK, .ref pBL, .ref pRL, .ref pLX, .ref pLY, .int isT, .ref pOX, .ref pOY, .ref pOU, .ref pOV, .ref pNX, .ref pNY, .ref pFX, .ref pFY, .ref pBN, .int stn, .int tm, .int rd, .int tk, .int ov1, .int st1, .int bl1, .int thw, .int cg, .double (pb_near side (FP.dsub (x j) (x i))), .double (pb_near side (FP.dsub (y j) (y i))), .double (pb_rij side x y i j)])), (pX, .inl (cD, 10, .inr (.inr (.inr (.inl x))))), (pY, .inl (cD, 10, .inr (.inr (.inr (.inl y)))))]) [2, 0, 1] rfl
  have hD9 := hD.sub (ws' := [(pm, .inr (9, [.double side, .double cut, .double skin, .double heat, .ref pX, .ref pY, .ref pU, .ref pV, .ref pM, .ref pS, .ref pK, .ref pW, .ref pD, .ref pC, .int (nI n), .int (nI nb), .int (nI nr), .ref pBI, .ref pBJ, .ref pRI, .ref pRJ, .ref pBK, .ref pBL, .ref pRL, .ref pLX, .ref pLY, .int isT, .ref pOX, .ref pOY, .ref pOU, .ref pOV, .ref pNX, .ref pNY, .ref pFX, .ref pFY, .ref pBN, .int stn, .int tm, .int rd, .int tk, .int ov1, .int st1, .int bl1, .int thw, .int cg, .double (pb_near side (FP.dsub (x j) (x i))), .double (pb_near side (FP.dsub (y j) (y i))), .double (pb_rij side x y i j)])), (pX, .inl (cD, 10, .inr (.inr (.inr (.inl x))))), (pY, .inl (cD, 10, .inr (.inr (.inr (.inl y)))))]) [2, 0, 1] (by decide) rfl
  exact W.vret hx hb hr (fun tt9 ht9 hW9 => ⟨⟨(), rfl, trivial, by rw [ht9]; exact hP9, va_K.moved hW9.alike hK, hD9⟩, hS.F ht9⟩) hS.2.2 d_Model_between_28
