theorem d_Model_overlap_0 : decode b_Model_overlap 0 = .ok (.iconst 0, 1) := by decide +kernel
theorem d_Model_overlap_1 : decode b_Model_overlap 1 = .ok (.istore_n 1, 1) := by decide +kernel
theorem d_Model_overlap_2 : decode b_Model_overlap 2 = .ok (.iload_n 1, 1) := by decide +kernel
theorem d_Model_overlap_3 : decode b_Model_overlap 3 = .ok (.aload_n 0, 1) := by decide +kernel
theorem d_Model_overlap_4 : decode b_Model_overlap 4 = .ok (.getfield 119, 3) := by decide +kernel
theorem d_Model_overlap_7 : decode b_Model_overlap 7 = .ok (.if_icmp .ge 46, 3) := by decide +kernel
theorem d_Model_overlap_10 : decode b_Model_overlap 10 = .ok (.iload_n 1, 1) := by decide +kernel
theorem d_Model_overlap_11 : decode b_Model_overlap 11 = .ok (.iconst 1, 1) := by decide +kernel
theorem d_Model_overlap_12 : decode b_Model_overlap 12 = .ok (.iadd, 1) := by decide +kernel
theorem d_Model_overlap_13 : decode b_Model_overlap 13 = .ok (.istore_n 2, 1) := by decide +kernel
theorem d_Model_overlap_14 : decode b_Model_overlap 14 = .ok (.iload_n 2, 1) := by decide +kernel
theorem d_Model_overlap_15 : decode b_Model_overlap 15 = .ok (.aload_n 0, 1) := by decide +kernel
theorem d_Model_overlap_16 : decode b_Model_overlap 16 = .ok (.getfield 119, 3) := by decide +kernel
theorem d_Model_overlap_19 : decode b_Model_overlap 19 = .ok (.if_icmp .ge 28, 3) := by decide +kernel
theorem d_Model_overlap_22 : decode b_Model_overlap 22 = .ok (.aload_n 0, 1) := by decide +kernel
theorem d_Model_overlap_23 : decode b_Model_overlap 23 = .ok (.iload_n 1, 1) := by decide +kernel
theorem d_Model_overlap_24 : decode b_Model_overlap 24 = .ok (.iload_n 2, 1) := by decide +kernel
theorem d_Model_overlap_25 : decode b_Model_overlap 25 = .ok (.invokevirtual 181, 3) := by decide +kernel
theorem d_Model_overlap_28 : decode b_Model_overlap 28 = .ok (.aload_n 0, 1) := by decide +kernel
theorem d_Model_overlap_29 : decode b_Model_overlap 29 = .ok (.getfield 135, 3) := by decide +kernel
theorem d_Model_overlap_32 : decode b_Model_overlap 32 = .ok (.ldc2_w 185, 3) := by decide +kernel
theorem d_Model_overlap_35 : decode b_Model_overlap 35 = .ok (.dcmp .g, 1) := by decide +kernel
theorem d_Model_overlap_36 : decode b_Model_overlap 36 = .ok (.ifCond .ge 5, 3) := by decide +kernel
theorem d_Model_overlap_39 : decode b_Model_overlap 39 = .ok (.iconst 1, 1) := by decide +kernel
theorem d_Model_overlap_40 : decode b_Model_overlap 40 = .ok (.ireturn, 1) := by decide +kernel
theorem d_Model_overlap_41 : decode b_Model_overlap 41 = .ok (.iinc 2 1, 3) := by decide +kernel
theorem d_Model_overlap_44 : decode b_Model_overlap 44 = .ok (.goto (-30), 3) := by decide +kernel
theorem d_Model_overlap_47 : decode b_Model_overlap 47 = .ok (.iinc 1 1, 3) := by decide +kernel
theorem d_Model_overlap_50 : decode b_Model_overlap 50 = .ok (.goto (-48), 3) := by decide +kernel
theorem d_Model_overlap_53 : decode b_Model_overlap 53 = .ok (.iconst 0, 1) := by decide +kernel
theorem d_Model_overlap_54 : decode b_Model_overlap 54 = .ok (.ireturn, 1) := by decide +kernel
theorem d_Model_isPair_0 : decode b_Model_isPair 0 = .ok (.aload_n 0, 1) := by decide +kernel
theorem d_Model_isPair_1 : decode b_Model_isPair 1 = .ok (.iload_n 1, 1) := by decide +kernel
theorem d_Model_isPair_2 : decode b_Model_isPair 2 = .ok (.iload_n 2, 1) := by decide +kernel
theorem d_Model_isPair_3 : decode b_Model_isPair 3 = .ok (.invokevirtual 181, 3) := by decide +kernel
theorem d_Model_isPair_6 : decode b_Model_isPair 6 = .ok (.aload_n 0, 1) := by decide +kernel
theorem d_Model_isPair_7 : decode b_Model_isPair 7 = .ok (.getfield 135, 3) := by decide +kernel
theorem d_Model_isPair_10 : decode b_Model_isPair 10 = .ok (.aload_n 0, 1) := by decide +kernel
theorem d_Model_isPair_11 : decode b_Model_isPair 11 = .ok (.getfield 112, 3) := by decide +kernel
theorem d_Model_isPair_14 : decode b_Model_isPair 14 = .ok (.aload_n 0, 1) := by decide +kernel
theorem d_Model_isPair_15 : decode b_Model_isPair 15 = .ok (.getfield 112, 3) := by decide +kernel
theorem d_Model_isPair_18 : decode b_Model_isPair 18 = .ok (.dmul, 1) := by decide +kernel
theorem d_Model_isPair_19 : decode b_Model_isPair 19 = .ok (.dcmp .g, 1) := by decide +kernel
theorem d_Model_isPair_20 : decode b_Model_isPair 20 = .ok (.ifCond .ge 7, 3) := by decide +kernel
theorem d_Model_isPair_23 : decode b_Model_isPair 23 = .ok (.iconst 1, 1) := by decide +kernel
theorem d_Model_isPair_24 : decode b_Model_isPair 24 = .ok (.goto 4, 3) := by decide +kernel
theorem d_Model_isPair_27 : decode b_Model_isPair 27 = .ok (.iconst 0, 1) := by decide +kernel
theorem d_Model_isPair_28 : decode b_Model_isPair 28 = .ok (.ireturn, 1) := by decide +kernel
theorem d_Model_deep_0 : decode b_Model_deep 0 = .ok (.aload_n 0, 1) := by decide +kernel
theorem d_Model_deep_1 : decode b_Model_deep 1 = .ok (.getfield 47, 3) := by decide +kernel
theorem d_Model_deep_4 : decode b_Model_deep 4 = .ok (.aload_n 0, 1) := by decide +kernel
theorem d_Model_deep_5 : decode b_Model_deep 5 = .ok (.getfield 36, 3) := by decide +kernel
theorem d_Model_deep_8 : decode b_Model_deep 8 = .ok (.iload_n 1, 1) := by decide +kernel
theorem d_Model_deep_9 : decode b_Model_deep 9 = .ok (.iaload, 1) := by decide +kernel
theorem d_Model_deep_10 : decode b_Model_deep 10 = .ok (.daload, 1) := by decide +kernel
theorem d_Model_deep_11 : decode b_Model_deep 11 = .ok (.aload_n 0, 1) := by decide +kernel
theorem d_Model_deep_12 : decode b_Model_deep 12 = .ok (.getfield 47, 3) := by decide +kernel
theorem d_Model_deep_15 : decode b_Model_deep 15 = .ok (.aload_n 0, 1) := by decide +kernel
theorem d_Model_deep_16 : decode b_Model_deep 16 = .ok (.getfield 36, 3) := by decide +kernel
theorem d_Model_deep_19 : decode b_Model_deep 19 = .ok (.iload_n 2, 1) := by decide +kernel
theorem d_Model_deep_20 : decode b_Model_deep 20 = .ok (.iaload, 1) := by decide +kernel
theorem d_Model_deep_21 : decode b_Model_deep 21 = .ok (.daload, 1) := by decide +kernel
theorem d_Model_deep_22 : decode b_Model_deep 22 = .ok (.dadd, 1) := by decide +kernel
theorem d_Model_deep_23 : decode b_Model_deep 23 = .ok (.ldc2_w 7, 3) := by decide +kernel
theorem d_Model_deep_26 : decode b_Model_deep 26 = .ok (.dmul, 1) := by decide +kernel
theorem d_Model_deep_27 : decode b_Model_deep 27 = .ok (.dreturn, 1) := by decide +kernel
theorem d_Model_sixth_0 : decode b_Model_sixth 0 = .ok (.aload_n 0, 1) := by decide +kernel
theorem d_Model_sixth_1 : decode b_Model_sixth 1 = .ok (.getfield 44, 3) := by decide +kernel
theorem d_Model_sixth_4 : decode b_Model_sixth 4 = .ok (.aload_n 0, 1) := by decide +kernel
theorem d_Model_sixth_5 : decode b_Model_sixth 5 = .ok (.getfield 36, 3) := by decide +kernel
theorem d_Model_sixth_8 : decode b_Model_sixth 8 = .ok (.iload_n 1, 1) := by decide +kernel
theorem d_Model_sixth_9 : decode b_Model_sixth 9 = .ok (.iaload, 1) := by decide +kernel
theorem d_Model_sixth_10 : decode b_Model_sixth 10 = .ok (.daload, 1) := by decide +kernel
theorem d_Model_sixth_11 : decode b_Model_sixth 11 = .ok (.aload_n 0, 1) := by decide +kernel
theorem d_Model_sixth_12 : decode b_Model_sixth 12 = .ok (.getfield 44, 3) := by decide +kernel
theorem d_Model_sixth_15 : decode b_Model_sixth 15 = .ok (.aload_n 0, 1) := by decide +kernel
theorem d_Model_sixth_16 : decode b_Model_sixth 16 = .ok (.getfield 36, 3) := by decide +kernel
theorem d_Model_sixth_19 : decode b_Model_sixth 19 = .ok (.iload_n 2, 1) := by decide +kernel
theorem d_Model_sixth_20 : decode b_Model_sixth 20 = .ok (.iaload, 1) := by decide +kernel
theorem d_Model_sixth_21 : decode b_Model_sixth 21 = .ok (.daload, 1) := by decide +kernel
theorem d_Model_sixth_22 : decode b_Model_sixth 22 = .ok (.dadd, 1) := by decide +kernel
theorem d_Model_sixth_23 : decode b_Model_sixth 23 = .ok (.ldc2_w 7, 3) := by decide +kernel
theorem d_Model_sixth_26 : decode b_Model_sixth 26 = .ok (.dmul, 1) := by decide +kernel
theorem d_Model_sixth_27 : decode b_Model_sixth 27 = .ok (.dstore_n 3, 1) := by decide +kernel
theorem d_Model_sixth_28 : decode b_Model_sixth 28 = .ok (.dload_n 3, 1) := by decide +kernel
theorem d_Model_sixth_29 : decode b_Model_sixth 29 = .ok (.dload_n 3, 1) := by decide +kernel
theorem d_Model_sixth_30 : decode b_Model_sixth 30 = .ok (.dmul, 1) := by decide +kernel
theorem d_Model_sixth_31 : decode b_Model_sixth 31 = .ok (.aload_n 0, 1) := by decide +kernel
theorem d_Model_sixth_32 : decode b_Model_sixth 32 = .ok (.getfield 135, 3) := by decide +kernel
theorem d_Model_sixth_35 : decode b_Model_sixth 35 = .ok (.ddiv, 1) := by decide +kernel
theorem d_Model_sixth_36 : decode b_Model_sixth 36 = .ok (.dstore 5, 2) := by decide +kernel
theorem d_Model_sixth_38 : decode b_Model_sixth 38 = .ok (.dload 5, 2) := by decide +kernel
theorem d_Model_sixth_40 : decode b_Model_sixth 40 = .ok (.dload 5, 2) := by decide +kernel
theorem d_Model_sixth_42 : decode b_Model_sixth 42 = .ok (.dmul, 1) := by decide +kernel
theorem d_Model_sixth_43 : decode b_Model_sixth 43 = .ok (.dload 5, 2) := by decide +kernel
theorem d_Model_sixth_45 : decode b_Model_sixth 45 = .ok (.dmul, 1) := by decide +kernel
theorem d_Model_sixth_46 : decode b_Model_sixth 46 = .ok (.dreturn, 1) := by decide +kernel
theorem d_Model_charges_0 : decode b_Model_charges 0 = .ok (.aload_n 0, 1) := by decide +kernel
theorem d_Model_charges_1 : decode b_Model_charges 1 = .ok (.getfield 50, 3) := by decide +kernel
theorem d_Model_charges_4 : decode b_Model_charges 4 = .ok (.aload_n 0, 1) := by decide +kernel
theorem d_Model_charges_5 : decode b_Model_charges 5 = .ok (.getfield 36, 3) := by decide +kernel
theorem d_Model_charges_8 : decode b_Model_charges 8 = .ok (.iload_n 1, 1) := by decide +kernel
theorem d_Model_charges_9 : decode b_Model_charges 9 = .ok (.iaload, 1) := by decide +kernel
theorem d_Model_charges_10 : decode b_Model_charges 10 = .ok (.daload, 1) := by decide +kernel
theorem d_Model_charges_11 : decode b_Model_charges 11 = .ok (.aload_n 0, 1) := by decide +kernel
theorem d_Model_charges_12 : decode b_Model_charges 12 = .ok (.getfield 50, 3) := by decide +kernel
theorem d_Model_charges_15 : decode b_Model_charges 15 = .ok (.aload_n 0, 1) := by decide +kernel
theorem d_Model_charges_16 : decode b_Model_charges 16 = .ok (.getfield 36, 3) := by decide +kernel
theorem d_Model_charges_19 : decode b_Model_charges 19 = .ok (.iload_n 2, 1) := by decide +kernel
theorem d_Model_charges_20 : decode b_Model_charges 20 = .ok (.iaload, 1) := by decide +kernel
theorem d_Model_charges_21 : decode b_Model_charges 21 = .ok (.daload, 1) := by decide +kernel
theorem d_Model_charges_22 : decode b_Model_charges 22 = .ok (.dmul, 1) := by decide +kernel
theorem d_Model_charges_23 : decode b_Model_charges 23 = .ok (.dreturn, 1) := by decide +kernel
set_option maxHeartbeats 4000000 in
set_option maxRecDepth 100000 in
/-- OVERLAP -/
theorem c_Model_overlap (l : Launch) (dC : Nat → ClassId) (dI : Nat → Nat → Nat) (cI cD cZ : ClassId) (sz : Nat) (pm : Nat) (pX : Nat) (pY : Nat) (pU : Nat) (pV : Nat) (pM : Nat) (pS : Nat) (pK : Nat) (pW : Nat) (pD : Nat) (pC : Nat) (pBI : Nat) (pBJ : Nat) (pRI : Nat) (pRJ : Nat) (pBK : Nat) (pBL : Nat) (pRL : Nat) (pLX : Nat) (pLY : Nat) (pOX : Nat) (pOY : Nat) (pOU : Nat) (pOV : Nat) (pNX : Nat) (pNY : Nat) (pFX : Nat) (pFY : Nat) (pBN : Nat) (side : UInt64) (cut : UInt64) (skin : UInt64) (heat : UInt64) (n : Nat) (nb : Nat) (nr : Nat) (isT : Int32) (stn : Int32) (tm : Int32) (rd : Int32) (tk : Int32) (ov1 : Int32) (st1 : Int32) (bl1 : Int32) (thw : Int32) (cg : Int32) (qa : UInt64) (qb : UInt64) (qr : UInt64) (x : Nat → UInt64) (y : Nat → UInt64) (k : Int) (hs : pb_S side k) (hn : n ≤ 10) (hX : ∀ i, i < n → pb_Ip (x i)) (hY : ∀ i, i < n → pb_Ip (y i)) : Met l y_Model_overlap w_Model_overlap ({ frames := 4, cells := 0, slots := 0, locals := 95 }) (va_Pc [.ref pm] (gx_B (dC, dI) classes (gx_T cI cD cZ) [(pm, .inr (9, [.double side, .double cut, .double skin, .double heat, .ref pX, .ref pY, .ref pU, .ref pV, .ref pM, .ref pS, .ref pK, .ref pW, .ref pD, .ref pC, .int (nI n), .int (nI nb), .int (nI nr), .ref pBI, .ref pBJ, .ref pRI, .ref pRJ, .ref pBK, .ref pBL, .ref pRL, .ref pLX, .ref pLY, .int isT, .ref pOX, .ref pOY, .ref pOU, .ref pOV, .ref pNX, .ref pNY, .ref pFX, .ref pFY, .ref pBN, .int stn, .int tm, .int rd, .int tk, .int ov1, .int st1, .int bl1, .int thw, .int cg, .double qa, .double qb, .double qr])), (pX, .inl (cD, 10, .inr (.inr (.inr (.inl x))))), (pY, .inl (cD, 10, .inr (.inr (.inr (.inl y)))))] sz)) (va_Qi (fun (rr : Int32) (uu : UInt64 × UInt64 × UInt64) => match uu with | (oqa, oqb, oqr) => rr = pb_b (pb_ovl side x y n)) (fun (uu : UInt64 × UInt64 × UInt64) t => gx_E (dC, dI) classes (gx_T cI cD cZ) (va_A [(pm, .inr (9, [.double side, .double cut, .double skin, .double heat, .ref pX, .ref pY, .ref pU, .ref pV, .ref pM, .ref pS, .ref pK, .ref pW, .ref pD, .ref pC, .int (nI n), .int (nI nb), .int (nI nr), .ref pBI, .ref pBJ, .ref pRI, .ref pRJ, .ref pBK, .ref pBL, .ref pRL, .ref pLX, .ref pLY, .int isT, .ref pOX, .ref pOY, .ref pOU, .ref pOV, .ref pNX, .ref pNY, .ref pFX, .ref pFY, .ref pBN, .int stn, .int tm, .int rd, .int tk, .int ov1, .int st1, .int bl1, .int thw, .int cg, .double qa, .double qb, .double qr])), (pX, .inl (cD, 10, .inr (.inr (.inr (.inl x))))), (pY, .inl (cD, 10, .inr (.inr (.inr (.inl y)))))] sz) (match uu with | (oqa, oqb, oqr) => [(pm, .inr (9, [.double side, .double cut, .double skin, .double heat, .ref pX, .ref pY, .ref pU, .ref pV, .ref pM, .ref pS, .ref pK, .ref pW, .ref pD, .ref pC, .int (nI n), .int (nI nb), .int (nI nr), .ref pBI, .ref pBJ, .ref pRI, .ref pRJ, .ref pBK, .ref pBL, .ref pRL, .ref pLX, .ref pLY, .int isT, .ref pOX, .ref pOY, .ref pOU, .ref pOV, .ref pNX, .ref pNY, .ref pFX, .ref pFY, .ref pBN, .int stn, .int tm, .int rd, .int tk, .int ov1, .int st1, .int bl1, .int thw, .int cg, .double oqa, .double oqb, .double oqr])), (pX, .inl (cD, 10, .inr (.inr (.inr (.inl x))))), (pY, .inl (cD, 10, .inr (.inr (.inr (.inl y)))))]) t) (va_A [(pm, .inr (9, [.double side, .double cut, .double skin, .double heat, .ref pX, .ref pY, .ref pU, .ref pV, .ref pM, .ref pS, .ref pK, .ref pW, .ref pD, .ref pC, .int (nI n), .int (nI nb), .int (nI nr), .ref pBI, .ref pBJ, .ref pRI, .ref pRJ, .ref pBK, .ref pBL, .ref pRL, .ref pLX, .ref pLY, .int isT, .ref pOX, .ref pOY, .ref pOU, .ref pOV, .ref pNX, .ref pNY, .ref pFX, .ref pFY, .ref pBN, .int stn, .int tm, .int rd, .int tk, .int ov1, .int st1, .int bl1, .int thw, .int cg, .double qa, .double qb, .double qr])), (pX, .inl (cD, 10, .inr (.inr (.inr (.inl x))))), (pY, .inl (cD, 10, .inr (.inr (.inr (.inl y)))))] sz)) 0 0 (va_A [(pm, .inr (9, [.double side, .double cut, .double skin, .double heat, .ref pX, .ref pY, .ref pU, .ref pV, .ref pM, .ref pS, .ref pK, .ref pW, .ref pD, .ref pC, .int (nI n), .int (nI nb), .int (nI nr), .ref pBI, .ref pBJ, .ref pRI, .ref pRJ, .ref pBK, .ref pBL, .ref pRL, .ref pLX, .ref pLY, .int isT, .ref pOX, .ref pOY, .ref pOU, .ref pOV, .ref pNX, .ref pNY, .ref pFX, .ref pFY, .ref pBN, .int stn, .int tm, .int rd, .int tk, .int ov1, .int st1, .int bl1, .int thw, .int cg, .double qa, .double qb, .double qr])), (pX, .inl (cD, 10, .inr (.inr (.inr (.inl x))))), (pY, .inl (cD, 10, .inr (.inr (.inr (.inl y)))))] sz) := by
  refine Met.ofW (cc := b_Model_overlap) (maxL := 3) (ret := (some .boolean)) (by decide) rfl ?_
  intro p e s m args below meth c s₁ B hml hv
  obtain ⟨rfl, hsz, hP, hK, hD0, hN⟩ := hv
  have hx := B.exec
  have hb := B.bytes
  have hr := B.returns
  have hts := atoms_spec (ws := w_Model_overlap) B.pre
  have hown : s.vm.findClass R_Model = some m.cls := findClass_of_methodNamed B.named
  have hlocks := B.notSynchronized
  subst hsz
  have hD := hD0.self (sz := s.heap.size)
  generalize hAe : va_A [(pm, .inr (9, [.double side, .double cut, .double skin, .double heat, .ref pX, .ref pY, .ref pU, .ref pV, .ref pM, .ref pS, .ref pK, .ref pW, .ref pD, .ref pC, .int (nI n), .int (nI nb), .int (nI nr), .ref pBI, .ref pBJ, .ref pRI, .ref pRJ, .ref pBK, .ref pBL, .ref pRL, .ref pLX, .ref pLY, .int isT, .ref pOX, .ref pOY, .ref pOU, .ref pOV, .ref pNX, .ref pNY, .ref pFX, .ref pFY, .ref pBN, .int stn, .int tm, .int rd, .int tk, .int ov1, .int st1, .int bl1, .int thw, .int cg, .double qa, .double qb, .double qr])), (pX, .inl (cD, 10, .inr (.inr (.inr (.inl x))))), (pY, .inl (cD, 10, .inr (.inr (.inr (.inl y)))))] s.heap.size = A at hD ⊢
  have hA : ∀ q : Nat, s.heap.size ≤ q → A q := fun q h => by rw [← hAe]; exact Or.inr h
  have hS : va_S A s.heap s.heap [] := va_S.rf
  have hl := lv_entry ([.ref pm]) (n := 3) (Nat.le_of_ble_eq_true rfl)
  rw [lg_entry_eq]
  generalize (lg_sl ([.ref pm]) ++ List.replicate (3 - (lg_sl ([.ref pm])).length) Slot.unset).toArray = ls at hl ⊢
  have hl : lv_has ls 3 [(0, .ref pm)] := hl
  obtain ⟨H, hH⟩ : ∃ H, H = s.heap := ⟨_, rfl⟩
  rw [← hH] at hP
  have hS : va_S A s.heap H [] := by rw [hH]; exact hS
  refine gx_start hH ?_
  refine lv_iconst (v := nI 0) hx hb d_Model_overlap_0 (by decide) ?_
  refine lv_istore_n (lv' := [(1, .int (nI 0)), (0, .ref pm)]) hx hb d_Model_overlap_1 rfl hl (by decide) rfl (fun ls hl => ?_)
  refine gx_loop (fun (xx : Nat × UInt64 × UInt64 × UInt64) (H : Heap) (locs : List Loc) (ls : Array Slot) => match xx with | (i, a1, b1, r1) => va_P (dC, dI) classes [(pm, .inr (9, [.double side, .double cut, .double skin, .double heat, .ref pX, .ref pY, .ref pU, .ref pV, .ref pM, .ref pS, .ref pK, .ref pW, .ref pD, .ref pC, .int (nI n), .int (nI nb), .int (nI nr), .ref pBI, .ref pBJ, .ref pRI, .ref pRJ, .ref pBK, .ref pBL, .ref pRL, .ref pLX, .ref pLY, .int isT, .ref pOX, .ref pOY, .ref pOU, .ref pOV, .ref pNX, .ref pNY, .ref pFX, .ref pFY, .ref pBN, .int stn, .int tm, .int rd, .int tk, .int ov1, .int st1, .int bl1, .int thw, .int cg, .double a1, .double b1, .double r1])), (pX, .inl (cD, 10, .inr (.inr (.inr (.inl x))))), (pY, .inl (cD, 10, .inr (.inr (.inr (.inl y)))))] H ∧ va_D A [(pm, .inr (9, [.double side, .double cut, .double skin, .double heat, .ref pX, .ref pY, .ref pU, .ref pV, .ref pM, .ref pS, .ref pK, .ref pW, .ref pD, .ref pC, .int (nI n), .int (nI nb), .int (nI nr), .ref pBI, .ref pBJ, .ref pRI, .ref pRJ, .ref pBK, .ref pBL, .ref pRL, .ref pLX, .ref pLY, .int isT, .ref pOX, .ref pOY, .ref pOU, .ref pOV, .ref pNX, .ref pNY, .ref pFX, .ref pFY, .ref pBN, .int stn, .int tm, .int rd, .int tk, .int ov1, .int st1, .int bl1, .int thw, .int cg, .double a1, .double b1, .double r1])), (pX, .inl (cD, 10, .inr (.inr (.inr (.inl x))))), (pY, .inl (cD, 10, .inr (.inr (.inr (.inl y)))))] ∧ va_S A s.heap H locs ∧ lv_has ls 3 [(1, .int (nI i)), (0, .ref pm)] ∧ (i ≤ n) ∧ (∀ i2 j2, i2 < i → i2 < j2 → j2 < n → ¬ pb_small side x y i2 j2)) (fun xx => match xx with | (i, a1, b1, r1) => n - i) (fun N K2 xx H locs ls hI hmu => ?_) (0, qa, qb, qr) ?_
  rotate_left
  · skip
    refine ⟨hP.sub [0, 1, 2] rfl, hD.sub [0, 1, 2] (by decide) rfl, hS, lv_sub hl [0, 1] rfl, (by omega), (fun _ _ h => absurd h (Nat.not_lt_zero _))⟩
  obtain ⟨i, a1, b1, r1⟩ := xx
  obtain ⟨hP, hD, hS, hl, hi, hq1⟩ := hI
  try dsimp only at hmu
  refine lv_iload_n hx hb d_Model_overlap_2 rfl (lv_at hl 0 rfl) ?_
  refine lv_aload_n hx hb d_Model_overlap_3 rfl (lv_at hl 1 rfl) ?_
  refine va_get (D := (dC, dI)) (ci := 9) (v := .int (nI n)) (C := R_Model) (T := F_Model) (N := 48) hx hb hts (fun w h => List.mem_cons_of_mem _ (i_Model w h)) hown hK hP 0 rfl rfl 14 (by decide) (hts _ (List.mem_cons_of_mem _ kw_855)) (fun _ h9 => h9) rfl d_Model_overlap_4 ?_
  refine lv_icmp_ge (tgt := 53) hx hb d_Model_overlap_7 (by decide) (fun c7 => ?_) (fun c7 => ?_)
  · skip
    have c7 : n ≤ i := (nI_leI (a := n) (b := i) (by omega) (by omega)).mp c7
    refine lv_iconst (v := 0) hx hb d_Model_overlap_53 (by decide) ?_
    have hP9 := hP.sub (ws' := [(pm, .inr (9, [.double side, .double cut, .double skin, .double heat, .ref pX, .ref pY, .ref pU, .ref pV, .ref pM, .ref pS, .ref pK, .ref pW, .ref pD, .ref pC, .int (nI n), .int (nI nb), .int (nI nr), .ref pBI, .ref pBJ, .ref pRI, .ref pRJ, .ref pBK, .ref pBL, .ref pRL, .ref pLX, .ref pLY, .int isT, .ref pOX, .ref pOY, .ref pOU, .ref pOV, .ref pNX, .ref pNY, .ref pFX, .ref pFY, .ref pBN, .int stn, .int tm, .int rd, .int tk, .int ov1, .int st1, .int bl1, .int thw, .int cg, .double a1, .double b1, .double r1])), (pX, .inl (cD, 10, .inr (.inr (.inr (.inl x))))), (pY, .inl (cD, 10, .inr (.inr (.inr (.inl y)))))]) [0, 1, 2] rfl
    have hD9 := hD.sub (ws' := [(pm, .inr (9, [.double side, .double cut, .double skin, .double heat, .ref pX, .ref pY, .ref pU, .ref pV, .ref pM, .ref pS, .ref pK, .ref pW, .ref pD, .ref pC, .int (nI n), .int (nI nb), .int (nI nr), .ref pBI, .ref pBJ, .ref pRI, .ref pRJ, .ref pBK, .ref pBL, .ref pRL, .ref pLX, .ref pLY, .int isT, .ref pOX, .ref pOY, .ref pOU, .ref pOV, .ref pNX, .ref pNY, .ref pFX, .ref pFY, .ref pBN, .int stn, .int tm, .int rd, .int tk, .int ov1, .int st1, .int bl1, .int thw, .int cg, .double a1, .double b1, .double r1])), (pX, .inl (cD, 10, .inr (.inr (.inr (.inl x))))), (pY, .inl (cD, 10, .inr (.inr (.inr (.inl y)))))]) [0, 1, 2] (by decide) rfl
    exact W.zret (v := 0) hx hb hr rfl (fun tt9 ht9 hW9 => ⟨⟨0, (a1, b1, r1), rfl, (pb_b_f (fun h => by obtain ⟨i2, j2, h1, h2, h3⟩ := h; exact hq1 i2 j2 (by omega) h1 h2 h3)).symm, by rw [ht9]; exact hP9, va_K.moved hW9.alike hK, hD9⟩, hS.F ht9⟩) hS.2.2 d_Model_overlap_54
  · skip
    have c7 : ¬ n ≤ i := fun h => c7 ((nI_leI (a := n) (b := i) (by omega) (by omega)).mpr h)
    refine lv_iload_n hx hb d_Model_overlap_10 rfl (lv_at hl 0 rfl) ?_
    refine lv_iconst (v := 1) hx hb d_Model_overlap_11 (by decide) ?_
    refine lv_iadd hx hb d_Model_overlap_12 ?_
    rw [nI_1 i]
    refine lv_istore_n (lv' := [(2, .int (nI (i + 1))), (1, .int (nI i)), (0, .ref pm)]) hx hb d_Model_overlap_13 rfl hl (by decide) rfl (fun ls hl => ?_)
    refine gx_loop (fun (xx : Nat × UInt64 × UInt64 × UInt64) (H : Heap) (locs : List Loc) (ls : Array Slot) => match xx with | (j, a2, b2, r2) => va_P (dC, dI) classes [(pm, .inr (9, [.double side, .double cut, .double skin, .double heat, .ref pX, .ref pY, .ref pU, .ref pV, .ref pM, .ref pS, .ref pK, .ref pW, .ref pD, .ref pC, .int (nI n), .int (nI nb), .int (nI nr), .ref pBI, .ref pBJ, .ref pRI, .ref pRJ, .ref pBK, .ref pBL, .ref pRL, .ref pLX, .ref pLY, .int isT, .ref pOX, .ref pOY, .ref pOU, .ref pOV, .ref pNX, .ref pNY, .ref pFX, .ref pFY, .ref pBN, .int stn, .int tm, .int rd, .int tk, .int ov1, .int st1, .int bl1, .int thw, .int cg, .double a2, .double b2, .double r2])), (pX, .inl (cD, 10, .inr (.inr (.inr (.inl x))))), (pY, .inl (cD, 10, .inr (.inr (.inr (.inl y)))))] H ∧ va_D A [(pm, .inr (9, [.double side, .double cut, .double skin, .double heat, .ref pX, .ref pY, .ref pU, .ref pV, .ref pM, .ref pS, .ref pK, .ref pW, .ref pD, .ref pC, .int (nI n), .int (nI nb), .int (nI nr), .ref pBI, .ref pBJ, .ref pRI, .ref pRJ, .ref pBK, .ref pBL, .ref pRL, .ref pLX, .ref pLY, .int isT, .ref pOX, .ref pOY, .ref pOU, .ref pOV, .ref pNX, .ref pNY, .ref pFX, .ref pFY, .ref pBN, .int stn, .int tm, .int rd, .int tk, .int ov1, .int st1, .int bl1, .int thw, .int cg, .double a2, .double b2, .double r2])), (pX, .inl (cD, 10, .inr (.inr (.inr (.inl x))))), (pY, .inl (cD, 10, .inr (.inr (.inr (.inl y)))))] ∧ va_S A s.heap H locs ∧ lv_has ls 3 [(2, .int (nI j)), (1, .int (nI i)), (0, .ref pm)] ∧ (j ≤ n) ∧ (i < j) ∧ (∀ j2, i < j2 → j2 < j → ¬ pb_small side x y i j2)) (fun xx => match xx with | (j, a2, b2, r2) => n - j) (fun N K14 xx H locs ls hI hmu => ?_) (i + 1, a1, b1, r1) ?_
    rotate_left
    · skip
      refine ⟨hP.sub [0, 1, 2] rfl, hD.sub [0, 1, 2] (by decide) rfl, hS, lv_sub hl [0, 1, 2] rfl, (by omega), (by omega), (fun j2 h h2 => absurd h (by omega))⟩
    obtain ⟨j, a2, b2, r2⟩ := xx
    obtain ⟨hP, hD, hS, hl, hj, hij, hq2⟩ := hI
    try dsimp only at hmu
    refine lv_iload_n hx hb d_Model_overlap_14 rfl (lv_at hl 0 rfl) ?_
    refine lv_aload_n hx hb d_Model_overlap_15 rfl (lv_at hl 2 rfl) ?_
    refine va_get (D := (dC, dI)) (ci := 9) (v := .int (nI n)) (C := R_Model) (T := F_Model) (N := 48) hx hb hts (fun w h => List.mem_cons_of_mem _ (i_Model w h)) hown hK hP 0 rfl rfl 14 (by decide) (hts _ (List.mem_cons_of_mem _ kw_855)) (fun _ h9 => h9) rfl d_Model_overlap_16 ?_
    refine lv_icmp_ge (tgt := 47) hx hb d_Model_overlap_19 (by decide) (fun c19 => ?_) (fun c19 => ?_)
    · skip
      have c19 : n ≤ j := (nI_leI (a := n) (b := j) (by omega) (by omega)).mp c19
      refine lv_iinc (v := nI (i + 1)) (lv' := [(1, .int (nI (i + 1))), (2, .int (nI j)), (0, .ref pm)]) hx hb d_Model_overlap_47 hl (k := 1) rfl (nI_1 i) (by decide) rfl (fun ls hl => ?_)
      refine lv_goto (tgt := 2) hx hb d_Model_overlap_50 (by decide) ?_
      exact K2 (i + 1, a2, b2, r2) _ _ _ ⟨hP.sub [0, 1, 2] rfl, hD.sub [0, 1, 2] (by decide) rfl, hS, lv_sub hl [0, 2] rfl, (by omega), (fun i2 j2 h h2 h3 => (Nat.lt_or_eq_of_le (Nat.lt_succ_iff.mp h)).elim (fun q => hq1 i2 j2 q h2 h3) (fun e => by rw [e]; exact hq2 j2 (by omega) (by omega)))⟩ (by dsimp only; omega)
    · skip
      have c19 : ¬ n ≤ j := fun h => c19 ((nI_leI (a := n) (b := j) (by omega) (by omega)).mpr h)
      refine lv_aload_n hx hb d_Model_overlap_22 rfl (lv_at hl 2 rfl) ?_
      refine lv_iload_n hx hb d_Model_overlap_23 rfl (lv_at hl 1 rfl) ?_
      refine lv_iload_n hx hb d_Model_overlap_24 rfl (lv_at hl 0 rfl) ?_
      refine gx_Vv (st0 := [.int (nI j), .int (nI i), .ref pm]) (As := [.int (nI i), .int (nI j)]) (rest := []) (wr := []) ⟨hx, hb, hml, hown, hts⟩ hN hK hP hD hS hA [0, 1, 2] [] rfl rfl (by decide) (c_Model_between l dC dI cI cD cZ H.size pm pX pY pU pV pM pS pK pW pD pC pBI pBJ pRI pRJ pBK pBL pRL pLX pLY pOX pOY pOU pOV pNX pNY pFX pFY pBN side cut skin heat n nb nr isT stn tm rd tk ov1 st1 bl1 thw cg a2 b2 r2 x y i j k hs (by omega) (by omega) (by omega) hX hY) (cwV 2 hts (gx_gV kw_1080 kw_1082 kw_30 kw_54 kw_1083) rfl rfl rfl (by decide +kernel) ⟨Nat.le_of_ble_eq_true rfl, Nat.le_of_ble_eq_true rfl⟩) 0 9 rfl rfl rfl hl.1 rfl (Nat.le_of_ble_eq_true rfl) d_Model_overlap_25 ⟨Nat.le_of_ble_eq_true rfl, Nat.le_of_ble_eq_true rfl⟩ (fun  u_1 H locs hw25 hP hD hS => ?_)
      try dsimp only at hw25 hP hD
      have hP : va_P (dC, dI) classes [(pm, .inr (9, [.double side, .double cut, .double skin, .double heat, .ref pX, .ref pY, .ref pU, .ref pV, .ref pM, .ref pS, .ref pK, .ref pW, .ref pD, .ref pC, .int (nI n), .int (nI nb), .int (nI nr), .ref pBI, .ref pBJ, .ref pRI, .ref pRJ, .ref pBK, .ref pBL, .ref pRL, .ref pLX, .ref pLY, .int isT, .ref pOX, .ref pOY, .ref pOU, .ref pOV, .ref pNX, .ref pNY, .ref pFX, .ref pFY, .ref pBN, .int stn, .int tm, .int rd, .int tk, .int ov1, .int st1, .int bl1, .int thw, .int cg, .double (pb_near side (FP.dsub (x j) (x i))), .double (pb_near side (FP.dsub (y j) (y i))), .double (pb_rij side x y i j)])), (pX, .inl (cD, 10, .inr (.inr (.inr (.inl x))))), (pY, .inl (cD, 10, .inr (.inr (.inr (.inl y)))))] H := hP
      have hD : va_D A [(pm, .inr (9, [.double side, .double cut, .double skin, .double heat, .ref pX, .ref pY, .ref pU, .ref pV, .ref pM, .ref pS, .ref pK, .ref pW, .ref pD, .ref pC, .int (nI n), .int (nI nb), .int (nI nr), .ref pBI, .ref pBJ, .ref pRI, .ref pRJ, .ref pBK, .ref pBL, .ref pRL, .ref pLX, .ref pLY, .int isT, .ref pOX, .ref pOY, .ref pOU, .ref pOV, .ref pNX, .ref pNY, .ref pFX, .ref pFY, .ref pBN, .int stn, .int tm, .int rd, .int tk, .int ov1, .int st1, .int bl1, .int thw, .int cg, .double (pb_near side (FP.dsub (x j) (x i))), .double (pb_near side (FP.dsub (y j) (y i))), .double (pb_rij side x y i j)])), (pX, .inl (cD, 10, .inr (.inr (.inr (.inl x))))), (pY, .inl (cD, 10, .inr (.inr (.inr (.inl y)))))] := hD
      have g_2 := pb_rij_I hs hX hY i j (by omega) (by omega)
      have g_3 := pb_near_I hs (pb_sub_p (hX j (by omega)) (hX i (by omega)))
      have g_4 := pb_near_I hs (pb_sub_p (hY j (by omega)) (hY i (by omega)))
      refine lv_aload_n hx hb d_Model_overlap_28 rfl (lv_at hl 2 rfl) ?_
      refine va_get (D := (dC, dI)) (ci := 9) (v := .double (pb_rij side x y i j)) (C := R_Model) (T := F_Model) (N := 48) hx hb hts (fun w h => List.mem_cons_of_mem _ (i_Model w h)) hown hK hP 0 rfl rfl 47 (by decide) (hts _ (List.mem_cons_of_mem _ kw_888)) (fun _ h9 => h9) rfl d_Model_overlap_29 ?_
      refine lv_ldc2d (v := 4562146422526312448) hx hb hown (hts (.constantDouble R_Model 185 4562146422526312448) (by decide +kernel)) d_Model_overlap_32 ?_
      refine gx_lt (tgt := 41) hx hb d_Model_overlap_35 d_Model_overlap_36 (by decide) (fun c35 => ?_) (fun c35 => ?_)
      · skip
        refine lv_iinc (v := nI (j + 1)) (lv' := [(2, .int (nI (j + 1))), (1, .int (nI i)), (0, .ref pm)]) hx hb d_Model_overlap_41 hl (k := 0) rfl (nI_1 j) (by decide) rfl (fun ls hl => ?_)
        refine lv_goto (tgt := 14) hx hb d_Model_overlap_44 (by decide) ?_
        exact K14 (j + 1, (pb_near side (FP.dsub (x j) (x i))), (pb_near side (FP.dsub (y j) (y i))), (pb_rij side x y i j)) _ _ _ ⟨hP.sub [0, 1, 2] rfl, hD.sub [0, 1, 2] (by decide) rfl, hS, lv_sub hl [0, 1, 2] rfl, (by omega), (by omega), (fun j2 h h2 => (Nat.lt_or_eq_of_le (Nat.lt_succ_iff.mp h2)).elim (fun q => hq2 j2 h q) (fun e => by rw [e]; exact c35))⟩ (by dsimp only; omega)
      · skip
        refine lv_iconst (v := 1) hx hb d_Model_overlap_39 (by decide) ?_
        have hP9 := hP.sub (ws' := [(pm, .inr (9, [.double side, .double cut, .double skin, .double heat, .ref pX, .ref pY, .ref pU, .ref pV, .ref pM, .ref pS, .ref pK, .ref pW, .ref pD, .ref pC, .int (nI n), .int (nI nb), .int (nI nr), .ref pBI, .ref pBJ, .ref pRI, .ref pRJ, .ref pBK, .ref pBL, .ref pRL, .ref pLX, .ref pLY, .int isT, .ref pOX, .ref pOY, .ref pOU, .ref pOV, .ref pNX, .ref pNY, .ref pFX, .ref pFY, .ref pBN, .int stn, .int tm, .int rd, .int tk, .int ov1, .int st1, .int bl1, .int thw, .int cg, .double (pb_near side (FP.dsub (x j) (x i))), .double (pb_near side (FP.dsub (y j) (y i))), .double (pb_rij side x y i j)])), (pX, .inl (cD, 10, .inr (.inr (.inr (.inl x))))), (pY, .inl (cD, 10, .inr (.inr (.inr (.inl y)))))]) [0, 1, 2] rfl
        have hD9 := hD.sub (ws' := [(pm, .inr (9, [.double side, .double cut, .double skin, .double heat, .ref pX, .ref pY, .ref pU, .ref pV, .ref pM, .ref pS, .ref pK, .ref pW, .ref pD, .ref pC, .int (nI n), .int (nI nb), .int (nI nr), .ref pBI, .ref pBJ, .ref pRI, .ref pRJ, .ref pBK, .ref pBL, .ref pRL, .ref pLX, .ref pLY, .int isT, .ref pOX, .ref pOY, .ref pOU, .ref pOV, .ref pNX, .ref pNY, .ref pFX, .ref pFY, .ref pBN, .int stn, .int tm, .int rd, .int tk, .int ov1, .int st1, .int bl1, .int thw, .int cg, .double (pb_near side (FP.dsub (x j) (x i))), .double (pb_near side (FP.dsub (y j) (y i))), .double (pb_rij side x y i j)])), (pX, .inl (cD, 10, .inr (.inr (.inr (.inl x))))), (pY, .inl (cD, 10, .inr (.inr (.inr (.inl y)))))]) [0, 1, 2] (by decide) rfl
        exact W.zret (v := 1) hx hb hr rfl (fun tt9 ht9 hW9 => ⟨⟨1, (pb_near side (FP.dsub (x j) (x i)), pb_near side (FP.dsub (y j) (y i)), pb_rij side x y i j), rfl, (pb_b_t ⟨i, j, by omega, by omega, c35⟩).symm, by rw [ht9]; exact hP9, va_K.moved hW9.alike hK, hD9⟩, hS.F ht9⟩) hS.2.2 d_Model_overlap_40
set_option maxHeartbeats 4000000 in
set_option maxRecDepth 100000 in
/-- isPair -/
theorem c_Model_isPair (l : Launch) (dC : Nat → ClassId) (dI : Nat → Nat → Nat) (cI cD cZ : ClassId) (sz : Nat) (pm : Nat) (pX : Nat) (pY : Nat) (pU : Nat) (pV : Nat) (pM : Nat) (pS : Nat) (pK : Nat) (pW : Nat) (pD : Nat) (pC : Nat) (pBI : Nat) (pBJ : Nat) (pRI : Nat) (pRJ : Nat) (pBK : Nat) (pBL : Nat) (pRL : Nat) (pLX : Nat) (pLY : Nat) (pOX : Nat) (pOY : Nat) (pOU : Nat) (pOV : Nat) (pNX : Nat) (pNY : Nat) (pFX : Nat) (pFY : Nat) (pBN : Nat) (side : UInt64) (cut : UInt64) (skin : UInt64) (heat : UInt64) (n : Nat) (nb : Nat) (nr : Nat) (isT : Int32) (stn : Int32) (tm : Int32) (rd : Int32) (tk : Int32) (ov1 : Int32) (st1 : Int32) (bl1 : Int32) (thw : Int32) (cg : Int32) (qa : UInt64) (qb : UInt64) (qr : UInt64) (x : Nat → UInt64) (y : Nat → UInt64) (i : Nat) (j : Nat) (k : Int) (hs : pb_S side k) (hn : n ≤ 10) (hi : i < n) (hj : j < n) (hX : ∀ i, i < n → pb_Ip (x i)) (hY : ∀ i, i < n → pb_Ip (y i)) (hcut : pb_Icut cut) : Met l y_Model_isPair w_Model_isPair ({ frames := 4, cells := 0, slots := 0, locals := 95 }) (va_Pc [.ref pm, .int (nI i), .int (nI j)] (gx_B (dC, dI) classes (gx_T cI cD cZ) [(pm, .inr (9, [.double side, .double cut, .double skin, .double heat, .ref pX, .ref pY, .ref pU, .ref pV, .ref pM, .ref pS, .ref pK, .ref pW, .ref pD, .ref pC, .int (nI n), .int (nI nb), .int (nI nr), .ref pBI, .ref pBJ, .ref pRI, .ref pRJ, .ref pBK, .ref pBL, .ref pRL, .ref pLX, .ref pLY, .int isT, .ref pOX, .ref pOY, .ref pOU, .ref pOV, .ref pNX, .ref pNY, .ref pFX, .ref pFY, .ref pBN, .int stn, .int tm, .int rd, .int tk, .int ov1, .int st1, .int bl1, .int thw, .int cg, .double qa, .double qb, .double qr])), (pX, .inl (cD, 10, .inr (.inr (.inr (.inl x))))), (pY, .inl (cD, 10, .inr (.inr (.inr (.inl y)))))] sz)) (va_Qi (fun (rr : Int32) (uu : Unit) => rr = pb_b (pb_prp side cut x y i j)) (fun (uu : Unit) t => gx_E (dC, dI) classes (gx_T cI cD cZ) (va_A [(pm, .inr (9, [.double side, .double cut, .double skin, .double heat, .ref pX, .ref pY, .ref pU, .ref pV, .ref pM, .ref pS, .ref pK, .ref pW, .ref pD, .ref pC, .int (nI n), .int (nI nb), .int (nI nr), .ref pBI, .ref pBJ, .ref pRI, .ref pRJ, .ref pBK, .ref pBL, .ref pRL, .ref pLX, .ref pLY, .int isT, .ref pOX, .ref pOY, .ref pOU, .ref pOV, .ref pNX, .ref pNY, .ref pFX, .ref pFY, .ref pBN, .int stn, .int tm, .int rd, .int tk, .int ov1, .int st1, .int bl1, .int thw, .int cg, .double qa, .double qb, .double qr])), (pX, .inl (cD, 10, .inr (.inr (.inr (.inl x))))), (pY, .inl (cD, 10, .inr (.inr (.inr (.inl y)))))] sz) [(pm, .inr (9, [.double side, .double cut, .double skin, .double heat, .ref pX, .ref pY, .ref pU, .ref pV, .ref pM, .ref pS, .ref pK, .ref pW, .ref pD, .ref pC, .int (nI n), .int (nI nb), .int (nI nr), .ref pBI, .ref pBJ, .ref pRI, .ref pRJ, .ref pBK, .ref pBL, .ref pRL, .ref pLX, .ref pLY, .int isT, .ref pOX, .ref pOY, .ref pOU, .ref pOV, .ref pNX, .ref pNY, .ref pFX, .ref pFY, .ref pBN, .int stn, .int tm, .int rd, .int tk, .int ov1, .int st1, .int bl1, .int thw, .int cg, .double (pb_near side (FP.dsub (x j) (x i))), .double (pb_near side (FP.dsub (y j) (y i))), .double (pb_rij side x y i j)])), (pX, .inl (cD, 10, .inr (.inr (.inr (.inl x))))), (pY, .inl (cD, 10, .inr (.inr (.inr (.inl y)))))] t) (va_A [(pm, .inr (9, [.double side, .double cut, .double skin, .double heat, .ref pX, .ref pY, .ref pU, .ref pV, .ref pM, .ref pS, .ref pK, .ref pW, .ref pD, .ref pC, .int (nI n), .int (nI nb), .int (nI nr), .ref pBI, .ref pBJ, .ref pRI, .ref pRJ, .ref pBK, .ref pBL, .ref pRL, .ref pLX, .ref pLY, .int isT, .ref pOX, .ref pOY, .ref pOU, .ref pOV, .ref pNX, .ref pNY, .ref pFX, .ref pFY, .ref pBN, .int stn, .int tm, .int rd, .int tk, .int ov1, .int st1, .int bl1, .int thw, .int cg, .double qa, .double qb, .double qr])), (pX, .inl (cD, 10, .inr (.inr (.inr (.inl x))))), (pY, .inl (cD, 10, .inr (.inr (.inr (.inl y)))))] sz)) 0 0 (va_A [(pm, .inr (9, [.double side, .double cut, .double skin, .double heat, .ref pX, .ref pY, .ref pU, .ref pV, .ref pM, .ref pS, .ref pK, .ref pW, .ref pD, .ref pC, .int (nI n), .int (nI nb), .int (nI nr), .ref pBI, .ref pBJ, .ref pRI, .ref pRJ, .ref pBK, .ref pBL, .ref pRL, .ref pLX, .ref pLY, .int isT, .ref pOX, .ref pOY, .ref pOU, .ref pOV, .ref pNX, .ref pNY, .ref pFX, .ref pFY, .ref pBN, .int stn, .int tm, .int rd, .int tk, .int ov1, .int st1, .int bl1, .int thw, .int cg, .double qa, .double qb, .double qr])), (pX, .inl (cD, 10, .inr (.inr (.inr (.inl x))))), (pY, .inl (cD, 10, .inr (.inr (.inr (.inl y)))))] sz) := by
  refine Met.ofW (cc := b_Model_isPair) (maxL := 3) (ret := (some .boolean)) (by decide) rfl ?_
  intro p e s m args below meth c s₁ B hml hv
  obtain ⟨rfl, hsz, hP, hK, hD0, hN⟩ := hv
  have hx := B.exec
  have hb := B.bytes
  have hr := B.returns
  have hts := atoms_spec (ws := w_Model_isPair) B.pre
  have hown : s.vm.findClass R_Model = some m.cls := findClass_of_methodNamed B.named
  have hlocks := B.notSynchronized
  subst hsz
  have hD := hD0.self (sz := s.heap.size)
  generalize hAe : va_A [(pm, .inr (9, [.double side, .double cut, .double skin, .double heat, .ref pX, .ref pY, .ref pU, .ref pV, .ref pM, .ref pS, .ref pK, .ref pW, .ref pD, .ref pC, .int (nI n), .int (nI nb), .int (nI nr), .ref pBI, .ref pBJ, .ref pRI, .ref pRJ, .ref pBK, .ref pBL, .ref pRL, .ref pLX, .ref pLY, .int isT, .ref pOX, .ref pOY, .ref pOU, .ref pOV, .ref pNX, .ref pNY, .ref pFX, .ref pFY, .ref pBN, .int stn, .int tm, .int rd, .int tk, .int ov1, .int st1, .int bl1, .int thw, .int cg, .double qa, .double qb, .double qr])), (pX, .inl (cD, 10, .inr (.inr (.inr (.inl x))))), (pY, .inl (cD, 10, .inr (.inr (.inr (.inl y)))))] s.heap.size = A at hD ⊢
  have hA : ∀ q : Nat, s.heap.size ≤ q → A q := fun q h => by rw [← hAe]; exact Or.inr h
  have hS : va_S A s.heap s.heap [] := va_S.rf
  have hl := lv_entry ([.ref pm, .int (nI i), .int (nI j)]) (n := 3) (Nat.le_of_ble_eq_true rfl)
  rw [lg_entry_eq]
  generalize (lg_sl ([.ref pm, .int (nI i), .int (nI j)]) ++ List.replicate (3 - (lg_sl ([.ref pm, .int (nI i), .int (nI j)])).length) Slot.unset).toArray = ls at hl ⊢
  have hl : lv_has ls 3 [(0, .ref pm), (1, .int (nI i)), (2, .int (nI j))] := hl
  obtain ⟨H, hH⟩ : ∃ H, H = s.heap := ⟨_, rfl⟩
  rw [← hH] at hP
  have hS : va_S A s.heap H [] := by rw [hH]; exact hS
  refine gx_start hH ?_
  refine lv_aload_n hx hb d_Model_isPair_0 rfl (lv_at hl 0 rfl) ?_
  refine lv_iload_n hx hb d_Model_isPair_1 rfl (lv_at hl 1 rfl) ?_
  refine lv_iload_n hx hb d_Model_isPair_2 rfl (lv_at hl 2 rfl) ?_
  refine gx_Vv (st0 := [.int (nI j), .int (nI i), .ref pm]) (As := [.int (nI i), .int (nI j)]) (rest := []) (wr := []) ⟨hx, hb, hml, hown, hts⟩ hN hK hP hD hS hA [0, 1, 2] [] rfl rfl (by decide) (c_Model_between l dC dI cI cD cZ H.size pm pX pY pU pV pM pS pK pW pD pC pBI pBJ pRI pRJ pBK pBL pRL pLX pLY pOX pOY pOU pOV pNX pNY pFX pFY pBN side cut skin heat n nb nr isT stn tm rd tk ov1 st1 bl1 thw cg qa qb qr x y i j k hs (by omega) (by omega) (by omega) hX hY) (cwV 2 hts (gx_gV kw_1080 kw_1082 kw_30 kw_54 kw_1083) rfl rfl rfl (by decide +kernel) ⟨Nat.le_of_ble_eq_true rfl, Nat.le_of_ble_eq_true rfl⟩) 0 9 rfl rfl rfl hl.1 rfl (Nat.le_of_ble_eq_true rfl) d_Model_isPair_3 ⟨Nat.le_of_ble_eq_true rfl, Nat.le_of_ble_eq_true rfl⟩ (fun  u_1 H locs hw3 hP hD hS => ?_)
  try dsimp only at hw3 hP hD
  have hP : va_P (dC, dI) classes [(pm, .inr (9, [.double side, .double cut, .double skin, .double heat, .ref pX, .ref pY, .ref pU, .ref pV, .ref pM, .ref pS, .ref pK, .ref pW, .ref pD, .ref pC, .int (nI n), .int (nI nb), .int (nI nr), .ref pBI, .ref pBJ, .ref pRI, .ref pRJ, .ref pBK, .ref pBL, .ref pRL, .ref pLX, .ref pLY, .int isT, .ref pOX, .ref pOY, .ref pOU, .ref pOV, .ref pNX, .ref pNY, .ref pFX, .ref pFY, .ref pBN, .int stn, .int tm, .int rd, .int tk, .int ov1, .int st1, .int bl1, .int thw, .int cg, .double (pb_near side (FP.dsub (x j) (x i))), .double (pb_near side (FP.dsub (y j) (y i))), .double (pb_rij side x y i j)])), (pX, .inl (cD, 10, .inr (.inr (.inr (.inl x))))), (pY, .inl (cD, 10, .inr (.inr (.inr (.inl y)))))] H := hP
  have hD : va_D A [(pm, .inr (9, [.double side, .double cut, .double skin, .double heat, .ref pX, .ref pY, .ref pU, .ref pV, .ref pM, .ref pS, .ref pK, .ref pW, .ref pD, .ref pC, .int (nI n), .int (nI nb), .int (nI nr), .ref pBI, .ref pBJ, .ref pRI, .ref pRJ, .ref pBK, .ref pBL, .ref pRL, .ref pLX, .ref pLY, .int isT, .ref pOX, .ref pOY, .ref pOU, .ref pOV, .ref pNX, .ref pNY, .ref pFX, .ref pFY, .ref pBN, .int stn, .int tm, .int rd, .int tk, .int ov1, .int st1, .int bl1, .int thw, .int cg, .double (pb_near side (FP.dsub (x j) (x i))), .double (pb_near side (FP.dsub (y j) (y i))), .double (pb_rij side x y i j)])), (pX, .inl (cD, 10, .inr (.inr (.inr (.inl x))))), (pY, .inl (cD, 10, .inr (.inr (.inr (.inl y)))))] := hD
  have g_2 := pb_rij_I hs hX hY i j (by omega) (by omega)
  have g_3 := pb_near_I hs (pb_sub_p (hX j (by omega)) (hX i (by omega)))
  have g_4 := pb_near_I hs (pb_sub_p (hY j (by omega)) (hY i (by omega)))
  refine lv_aload_n hx hb d_Model_isPair_6 rfl (lv_at hl 0 rfl) ?_
  refine va_get (D := (dC, dI)) (ci := 9) (v := .double (pb_rij side x y i j)) (C := R_Model) (T := F_Model) (N := 48) hx hb hts (fun w h => List.mem_cons_of_mem _ (i_Model w h)) hown hK hP 0 rfl rfl 47 (by decide) (hts _ (List.mem_cons_of_mem _ kw_888)) (fun _ h9 => h9) rfl d_Model_isPair_7 ?_
  refine lv_aload_n hx hb d_Model_isPair_10 rfl (lv_at hl 0 rfl) ?_
  refine va_get (D := (dC, dI)) (ci := 9) (v := .double cut) (C := R_Model) (T := F_Model) (N := 48) hx hb hts (fun w h => List.mem_cons_of_mem _ (i_Model w h)) hown hK hP 0 rfl rfl 1 (by decide) (hts _ (List.mem_cons_of_mem _ kw_842)) (fun _ h9 => h9) rfl d_Model_isPair_11 ?_
  refine lv_aload_n hx hb d_Model_isPair_14 rfl (lv_at hl 0 rfl) ?_
  refine va_get (D := (dC, dI)) (ci := 9) (v := .double cut) (C := R_Model) (T := F_Model) (N := 48) hx hb hts (fun w h => List.mem_cons_of_mem _ (i_Model w h)) hown hK hP 0 rfl rfl 1 (by decide) (hts _ (List.mem_cons_of_mem _ kw_842)) (fun _ h9 => h9) rfl d_Model_isPair_15 ?_
  have g_5 := fp_I_mul (fp_d 1 1072) (fp_d 1 1082) hcut hcut (by decide +kernel)
  refine lv_dmul hx hb d_Model_isPair_18 g_5.n ?_
  refine gx_lt (tgt := 27) hx hb d_Model_isPair_19 d_Model_isPair_20 (by decide) (fun c19 => ?_) (fun c19 => ?_)
  · skip
    refine lv_iconst (v := 0) hx hb d_Model_isPair_27 (by decide) ?_
    have hP9 := hP.sub (ws' := [(pm, .inr (9, [.double side, .double cut, .double skin, .double heat, .ref pX, .ref pY, .ref pU, .ref pV, .ref pM, .ref pS, .ref pK, .ref pW, .ref pD, .ref pC, .int (nI n), .int (nI nb), .int (nI nr), .ref pBI, .ref pBJ, .ref pRI, .ref pRJ, .ref pBK, .ref pBL, .ref pRL, .ref pLX, .ref pLY, .int isT, .ref pOX, .ref pOY, .ref pOU, .ref pOV, .ref pNX, .ref pNY, .ref pFX, .ref pFY, .ref pBN, .int stn, .int tm, .int rd, .int tk, .int ov1, .int st1, .int bl1, .int thw, .int cg, .double (pb_near side (FP.dsub (x j) (x i))), .double (pb_near side (FP.dsub (y j) (y i))), .double (pb_rij side x y i j)])), (pX, .inl (cD, 10, .inr (.inr (.inr (.inl x))))), (pY, .inl (cD, 10, .inr (.inr (.inr (.inl y)))))]) [0, 1, 2] rfl
    have hD9 := hD.sub (ws' := [(pm, .inr (9, [.double side, .double cut, .double skin, .double heat, .ref pX, .ref pY, .ref pU, .ref pV, .ref pM, .ref pS, .ref pK, .ref pW, .ref pD, .ref pC, .int (nI n), .int (nI nb), .int (nI nr), .ref pBI, .ref pBJ, .ref pRI, .ref pRJ, .ref pBK, .ref pBL, .ref pRL, .ref pLX, .ref pLY, .int isT, .ref pOX, .ref pOY, .ref pOU, .ref pOV, .ref pNX, .ref pNY, .ref pFX, .ref pFY, .ref pBN, .int stn, .int tm, .int rd, .int tk, .int ov1, .int st1, .int bl1, .int thw, .int cg, .double (pb_near side (FP.dsub (x j) (x i))), .double (pb_near side (FP.dsub (y j) (y i))), .double (pb_rij side x y i j)])), (pX, .inl (cD, 10, .inr (.inr (.inr (.inl x))))), (pY, .inl (cD, 10, .inr (.inr (.inr (.inl y)))))]) [0, 1, 2] (by decide) rfl
    exact W.zret (v := 0) hx hb hr rfl (fun tt9 ht9 hW9 => ⟨⟨0, (), rfl, (pb_b_f c19).symm, by rw [ht9]; exact hP9, va_K.moved hW9.alike hK, hD9⟩, hS.F ht9⟩) hS.2.2 d_Model_isPair_28
  · skip
    refine lv_iconst (v := 1) hx hb d_Model_isPair_23 (by decide) ?_
    refine lv_goto (tgt := 28) hx hb d_Model_isPair_24 (by decide) ?_
    have hP9 := hP.sub (ws' := [(pm, .inr (9, [.double side, .double cut, .double skin, .double heat, .ref pX, .ref pY, .ref pU, .ref pV, .ref pM, .ref pS, .ref pK, .ref pW, .ref pD, .ref pC, .int (nI n), .int (nI nb), .int (nI nr), .ref pBI, .ref pBJ, .ref pRI, .ref pRJ, .ref pBK, .ref pBL, .ref pRL, .ref pLX, .ref pLY, .int isT, .ref pOX, .ref pOY, .ref pOU, .ref pOV, .ref pNX, .ref pNY, .ref pFX, .ref pFY, .ref pBN, .int stn, .int tm, .int rd, .int tk, .int ov1, .int st1, .int bl1, .int thw, .int cg, .double (pb_near side (FP.dsub (x j) (x i))), .double (pb_near side (FP.dsub (y j) (y i))), .double (pb_rij side x y i j)])), (pX, .inl (cD, 10, .inr (.inr (.inr (.inl x))))), (pY, .inl (cD, 10, .inr (.inr (.inr (.inl y)))))]) [0, 1, 2] rfl
    have hD9 := hD.sub (ws' := [(pm, .inr (9, [.double side, .double cut, .double skin, .double heat, .ref pX, .ref pY, .ref pU, .ref pV, .ref pM, .ref pS, .ref pK, .ref pW, .ref pD, .ref pC, .int (nI n), .int (nI nb), .int (nI nr), .ref pBI, .ref pBJ, .ref pRI, .ref pRJ, .ref pBK, .ref pBL, .ref pRL, .ref pLX, .ref pLY, .int isT, .ref pOX, .ref pOY, .ref pOU, .ref pOV, .ref pNX, .ref pNY, .ref pFX, .ref pFY, .ref pBN, .int stn, .int tm, .int rd, .int tk, .int ov1, .int st1, .int bl1, .int thw, .int cg, .double (pb_near side (FP.dsub (x j) (x i))), .double (pb_near side (FP.dsub (y j) (y i))), .double (pb_rij side x y i j)])), (pX, .inl (cD, 10, .inr (.inr (.inr (.inl x))))), (pY, .inl (cD, 10, .inr (.inr (.inr (.inl y)))))]) [0, 1, 2] (by decide) rfl
    exact W.zret (v := 1) hx hb hr rfl (fun tt9 ht9 hW9 => ⟨⟨1, (), rfl, (pb_b_t c19).symm, by rw [ht9]; exact hP9, va_K.moved hW9.alike hK, hD9⟩, hS.F ht9⟩) hS.2.2 d_Model_isPair_28
set_option maxHeartbeats 4000000 in
set_option maxRecDepth 100000 in
/-- deep -/
theorem c_Model_deep (l : Launch) (dC : Nat → ClassId) (dI : Nat → Nat → Nat) (cI cD cZ : ClassId) (sz : Nat) (pm : Nat) (pX : Nat) (pY : Nat) (pU : Nat) (pV : Nat) (pM : Nat) (pS : Nat) (pK : Nat) (pW : Nat) (pD : Nat) (pC : Nat) (pBI : Nat) (pBJ : Nat) (pRI : Nat) (pRJ : Nat) (pBK : Nat) (pBL : Nat) (pRL : Nat) (pLX : Nat) (pLY : Nat) (pOX : Nat) (pOY : Nat) (pOU : Nat) (pOV : Nat) (pNX : Nat) (pNY : Nat) (pFX : Nat) (pFY : Nat) (pBN : Nat) (side : UInt64) (cut : UInt64) (skin : UInt64) (heat : UInt64) (n : Nat) (nb : Nat) (nr : Nat) (isT : Int32) (stn : Int32) (tm : Int32) (rd : Int32) (tk : Int32) (ov1 : Int32) (st1 : Int32) (bl1 : Int32) (thw : Int32) (cg : Int32) (qa : UInt64) (qb : UInt64) (qr : UInt64) (so : Nat → Nat) (depth : Nat → UInt64) (i : Nat) (j : Nat) (hn : n ≤ 10) (hi : i < n) (hj : j < n) (hso : ∀ i, i < n → so i < 3) (hdI : ∀ i, i < 3 → pb_Id (depth i)) : Met l y_Model_deep w_Model_deep ({ frames := 0, cells := 0, slots := 0, locals := 0 }) (va_Pc [.ref pm, .int (nI i), .int (nI j)] (gx_B (dC, dI) classes (gx_T cI cD cZ) [(pm, .inr (9, [.double side, .double cut, .double skin, .double heat, .ref pX, .ref pY, .ref pU, .ref pV, .ref pM, .ref pS, .ref pK, .ref pW, .ref pD, .ref pC, .int (nI n), .int (nI nb), .int (nI nr), .ref pBI, .ref pBJ, .ref pRI, .ref pRJ, .ref pBK, .ref pBL, .ref pRL, .ref pLX, .ref pLY, .int isT, .ref pOX, .ref pOY, .ref pOU, .ref pOV, .ref pNX, .ref pNY, .ref pFX, .ref pFY, .ref pBN, .int stn, .int tm, .int rd, .int tk, .int ov1, .int st1, .int bl1, .int thw, .int cg, .double qa, .double qb, .double qr])), (pS, .inl (cI, 10, .inl (pb_n so))), (pD, .inl (cD, 3, .inr (.inr (.inr (.inl depth)))))] sz)) (va_Qd (fun (rr : UInt64) (uu : Unit) => rr = pb_mid depth so i j) (fun (uu : Unit) t => gx_E (dC, dI) classes (gx_T cI cD cZ) (va_A [(pm, .inr (9, [.double side, .double cut, .double skin, .double heat, .ref pX, .ref pY, .ref pU, .ref pV, .ref pM, .ref pS, .ref pK, .ref pW, .ref pD, .ref pC, .int (nI n), .int (nI nb), .int (nI nr), .ref pBI, .ref pBJ, .ref pRI, .ref pRJ, .ref pBK, .ref pBL, .ref pRL, .ref pLX, .ref pLY, .int isT, .ref pOX, .ref pOY, .ref pOU, .ref pOV, .ref pNX, .ref pNY, .ref pFX, .ref pFY, .ref pBN, .int stn, .int tm, .int rd, .int tk, .int ov1, .int st1, .int bl1, .int thw, .int cg, .double qa, .double qb, .double qr])), (pS, .inl (cI, 10, .inl (pb_n so))), (pD, .inl (cD, 3, .inr (.inr (.inr (.inl depth)))))] sz) [(pm, .inr (9, [.double side, .double cut, .double skin, .double heat, .ref pX, .ref pY, .ref pU, .ref pV, .ref pM, .ref pS, .ref pK, .ref pW, .ref pD, .ref pC, .int (nI n), .int (nI nb), .int (nI nr), .ref pBI, .ref pBJ, .ref pRI, .ref pRJ, .ref pBK, .ref pBL, .ref pRL, .ref pLX, .ref pLY, .int isT, .ref pOX, .ref pOY, .ref pOU, .ref pOV, .ref pNX, .ref pNY, .ref pFX, .ref pFY, .ref pBN, .int stn, .int tm, .int rd, .int tk, .int ov1, .int st1, .int bl1, .int thw, .int cg, .double qa, .double qb, .double qr])), (pS, .inl (cI, 10, .inl (pb_n so))), (pD, .inl (cD, 3, .inr (.inr (.inr (.inl depth)))))] t) (va_A [(pm, .inr (9, [.double side, .double cut, .double skin, .double heat, .ref pX, .ref pY, .ref pU, .ref pV, .ref pM, .ref pS, .ref pK, .ref pW, .ref pD, .ref pC, .int (nI n), .int (nI nb), .int (nI nr), .ref pBI, .ref pBJ, .ref pRI, .ref pRJ, .ref pBK, .ref pBL, .ref pRL, .ref pLX, .ref pLY, .int isT, .ref pOX, .ref pOY, .ref pOU, .ref pOV, .ref pNX, .ref pNY, .ref pFX, .ref pFY, .ref pBN, .int stn, .int tm, .int rd, .int tk, .int ov1, .int st1, .int bl1, .int thw, .int cg, .double qa, .double qb, .double qr])), (pS, .inl (cI, 10, .inl (pb_n so))), (pD, .inl (cD, 3, .inr (.inr (.inr (.inl depth)))))] sz)) 0 0 (va_A [(pm, .inr (9, [.double side, .double cut, .double skin, .double heat, .ref pX, .ref pY, .ref pU, .ref pV, .ref pM, .ref pS, .ref pK, .ref pW, .ref pD, .ref pC, .int (nI n), .int (nI nb), .int (nI nr), .ref pBI, .ref pBJ, .ref pRI, .ref pRJ, .ref pBK, .ref pBL, .ref pRL, .ref pLX, .ref pLY, .int isT, .ref pOX, .ref pOY, .ref pOU, .ref pOV, .ref pNX, .ref pNY, .ref pFX, .ref pFY, .ref pBN, .int stn, .int tm, .int rd, .int tk, .int ov1, .int st1, .int bl1, .int thw, .int cg, .double qa, .double qb, .double qr])), (pS, .inl (cI, 10, .inl (pb_n so))), (pD, .inl (cD, 3, .inr (.inr (.inr (.inl depth)))))] sz) := by
  refine Met.ofW (cc := b_Model_deep) (maxL := 3) (ret := (some .double)) (by decide) rfl ?_
  intro p e s m args below meth c s₁ B hml hv
  obtain ⟨rfl, hsz, hP, hK, hD0, hN⟩ := hv
  have hx := B.exec
  have hb := B.bytes
  have hr := B.returns
  have hts := atoms_spec (ws := w_Model_deep) B.pre
  have hown : s.vm.findClass R_Model = some m.cls := findClass_of_methodNamed B.named
  have hlocks := B.notSynchronized
  subst hsz
  have hD := hD0.self (sz := s.heap.size)
  generalize hAe : va_A [(pm, .inr (9, [.double side, .double cut, .double skin, .double heat, .ref pX, .ref pY, .ref pU, .ref pV, .ref pM, .ref pS, .ref pK, .ref pW, .ref pD, .ref pC, .int (nI n), .int (nI nb), .int (nI nr), .ref pBI, .ref pBJ, .ref pRI, .ref pRJ, .ref pBK, .ref pBL, .ref pRL, .ref pLX, .ref pLY, .int isT, .ref pOX, .ref pOY, .ref pOU, .ref pOV, .ref pNX, .ref pNY, .ref pFX, .ref pFY, .ref pBN, .int stn, .int tm, .int rd, .int tk, .int ov1, .int st1, .int bl1, .int thw, .int cg, .double qa, .double qb, .double qr])), (pS, .inl (cI, 10, .inl (pb_n so))), (pD, .inl (cD, 3, .inr (.inr (.inr (.inl depth)))))] s.heap.size = A at hD ⊢
  have hA : ∀ q : Nat, s.heap.size ≤ q → A q := fun q h => by rw [← hAe]; exact Or.inr h
  have hS : va_S A s.heap s.heap [] := va_S.rf
  have hl := lv_entry ([.ref pm, .int (nI i), .int (nI j)]) (n := 3) (Nat.le_of_ble_eq_true rfl)
  rw [lg_entry_eq]
  generalize (lg_sl ([.ref pm, .int (nI i), .int (nI j)]) ++ List.replicate (3 - (lg_sl ([.ref pm, .int (nI i), .int (nI j)])).length) Slot.unset).toArray = ls at hl ⊢
  have hl : lv_has ls 3 [(0, .ref pm), (1, .int (nI i)), (2, .int (nI j))] := hl
  obtain ⟨H, hH⟩ : ∃ H, H = s.heap := ⟨_, rfl⟩
  rw [← hH] at hP
  have hS : va_S A s.heap H [] := by rw [hH]; exact hS
  refine gx_start hH ?_
  refine lv_aload_n hx hb d_Model_deep_0 rfl (lv_at hl 0 rfl) ?_
  refine va_get (D := (dC, dI)) (ci := 9) (v := .ref pD) (C := R_Model) (T := F_Model) (N := 48) hx hb hts (fun w h => List.mem_cons_of_mem _ (i_Model w h)) hown hK hP 0 rfl rfl 12 (by decide) (hts _ (List.mem_cons_of_mem _ kw_853)) (fun _ h9 => h9) rfl d_Model_deep_1 ?_
  refine lv_aload_n hx hb d_Model_deep_4 rfl (lv_at hl 0 rfl) ?_
  refine va_get (D := (dC, dI)) (ci := 9) (v := .ref pS) (C := R_Model) (T := F_Model) (N := 48) hx hb hts (fun w h => List.mem_cons_of_mem _ (i_Model w h)) hown hK hP 0 rfl rfl 9 (by decide) (hts _ (List.mem_cons_of_mem _ kw_850)) (fun _ h9 => h9) rfl d_Model_deep_5 ?_
  refine lv_iload_n hx hb d_Model_deep_8 rfl (lv_at hl 1 rfl) ?_
  refine gx_iald hx hb hK hP 1 0 rfl rfl (by omega) (by decide) d_Model_deep_9 ?_
  refine gx_dald hx hb hK hP 2 1 rfl rfl (hso i (by omega)) (by decide) d_Model_deep_10 ?_
  have g_1 := hdI (so i) (hso i (by omega))
  refine lv_aload_n hx hb d_Model_deep_11 rfl (lv_at hl 0 rfl) ?_
  refine va_get (D := (dC, dI)) (ci := 9) (v := .ref pD) (C := R_Model) (T := F_Model) (N := 48) hx hb hts (fun w h => List.mem_cons_of_mem _ (i_Model w h)) hown hK hP 0 rfl rfl 12 (by decide) (hts _ (List.mem_cons_of_mem _ kw_853)) (fun _ h9 => h9) rfl d_Model_deep_12 ?_
  refine lv_aload_n hx hb d_Model_deep_15 rfl (lv_at hl 0 rfl) ?_
  refine va_get (D := (dC, dI)) (ci := 9) (v := .ref pS) (C := R_Model) (T := F_Model) (N := 48) hx hb hts (fun w h => List.mem_cons_of_mem _ (i_Model w h)) hown hK hP 0 rfl rfl 9 (by decide) (hts _ (List.mem_cons_of_mem _ kw_850)) (fun _ h9 => h9) rfl d_Model_deep_16 ?_
  refine lv_iload_n hx hb d_Model_deep_19 rfl (lv_at hl 2 rfl) ?_
  refine gx_iald hx hb hK hP 1 0 rfl rfl (by omega) (by decide) d_Model_deep_20 ?_
  refine gx_dald hx hb hK hP 2 1 rfl rfl (hso j (by omega)) (by decide) d_Model_deep_21 ?_
  have g_2 := hdI (so j) (hso j (by omega))
  have g_3 := fp_I_add (fp_d 0 0) (fp_d 1 1081) g_1 g_2 (by decide +kernel)
  refine lv_dadd hx hb d_Model_deep_22 g_3.n ?_
  refine lv_ldc2d (v := 4602678819172646912) hx hb hown (hts (.constantDouble R_Model 7 4602678819172646912) (by decide +kernel)) d_Model_deep_23 ?_
  have g_4 := fp_const (a := 4602678819172646912) (T := (fp_d 1 1073)) (by decide +kernel)
  have g_5 := fp_I_mul (fp_d 0 0) (fp_d 1 1080) g_3 g_4 (by decide +kernel)
  refine lv_dmul hx hb d_Model_deep_26 g_5.n ?_
  have hP9 := hP.sub (ws' := [(pm, .inr (9, [.double side, .double cut, .double skin, .double heat, .ref pX, .ref pY, .ref pU, .ref pV, .ref pM, .ref pS, .ref pK, .ref pW, .ref pD, .ref pC, .int (nI n), .int (nI nb), .int (nI nr), .ref pBI, .ref pBJ, .ref pRI, .ref pRJ, .ref pBK, .ref pBL, .ref pRL, .ref pLX, .ref pLY, .int isT, .ref pOX, .ref pOY, .ref pOU, .ref pOV, .ref pNX, .ref pNY, .ref pFX, .ref pFY, .ref pBN, .int stn, .int tm, .int rd, .int tk, .int ov1, .int st1, .int bl1, .int thw, .int cg, .double qa, .double qb, .double qr])), (pS, .inl (cI, 10, .inl (pb_n so))), (pD, .inl (cD, 3, .inr (.inr (.inr (.inl depth)))))]) [0, 1, 2] rfl
  have hD9 := hD.sub (ws' := [(pm, .inr (9, [.double side, .double cut, .double skin, .double heat, .ref pX, .ref pY, .ref pU, .ref pV, .ref pM, .ref pS, .ref pK, .ref pW, .ref pD, .ref pC, .int (nI n), .int (nI nb), .int (nI nr), .ref pBI, .ref pBJ, .ref pRI, .ref pRJ, .ref pBK, .ref pBL, .ref pRL, .ref pLX, .ref pLY, .int isT, .ref pOX, .ref pOY, .ref pOU, .ref pOV, .ref pNX, .ref pNY, .ref pFX, .ref pFY, .ref pBN, .int stn, .int tm, .int rd, .int tk, .int ov1, .int st1, .int bl1, .int thw, .int cg, .double qa, .double qb, .double qr])), (pS, .inl (cI, 10, .inl (pb_n so))), (pD, .inl (cD, 3, .inr (.inr (.inr (.inl depth)))))]) [0, 1, 2] (by decide) rfl
  exact W.dret (v := (FP.dmul (FP.dadd (depth (so i)) (depth (so j))) 4602678819172646912)) hx hb hr (fun tt9 ht9 hW9 => ⟨⟨(FP.dmul (FP.dadd (depth (so i)) (depth (so j))) 4602678819172646912), (), rfl, rfl, by rw [ht9]; exact hP9, va_K.moved hW9.alike hK, hD9⟩, hS.F ht9⟩) hS.2.2 d_Model_deep_27
set_option maxHeartbeats 4000000 in
set_option maxRecDepth 100000 in
/-- sixth -/
theorem c_Model_sixth (l : Launch) (dC : Nat → ClassId) (dI : Nat → Nat → Nat) (cI cD cZ : ClassId) (sz : Nat) (pm : Nat) (pX : Nat) (pY : Nat) (pU : Nat) (pV : Nat) (pM : Nat) (pS : Nat) (pK : Nat) (pW : Nat) (pD : Nat) (pC : Nat) (pBI : Nat) (pBJ : Nat) (pRI : Nat) (pRJ : Nat) (pBK : Nat) (pBL : Nat) (pRL : Nat) (pLX : Nat) (pLY : Nat) (pOX : Nat) (pOY : Nat) (pOU : Nat) (pOV : Nat) (pNX : Nat) (pNY : Nat) (pFX : Nat) (pFY : Nat) (pBN : Nat) (side : UInt64) (cut : UInt64) (skin : UInt64) (heat : UInt64) (n : Nat) (nb : Nat) (nr : Nat) (isT : Int32) (stn : Int32) (tm : Int32) (rd : Int32) (tk : Int32) (ov1 : Int32) (st1 : Int32) (bl1 : Int32) (thw : Int32) (cg : Int32) (qa : UInt64) (qb : UInt64) (qr : UInt64) (so : Nat → Nat) (width : Nat → UInt64) (i : Nat) (j : Nat) (hn : n ≤ 10) (hi : i < n) (hj : j < n) (hso : ∀ i, i < n → so i < 3) (hwI : ∀ i, i < 3 → pb_Iw (width i)) (hrI : pb_Ir qr) : Met l y_Model_sixth w_Model_sixth ({ frames := 0, cells := 0, slots := 0, locals := 0 }) (va_Pc [.ref pm, .int (nI i), .int (nI j)] (gx_B (dC, dI) classes (gx_T cI cD cZ) [(pm, .inr (9, [.double side, .double cut, .double skin, .double heat, .ref pX, .ref pY, .ref pU, .ref pV, .ref pM, .ref pS, .ref pK, .ref pW, .ref pD, .ref pC, .int (nI n), .int (nI nb), .int (nI nr), .ref pBI, .ref pBJ, .ref pRI, .ref pRJ, .ref pBK, .ref pBL, .ref pRL, .ref pLX, .ref pLY, .int isT, .ref pOX, .ref pOY, .ref pOU, .ref pOV, .ref pNX, .ref pNY, .ref pFX, .ref pFY, .ref pBN, .int stn, .int tm, .int rd, .int tk, .int ov1, .int st1, .int bl1, .int thw, .int cg, .double qa, .double qb, .double qr])), (pS, .inl (cI, 10, .inl (pb_n so))), (pW, .inl (cD, 3, .inr (.inr (.inr (.inl width)))))] sz)) (va_Qd (fun (rr : UInt64) (uu : Unit) => rr = pb_six (pb_mid width so i j) qr) (fun (uu : Unit) t => gx_E (dC, dI) classes (gx_T cI cD cZ) (va_A [(pm, .inr (9, [.double side, .double cut, .double skin, .double heat, .ref pX, .ref pY, .ref pU, .ref pV, .ref pM, .ref pS, .ref pK, .ref pW, .ref pD, .ref pC, .int (nI n), .int (nI nb), .int (nI nr), .ref pBI, .ref pBJ, .ref pRI, .ref pRJ, .ref pBK, .ref pBL, .ref pRL, .ref pLX, .ref pLY, .int isT, .ref pOX, .ref pOY, .ref pOU, .ref pOV, .ref pNX, .ref pNY, .ref pFX, .ref pFY, .ref pBN, .int stn, .int tm, .int rd, .int tk, .int ov1, .int st1, .int bl1, .int thw, .int cg, .double qa, .double qb, .double qr])), (pS, .inl (cI, 10, .inl (pb_n so))), (pW, .inl (cD, 3, .inr (.inr (.inr (.inl width)))))] sz) [(pm, .inr (9, [.double side, .double cut, .double skin, .double heat, .ref pX, .ref pY, .ref pU, .ref pV, .ref pM, .ref pS, .ref pK, .ref pW, .ref pD, .ref pC, .int (nI n), .int (nI nb), .int (nI nr), .ref pBI, .ref pBJ, .ref pRI, .ref pRJ, .ref pBK, .ref pBL, .ref pRL, .ref pLX, .ref pLY, .int isT, .ref pOX, .ref pOY, .ref pOU, .ref pOV, .ref pNX, .ref pNY, .ref pFX, .ref pFY, .ref pBN, .int stn, .int tm, .int rd, .int tk, .int ov1, .int st1, .int bl1, .int thw, .int cg, .double qa, .double qb, .double qr])), (pS, .inl (cI, 10, .inl (pb_n so))), (pW, .inl (cD, 3, .inr (.inr (.inr (.inl width)))))] t) (va_A [(pm, .inr (9, [.double side, .double cut, .double skin, .double heat, .ref pX, .ref pY, .ref pU, .ref pV, .ref pM, .ref pS, .ref pK, .ref pW, .ref pD, .ref pC, .int (nI n), .int (nI nb), .int (nI nr), .ref pBI, .ref pBJ, .ref pRI, .ref pRJ, .ref pBK, .ref pBL, .ref pRL, .ref pLX, .ref pLY, .int isT, .ref pOX, .ref pOY, .ref pOU, .ref pOV, .ref pNX, .ref pNY, .ref pFX, .ref pFY, .ref pBN, .int stn, .int tm, .int rd, .int tk, .int ov1, .int st1, .int bl1, .int thw, .int cg, .double qa, .double qb, .double qr])), (pS, .inl (cI, 10, .inl (pb_n so))), (pW, .inl (cD, 3, .inr (.inr (.inr (.inl width)))))] sz)) 0 0 (va_A [(pm, .inr (9, [.double side, .double cut, .double skin, .double heat, .ref pX, .ref pY, .ref pU, .ref pV, .ref pM, .ref pS, .ref pK, .ref pW, .ref pD, .ref pC, .int (nI n), .int (nI nb), .int (nI nr), .ref pBI, .ref pBJ, .ref pRI, .ref pRJ, .ref pBK, .ref pBL, .ref pRL, .ref pLX, .ref pLY, .int isT, .ref pOX, .ref pOY, .ref pOU, .ref pOV, .ref pNX, .ref pNY, .ref pFX, .ref pFY, .ref pBN, .int stn, .int tm, .int rd, .int tk, .int ov1, .int st1, .int bl1, .int thw, .int cg, .double qa, .double qb, .double qr])), (pS, .inl (cI, 10, .inl (pb_n so))), (pW, .inl (cD, 3, .inr (.inr (.inr (.inl width)))))] sz) := by
  refine Met.ofW (cc := b_Model_sixth) (maxL := 7) (ret := (some .double)) (by decide) rfl ?_
  intro p e s m args below meth c s₁ B hml hv
  obtain ⟨rfl, hsz, hP, hK, hD0, hN⟩ := hv
  have hx := B.exec
  have hb := B.bytes
  have hr := B.returns
  have hts := atoms_spec (ws := w_Model_sixth) B.pre
  have hown : s.vm.findClass R_Model = some m.cls := findClass_of_methodNamed B.named
  have hlocks := B.notSynchronized
  subst hsz
  have hD := hD0.self (sz := s.heap.size)
  generalize hAe : va_A [(pm, .inr (9, [.double side, .double cut, .double skin, .double heat, .ref pX, .ref pY, .ref pU, .ref pV, .ref pM, .ref pS, .ref pK, .ref pW, .ref pD, .ref pC, .int (nI n), .int (nI nb), .int (nI nr), .ref pBI, .ref pBJ, .ref pRI, .ref pRJ, .ref pBK, .ref pBL, .ref pRL, .ref pLX, .ref pLY, .int isT, .ref pOX, .ref pOY, .ref pOU, .ref pOV, .ref pNX, .ref pNY, .ref pFX, .ref pFY, .ref pBN, .int stn, .int tm, .int rd, .int tk, .int ov1, .int st1, .int bl1, .int thw, .int cg, .double qa, .double qb, .double qr])), (pS, .inl (cI, 10, .inl (pb_n so))), (pW, .inl (cD, 3, .inr (.inr (.inr (.inl width)))))] s.heap.size = A at hD ⊢
  have hA : ∀ q : Nat, s.heap.size ≤ q → A q := fun q h => by rw [← hAe]; exact Or.inr h
  have hS : va_S A s.heap s.heap [] := va_S.rf
  have hl := lv_entry ([.ref pm, .int (nI i), .int (nI j)]) (n := 7) (Nat.le_of_ble_eq_true rfl)
  rw [lg_entry_eq]
  generalize (lg_sl ([.ref pm, .int (nI i), .int (nI j)]) ++ List.replicate (7 - (lg_sl ([.ref pm, .int (nI i), .int (nI j)])).length) Slot.unset).toArray = ls at hl ⊢
  have hl : lv_has ls 7 [(0, .ref pm), (1, .int (nI i)), (2, .int (nI j))] := hl
  obtain ⟨H, hH⟩ : ∃ H, H = s.heap := ⟨_, rfl⟩
  rw [← hH] at hP
  have hS : va_S A s.heap H [] := by rw [hH]; exact hS
  refine gx_start hH ?_
  refine lv_aload_n hx hb d_Model_sixth_0 rfl (lv_at hl 0 rfl) ?_
  refine va_get (D := (dC, dI)) (ci := 9) (v := .ref pW) (C := R_Model) (T := F_Model) (N := 48) hx hb hts (fun w h => List.mem_cons_of_mem _ (i_Model w h)) hown hK hP 0 rfl rfl 11 (by decide) (hts _ (List.mem_cons_of_mem _ kw_852)) (fun _ h9 => h9) rfl d_Model_sixth_1 ?_
  refine lv_aload_n hx hb d_Model_sixth_4 rfl (lv_at hl 0 rfl) ?_
  refine va_get (D := (dC, dI)) (ci := 9) (v := .ref pS) (C := R_Model) (T := F_Model) (N := 48) hx hb hts (fun w h => List.mem_cons_of_mem _ (i_Model w h)) hown hK hP 0 rfl rfl 9 (by decide) (hts _ (List.mem_cons_of_mem _ kw_850)) (fun _ h9 => h9) rfl d_Model_sixth_5 ?_
  refine lv_iload_n hx hb d_Model_sixth_8 rfl (lv_at hl 1 rfl) ?_
  refine gx_iald hx hb hK hP 1 0 rfl rfl (by omega) (by decide) d_Model_sixth_9 ?_
  refine gx_dald hx hb hK hP 2 1 rfl rfl (hso i (by omega)) (by decide) d_Model_sixth_10 ?_
  have g_1 := hwI (so i) (hso i (by omega))
  refine lv_aload_n hx hb d_Model_sixth_11 rfl (lv_at hl 0 rfl) ?_
  refine va_get (D := (dC, dI)) (ci := 9) (v := .ref pW) (C := R_Model) (T := F_Model) (N := 48) hx hb hts (fun w h => List.mem_cons_of_mem _ (i_Model w h)) hown hK hP 0 rfl rfl 11 (by decide) (hts _ (List.mem_cons_of_mem _ kw_852)) (fun _ h9 => h9) rfl d_Model_sixth_12 ?_
  refine lv_aload_n hx hb d_Model_sixth_15 rfl (lv_at hl 0 rfl) ?_
  refine va_get (D := (dC, dI)) (ci := 9) (v := .ref pS) (C := R_Model) (T := F_Model) (N := 48) hx hb hts (fun w h => List.mem_cons_of_mem _ (i_Model w h)) hown hK hP 0 rfl rfl 9 (by decide) (hts _ (List.mem_cons_of_mem _ kw_850)) (fun _ h9 => h9) rfl d_Model_sixth_16 ?_
  refine lv_iload_n hx hb d_Model_sixth_19 rfl (lv_at hl 2 rfl) ?_
  refine gx_iald hx hb hK hP 1 0 rfl rfl (by omega) (by decide) d_Model_sixth_20 ?_
  refine gx_dald hx hb hK hP 2 1 rfl rfl (hso j (by omega)) (by decide) d_Model_sixth_21 ?_
  have g_2 := hwI (so j) (hso j (by omega))
  have g_3 := fp_I_add (fp_d 1 1072) (fp_d 1 1077) g_1 g_2 (by decide +kernel)
  refine lv_dadd hx hb d_Model_sixth_22 g_3.n ?_
  refine lv_ldc2d (v := 4602678819172646912) hx hb hown (hts (.constantDouble R_Model 7 4602678819172646912) (by decide +kernel)) d_Model_sixth_23 ?_
  have g_4 := fp_const (a := 4602678819172646912) (T := (fp_d 1 1073)) (by decide +kernel)
  have g_5 := fp_I_mul (fp_d 1 1071) (fp_d 1 1076) g_3 g_4 (by decide +kernel)
  refine lv_dmul hx hb d_Model_sixth_26 g_5.n ?_
  refine lv_dstore_n (lv' := [(3, .double (FP.dmul (FP.dadd (width (so i)) (width (so j))) 4602678819172646912)), (0, .ref pm), (1, .int (nI i)), (2, .int (nI j))]) hx hb d_Model_sixth_27 rfl hl (by decide) rfl (fun ls hl => ?_)
  refine lv_dload_n hx hb d_Model_sixth_28 rfl (lv_at hl 0 rfl) ?_
  refine lv_dload_n hx hb d_Model_sixth_29 rfl (lv_at hl 0 rfl) ?_
  have g_6 := fp_I_mul (fp_d 1 1068) (fp_d 1 1078) g_5 g_5 (by decide +kernel)
  refine lv_dmul hx hb d_Model_sixth_30 g_6.n ?_
  refine lv_aload_n hx hb d_Model_sixth_31 rfl (lv_at hl 1 rfl) ?_
  refine va_get (D := (dC, dI)) (ci := 9) (v := .double qr) (C := R_Model) (T := F_Model) (N := 48) hx hb hts (fun w h => List.mem_cons_of_mem _ (i_Model w h)) hown hK hP 0 rfl rfl 47 (by decide) (hts _ (List.mem_cons_of_mem _ kw_888)) (fun _ h9 => h9) rfl d_Model_sixth_32 ?_
  have g_7 := fp_I_div (fp_d 7430739 1036) (fp_d 1 1090) g_6 hrI (by decide +kernel)
  refine lv_ddiv hx hb d_Model_sixth_35 g_7.n ?_
  refine lv_dstore (lv' := [(5, .double (FP.ddiv (FP.dmul (FP.dmul (FP.dadd (width (so i)) (width (so j))) 4602678819172646912) (FP.dmul (FP.dadd (width (so i)) (width (so j))) 4602678819172646912)) qr)), (3, .double (FP.dmul (FP.dadd (width (so i)) (width (so j))) 4602678819172646912)), (0, .ref pm), (1, .int (nI i)), (2, .int (nI j))]) hx hb d_Model_sixth_36 hl (by decide) rfl (fun ls hl => ?_)
  refine lv_dload hx hb d_Model_sixth_38 (lv_at hl 0 rfl) ?_
  refine lv_dload hx hb d_Model_sixth_40 (lv_at hl 0 rfl) ?_
  have g_8 := fp_I_mul (fp_d 3291123 1022) (fp_d 1 1106) g_7 g_7 (by decide +kernel)
  refine lv_dmul hx hb d_Model_sixth_42 g_8.n ?_
  refine lv_dload hx hb d_Model_sixth_43 (lv_at hl 0 rfl) ?_
  have g_9 := fp_I_mul (fp_d 11661279 1005) (fp_d 1 1122) g_8 g_7 (by decide +kernel)
  refine lv_dmul hx hb d_Model_sixth_45 g_9.n ?_
  have hP9 := hP.sub (ws' := [(pm, .inr (9, [.double side, .double cut, .double skin, .double heat, .ref pX, .ref pY, .ref pU, .ref pV, .ref pM, .ref pS, .ref pK, .ref pW, .ref pD, .ref pC, .int (nI n), .int (nI nb), .int (nI nr), .ref pBI, .ref pBJ, .ref pRI, .ref pRJ, .ref pBK, .ref pBL, .ref pRL, .ref pLX, .ref pLY, .int isT, .ref pOX, .ref pOY, .ref pOU, .ref pOV, .ref pNX, .ref pNY, .ref pFX, .ref pFY, .ref pBN, .int stn, .int tm, .int rd, .int tk, .int ov1, .int st1, .int bl1, .int thw, .int cg, .double qa, .double qb, .double qr])), (pS, .inl (cI, 10, .inl (pb_n so))), (pW, .inl (cD, 3, .inr (.inr (.inr (.inl width)))))]) [0, 1, 2] rfl
  have hD9 := hD.sub (ws' := [(pm, .inr (9, [.double side, .double cut, .double skin, .double heat, .ref pX, .ref pY, .ref pU, .ref pV, .ref pM, .ref pS, .ref pK, .ref pW, .ref pD, .ref pC, .int (nI n), .int (nI nb), .int (nI nr), .ref pBI, .ref pBJ, .ref pRI, .ref pRJ, .ref pBK, .ref pBL, .ref pRL, .ref pLX, .ref pLY, .int isT, .ref pOX, .ref pOY, .ref pOU, .ref pOV, .ref pNX, .ref pNY, .ref pFX, .ref pFY, .ref pBN, .int stn, .int tm, .int rd, .int tk, .int ov1, .int st1, .int bl1, .int thw, .int cg, .double qa, .double qb, .double qr])), (pS, .inl (cI, 10, .inl (pb_n so))), (pW, .inl (cD, 3, .inr (.inr (.inr (.inl width)))))]) [0, 1, 2] (by decide) rfl
  exact W.dret (v := (FP.dmul (FP.dmul (FP.ddiv (FP.dmul (FP.dmul (FP.dadd (width (so i)) (width (so j))) 4602678819172646912) (FP.dmul (FP.dadd (width (so i)) (width (so j))) 4602678819172646912)) qr) (FP.ddiv (FP.dmul (FP.dmul (FP.dadd (width (so i)) (width (so j))) 4602678819172646912) (FP.dmul (FP.dadd (width (so i)) (width (so j))) 4602678819172646912)) qr)) (FP.ddiv (FP.dmul (FP.dmul (FP.dadd (width (so i)) (width (so j))) 4602678819172646912) (FP.dmul (FP.dadd (width (so i)) (width (so j))) 4602678819172646912)) qr))) hx hb hr (fun tt9 ht9 hW9 => ⟨⟨(FP.dmul (FP.dmul (FP.ddiv (FP.dmul (FP.dmul (FP.dadd (width (so i)) (width (so j))) 4602678819172646912) (FP.dmul (FP.dadd (width (so i)) (width (so j))) 4602678819172646912)) qr) (FP.ddiv (FP.dmul (FP.dmul (FP.dadd (width (so i)) (width (so j))) 4602678819172646912) (FP.dmul (FP.dadd (width (so i)) (width (so j))) 4602678819172646912)) qr)) (FP.ddiv (FP.dmul (FP.dmul (FP.dadd (width (so i)) (width (so j))) 4602678819172646912) (FP.dmul (FP.dadd (width (so i)) (width (so j))) 4602678819172646912)) qr)), (), rfl, rfl, by rw [ht9]; exact hP9, va_K.moved hW9.alike hK, hD9⟩, hS.F ht9⟩) hS.2.2 d_Model_sixth_46
set_option maxHeartbeats 4000000 in
set_option maxRecDepth 100000 in
/-- charges -/
theorem c_Model_charges (l : Launch) (dC : Nat → ClassId) (dI : Nat → Nat → Nat) (cI cD cZ : ClassId) (sz : Nat) (pm : Nat) (pX : Nat) (pY : Nat) (pU : Nat) (pV : Nat) (pM : Nat) (pS : Nat) (pK : Nat) (pW : Nat) (pD : Nat) (pC : Nat) (pBI : Nat) (pBJ : Nat) (pRI : Nat) (pRJ : Nat) (pBK : Nat) (pBL : Nat) (pRL : Nat) (pLX : Nat) (pLY : Nat) (pOX : Nat) (pOY : Nat) (pOU : Nat) (pOV : Nat) (pNX : Nat) (pNY : Nat) (pFX : Nat) (pFY : Nat) (pBN : Nat) (side : UInt64) (cut : UInt64) (skin : UInt64) (heat : UInt64) (n : Nat) (nb : Nat) (nr : Nat) (isT : Int32) (stn : Int32) (tm : Int32) (rd : Int32) (tk : Int32) (ov1 : Int32) (st1 : Int32) (bl1 : Int32) (thw : Int32) (cg : Int32) (qa : UInt64) (qb : UInt64) (qr : UInt64) (so : Nat → Nat) (charge : Nat → UInt64) (i : Nat) (j : Nat) (hn : n ≤ 10) (hi : i < n) (hj : j < n) (hso : ∀ i, i < n → so i < 3) (hcI : ∀ i, i < 3 → pb_Ic (charge i)) : Met l y_Model_charges w_Model_charges ({ frames := 0, cells := 0, slots := 0, locals := 0 }) (va_Pc [.ref pm, .int (nI i), .int (nI j)] (gx_B (dC, dI) classes (gx_T cI cD cZ) [(pm, .inr (9, [.double side, .double cut, .double skin, .double heat, .ref pX, .ref pY, .ref pU, .ref pV, .ref pM, .ref pS, .ref pK, .ref pW, .ref pD, .ref pC, .int (nI n), .int (nI nb), .int (nI nr), .ref pBI, .ref pBJ, .ref pRI, .ref pRJ, .ref pBK, .ref pBL, .ref pRL, .ref pLX, .ref pLY, .int isT, .ref pOX, .ref pOY, .ref pOU, .ref pOV, .ref pNX, .ref pNY, .ref pFX, .ref pFY, .ref pBN, .int stn, .int tm, .int rd, .int tk, .int ov1, .int st1, .int bl1, .int thw, .int cg, .double qa, .double qb, .double qr])), (pS, .inl (cI, 10, .inl (pb_n so))), (pC, .inl (cD, 3, .inr (.inr (.inr (.inl charge)))))] sz)) (va_Qd (fun (rr : UInt64) (uu : Unit) => rr = pb_chg charge so i j) (fun (uu : Unit) t => gx_E (dC, dI) classes (gx_T cI cD cZ) (va_A [(pm, .inr (9, [.double side, .double cut, .double skin, .double heat, .ref pX, .ref pY, .ref pU, .ref pV, .ref pM, .ref pS, .ref pK, .ref pW, .ref pD, .ref pC, .int (nI n), .int (nI nb), .int (nI nr), .ref pBI, .ref pBJ, .ref pRI, .ref pRJ, .ref pBK, .ref pBL, .ref pRL, .ref pLX, .ref pLY, .int isT, .ref pOX, .ref pOY, .ref pOU, .ref pOV, .ref pNX, .ref pNY, .ref pFX, .ref pFY, .ref pBN, .int stn, .int tm, .int rd, .int tk, .int ov1, .int st1, .int bl1, .int thw, .int cg, .double qa, .double qb, .double qr])), (pS, .inl (cI, 10, .inl (pb_n so))), (pC, .inl (cD, 3, .inr (.inr (.inr (.inl charge)))))] sz) [(pm, .inr (9, [.double side, .double cut, .double skin, .double heat, .ref pX, .ref pY, .ref pU, .ref pV, .ref pM, .ref pS, .ref pK, .ref pW, .ref pD, .ref pC, .int (nI n), .int (nI nb), .int (nI nr), .ref pBI, .ref pBJ, .ref pRI, .ref pRJ, .ref pBK, .ref pBL, .ref pRL, .ref pLX, .ref pLY, .int isT, .ref pOX, .ref pOY, .ref pOU, .ref pOV, .ref pNX, .ref pNY, .ref pFX, .ref pFY, .ref pBN, .int stn, .int tm, .int rd, .int tk, .int ov1, .int st1, .int bl1, .int thw, .int cg, .double qa, .double qb, .double qr])), (pS, .inl (cI, 10, .inl (pb_n so))), (pC, .inl (cD, 3, .inr (.inr (.inr (.inl charge)))))] t) (va_A [(pm, .inr (9, [.double side, .double cut, .double skin, .double heat, .ref pX, .ref pY, .ref pU, .ref pV, .ref pM, .ref pS, .ref pK, .ref pW, .ref pD, .ref pC, .int (nI n), .int (nI nb), .int (nI nr), .ref pBI, .ref pBJ, .ref pRI, .ref pRJ, .ref pBK, .ref pBL, .ref pRL, .ref pLX, .ref pLY, .int isT, .ref pOX, .ref pOY, .ref pOU, .ref pOV, .ref pNX, .ref pNY, .ref pFX, .ref pFY, .ref pBN, .int stn, .int tm, .int rd, .int tk, .int ov1, .int st1, .int bl1, .int thw, .int cg, .double qa, .double qb, .double qr])), (pS, .inl (cI, 10, .inl (pb_n so))), (pC, .inl (cD, 3, .inr (.inr (.inr (.inl charge)))))] sz)) 0 0 (va_A [(pm, .inr (9, [.double side, .double cut, .double skin, .double heat, .ref pX, .ref pY, .ref pU, .ref pV, .ref pM, .ref pS, .ref pK, .ref pW, .ref pD, .ref pC, .int (nI n), .int (nI nb), .int (nI nr), .ref pBI, .ref pBJ, .ref pRI, .ref pRJ, .ref pBK, .ref pBL, .ref pRL, .ref pLX, .ref pLY, .int isT, .ref pOX, .ref pOY, .ref pOU, .ref pOV, .ref pNX, .ref pNY, .ref pFX, .ref pFY, .ref pBN, .int stn, .int tm, .int rd, .int tk, .int ov1, .int st1, .int bl1, .int thw, .int cg, .double qa, .double qb, .double qr])), (pS, .inl (cI, 10, .inl (pb_n so))), (pC, .inl (cD, 3, .inr (.inr (.inr (.inl charge)))))] sz) := by
  refine Met.ofW (cc := b_Model_charges) (maxL := 3) (ret := (some .double)) (by decide) rfl ?_
  intro p e s m args below meth c s₁ B hml hv
  obtain ⟨rfl, hsz, hP, hK, hD0, hN⟩ := hv
  have hx := B.exec
  have hb := B.bytes
  have hr := B.returns
  have hts := atoms_spec (ws := w_Model_charges) B.pre
  have hown : s.vm.findClass R_Model = some m.cls := findClass_of_methodNamed B.named
  have hlocks := B.notSynchronized
  subst hsz
  have hD := hD0.self (sz := s.heap.size)
  generalize hAe : va_A [(pm, .inr (9, [.double side, .double cut, .double skin, .double heat, .ref pX, .ref pY, .ref pU, .ref pV, .ref pM, .ref pS, .ref pK, .ref pW, .ref pD, .ref pC, .int (nI n), .int (nI nb), .int (nI nr), .ref pBI, .ref pBJ, .ref pRI, .ref pRJ, .ref pBK, .ref pBL, .ref pRL, .ref pLX, .ref pLY, .int isT, .ref pOX, .ref pOY, .ref pOU, .ref pOV, .ref pNX, .ref pNY, .ref pFX, .ref pFY, .ref pBN, .int stn, .int tm, .int rd, .int tk, .int ov1, .int st1, .int bl1, .int thw, .int cg, .double qa, .double qb, .double qr])), (pS, .inl (cI, 10, .inl (pb_n so))), (pC, .inl (cD, 3, .inr (.inr (.inr (.inl charge)))))] s.heap.size = A at hD ⊢
  have hA : ∀ q : Nat, s.heap.size ≤ q → A q := fun q h => by rw [← hAe]; exact Or.inr h
  have hS : va_S A s.heap s.heap [] := va_S.rf
  have hl := lv_entry ([.ref pm, .int (nI i), .int (nI j)]) (n := 3) (Nat.le_of_ble_eq_true rfl)
  rw [lg_entry_eq]
  generalize (lg_sl ([.ref pm, .int (nI i), .int (nI j)]) ++ List.replicate (3 - (lg_sl ([.ref pm, .int (nI i), .int (nI j)])).length) Slot.unset).toArray = ls at hl ⊢
  have hl : lv_has ls 3 [(0, .ref pm), (1, .int (nI i)), (2, .int (nI j))] := hl
  obtain ⟨H, hH⟩ : ∃ H, H = s.heap := ⟨_, rfl⟩
  rw [← hH] at hP
  have hS : va_S A s.heap H [] := by rw [hH]; exact hS
  refine gx_start hH ?_
  refine lv_aload_n hx hb d_Model_charges_0 rfl (lv_at hl 0 rfl) ?_
  refine va_get (D := (dC, dI)) (ci := 9) (v := .ref pC) (C := R_Model) (T := F_Model) (N := 48) hx hb hts (fun w h => List.mem_cons_of_mem _ (i_Model w h)) hown hK hP 0 rfl rfl 13 (by decide) (hts _ (List.mem_cons_of_mem _ kw_854)) (fun _ h9 => h9) rfl d_Model_charges_1 ?_
  refine lv_aload_n hx hb d_Model_charges_4 rfl (lv_at hl 0 rfl) ?_
  refine va_get (D := (dC, dI)) (ci := 9) (v := .ref pS) (C := R_Model) (T := F_Model) (N := 48) hx hb hts (fun w h => List.mem_cons_of_mem _ (i_Model w h)) hown hK hP 0 rfl rfl 9 (by decide) (hts _ (List.mem_cons_of_mem _ kw_850)) (fun _ h9 => h9) rfl d_Model_charges_5 ?_
  refine lv_iload_n hx hb d_Model_charges_8 rfl (lv_at hl 1 rfl) ?_
  refine gx_iald hx hb hK hP 1 0 rfl rfl (by omega) (by decide) d_Model_charges_9 ?_
  refine gx_dald hx hb hK hP 2 1 rfl rfl (hso i (by omega)) (by decide) d_Model_charges_10 ?_
  have g_1 := hcI (so i) (hso i (by omega))
  refine lv_aload_n hx hb d_Model_charges_11 rfl (lv_at hl 0 rfl) ?_
  refine va_get (D := (dC, dI)) (ci := 9) (v := .ref pC) (C := R_Model) (T := F_Model) (N := 48) hx hb hts (fun w h => List.mem_cons_of_mem _ (i_Model w h)) hown hK hP 0 rfl rfl 13 (by decide) (hts _ (List.mem_cons_of_mem _ kw_854)) (fun _ h9 => h9) rfl d_Model_charges_12 ?_
  refine lv_aload_n hx hb d_Model_charges_15 rfl (lv_at hl 0 rfl) ?_
  refine va_get (D := (dC, dI)) (ci := 9) (v := .ref pS) (C := R_Model) (T := F_Model) (N := 48) hx hb hts (fun w h => List.mem_cons_of_mem _ (i_Model w h)) hown hK hP 0 rfl rfl 9 (by decide) (hts _ (List.mem_cons_of_mem _ kw_850)) (fun _ h9 => h9) rfl d_Model_charges_16 ?_
  refine lv_iload_n hx hb d_Model_charges_19 rfl (lv_at hl 2 rfl) ?_
  refine gx_iald hx hb hK hP 1 0 rfl rfl (by omega) (by decide) d_Model_charges_20 ?_
  refine gx_dald hx hb hK hP 2 1 rfl rfl (hso j (by omega)) (by decide) d_Model_charges_21 ?_
  have g_2 := hcI (so j) (hso j (by omega))
  have g_3 := fp_I_mul (fp_d (-1) 1080) (fp_d 1 1080) g_1 g_2 (by decide +kernel)
  refine lv_dmul hx hb d_Model_charges_22 g_3.n ?_
  have hP9 := hP.sub (ws' := [(pm, .inr (9, [.double side, .double cut, .double skin, .double heat, .ref pX, .ref pY, .ref pU, .ref pV, .ref pM, .ref pS, .ref pK, .ref pW, .ref pD, .ref pC, .int (nI n), .int (nI nb), .int (nI nr), .ref pBI, .ref pBJ, .ref pRI, .ref pRJ, .ref pBK, .ref pBL, .ref pRL, .ref pLX, .ref pLY, .int isT, .ref pOX, .ref pOY, .ref pOU, .ref pOV, .ref pNX, .ref pNY, .ref pFX, .ref pFY, .ref pBN, .int stn, .int tm, .int rd, .int tk, .int ov1, .int st1, .int bl1, .int thw, .int cg, .double qa, .double qb, .double qr])), (pS, .inl (cI, 10, .inl (pb_n so))), (pC, .inl (cD, 3, .inr (.inr (.inr (.inl charge)))))]) [0, 1, 2] rfl
  have hD9 := hD.sub (ws' := [(pm, .inr (9, [.double side, .double cut, .double skin, .double heat, .ref pX, .ref pY, .ref pU, .ref pV, .ref pM, .ref pS, .ref pK, .ref pW, .ref pD, .ref pC, .int (nI n), .int (nI nb), .int (nI nr), .ref pBI, .ref pBJ, .ref pRI, .ref pRJ, .ref pBK, .ref pBL, .ref pRL, .ref pLX, .ref pLY, .int isT, .ref pOX, .ref pOY, .ref pOU, .ref pOV, .ref pNX, .ref pNY, .ref pFX, .ref pFY, .ref pBN, .int stn, .int tm, .int rd, .int tk, .int ov1, .int st1, .int bl1, .int thw, .int cg, .double qa, .double qb, .double qr])), (pS, .inl (cI, 10, .inl (pb_n so))), (pC, .inl (cD, 3, .inr (.inr (.inr (.inl charge)))))]) [0, 1, 2] (by decide) rfl
  exact W.dret (v := (FP.dmul (charge (so i)) (charge (so j)))) hx hb hr (fun tt9 ht9 hW9 => ⟨⟨(FP.dmul (charge (so i)) (charge (so j))), (), rfl, rfl, by rw [ht9]; exact hP9, va_K.moved hW9.alike hK, hD9⟩, hS.F ht9⟩) hS.2.2 d_Model_charges_23
