theorem d_Model_kick_0 : decode b_Model_kick 0 = .ok (.iconst 0, 1) := by decide +kernel
theorem d_Model_kick_1 : decode b_Model_kick 1 = .ok (.istore_n 3, 1) := by decide +kernel
theorem d_Model_kick_2 : decode b_Model_kick 2 = .ok (.iload_n 3, 1) := by decide +kernel
theorem d_Model_kick_3 : decode b_Model_kick 3 = .ok (.aload_n 0, 1) := by decide +kernel
theorem d_Model_kick_4 : decode b_Model_kick 4 = .ok (.getfield 119, 3) := by decide +kernel
theorem d_Model_kick_7 : decode b_Model_kick 7 = .ok (.if_icmp .ge 85, 3) := by decide +kernel
theorem d_Model_kick_10 : decode b_Model_kick 10 = .ok (.aload_n 0, 1) := by decide +kernel
theorem d_Model_kick_11 : decode b_Model_kick 11 = .ok (.getfield 40, 3) := by decide +kernel
theorem d_Model_kick_14 : decode b_Model_kick 14 = .ok (.iload_n 3, 1) := by decide +kernel
theorem d_Model_kick_15 : decode b_Model_kick 15 = .ok (.baload, 1) := by decide +kernel
theorem d_Model_kick_16 : decode b_Model_kick 16 = .ok (.ifCond .eq 6, 3) := by decide +kernel
theorem d_Model_kick_19 : decode b_Model_kick 19 = .ok (.goto 67, 3) := by decide +kernel
theorem d_Model_kick_22 : decode b_Model_kick 22 = .ok (.aload_n 0, 1) := by decide +kernel
theorem d_Model_kick_23 : decode b_Model_kick 23 = .ok (.getfield 27, 3) := by decide +kernel
theorem d_Model_kick_26 : decode b_Model_kick 26 = .ok (.iload_n 3, 1) := by decide +kernel
theorem d_Model_kick_27 : decode b_Model_kick 27 = .ok (.aload_n 0, 1) := by decide +kernel
theorem d_Model_kick_28 : decode b_Model_kick 28 = .ok (.getfield 27, 3) := by decide +kernel
theorem d_Model_kick_31 : decode b_Model_kick 31 = .ok (.iload_n 3, 1) := by decide +kernel
theorem d_Model_kick_32 : decode b_Model_kick 32 = .ok (.daload, 1) := by decide +kernel
theorem d_Model_kick_33 : decode b_Model_kick 33 = .ok (.ldc2_w 7, 3) := by decide +kernel
theorem d_Model_kick_36 : decode b_Model_kick 36 = .ok (.dload_n 1, 1) := by decide +kernel
theorem d_Model_kick_37 : decode b_Model_kick 37 = .ok (.dmul, 1) := by decide +kernel
theorem d_Model_kick_38 : decode b_Model_kick 38 = .ok (.aload_n 0, 1) := by decide +kernel
theorem d_Model_kick_39 : decode b_Model_kick 39 = .ok (.getfield 98, 3) := by decide +kernel
theorem d_Model_kick_42 : decode b_Model_kick 42 = .ok (.iload_n 3, 1) := by decide +kernel
theorem d_Model_kick_43 : decode b_Model_kick 43 = .ok (.daload, 1) := by decide +kernel
theorem d_Model_kick_44 : decode b_Model_kick 44 = .ok (.aload_n 0, 1) := by decide +kernel
theorem d_Model_kick_45 : decode b_Model_kick 45 = .ok (.getfield 33, 3) := by decide +kernel
theorem d_Model_kick_48 : decode b_Model_kick 48 = .ok (.iload_n 3, 1) := by decide +kernel
theorem d_Model_kick_49 : decode b_Model_kick 49 = .ok (.daload, 1) := by decide +kernel
theorem d_Model_kick_50 : decode b_Model_kick 50 = .ok (.ddiv, 1) := by decide +kernel
theorem d_Model_kick_51 : decode b_Model_kick 51 = .ok (.dmul, 1) := by decide +kernel
theorem d_Model_kick_52 : decode b_Model_kick 52 = .ok (.dadd, 1) := by decide +kernel
theorem d_Model_kick_53 : decode b_Model_kick 53 = .ok (.dastore, 1) := by decide +kernel
theorem d_Model_kick_54 : decode b_Model_kick 54 = .ok (.aload_n 0, 1) := by decide +kernel
theorem d_Model_kick_55 : decode b_Model_kick 55 = .ok (.getfield 30, 3) := by decide +kernel
theorem d_Model_kick_58 : decode b_Model_kick 58 = .ok (.iload_n 3, 1) := by decide +kernel
theorem d_Model_kick_59 : decode b_Model_kick 59 = .ok (.aload_n 0, 1) := by decide +kernel
theorem d_Model_kick_60 : decode b_Model_kick 60 = .ok (.getfield 30, 3) := by decide +kernel
theorem d_Model_kick_63 : decode b_Model_kick 63 = .ok (.iload_n 3, 1) := by decide +kernel
theorem d_Model_kick_64 : decode b_Model_kick 64 = .ok (.daload, 1) := by decide +kernel
theorem d_Model_kick_65 : decode b_Model_kick 65 = .ok (.ldc2_w 7, 3) := by decide +kernel
theorem d_Model_kick_68 : decode b_Model_kick 68 = .ok (.dload_n 1, 1) := by decide +kernel
theorem d_Model_kick_69 : decode b_Model_kick 69 = .ok (.dmul, 1) := by decide +kernel
theorem d_Model_kick_70 : decode b_Model_kick 70 = .ok (.aload_n 0, 1) := by decide +kernel
theorem d_Model_kick_71 : decode b_Model_kick 71 = .ok (.getfield 101, 3) := by decide +kernel
theorem d_Model_kick_74 : decode b_Model_kick 74 = .ok (.iload_n 3, 1) := by decide +kernel
theorem d_Model_kick_75 : decode b_Model_kick 75 = .ok (.daload, 1) := by decide +kernel
theorem d_Model_kick_76 : decode b_Model_kick 76 = .ok (.aload_n 0, 1) := by decide +kernel
theorem d_Model_kick_77 : decode b_Model_kick 77 = .ok (.getfield 33, 3) := by decide +kernel
theorem d_Model_kick_80 : decode b_Model_kick 80 = .ok (.iload_n 3, 1) := by decide +kernel
theorem d_Model_kick_81 : decode b_Model_kick 81 = .ok (.daload, 1) := by decide +kernel
theorem d_Model_kick_82 : decode b_Model_kick 82 = .ok (.ddiv, 1) := by decide +kernel
theorem d_Model_kick_83 : decode b_Model_kick 83 = .ok (.dmul, 1) := by decide +kernel
theorem d_Model_kick_84 : decode b_Model_kick 84 = .ok (.dadd, 1) := by decide +kernel
theorem d_Model_kick_85 : decode b_Model_kick 85 = .ok (.dastore, 1) := by decide +kernel
theorem d_Model_kick_86 : decode b_Model_kick 86 = .ok (.iinc 3 1, 3) := by decide +kernel
theorem d_Model_kick_89 : decode b_Model_kick 89 = .ok (.goto (-87), 3) := by decide +kernel
theorem d_Model_kick_92 : decode b_Model_kick 92 = .ok (.return_, 1) := by decide +kernel
theorem d_Model_blown_0 : decode b_Model_blown 0 = .ok (.iconst 0, 1) := by decide +kernel
theorem d_Model_blown_1 : decode b_Model_blown 1 = .ok (.istore_n 1, 1) := by decide +kernel
theorem d_Model_blown_2 : decode b_Model_blown 2 = .ok (.iload_n 1, 1) := by decide +kernel
theorem d_Model_blown_3 : decode b_Model_blown 3 = .ok (.aload_n 0, 1) := by decide +kernel
theorem d_Model_blown_4 : decode b_Model_blown 4 = .ok (.getfield 119, 3) := by decide +kernel
theorem d_Model_blown_7 : decode b_Model_blown 7 = .ok (.if_icmp .ge 47, 3) := by decide +kernel
theorem d_Model_blown_10 : decode b_Model_blown 10 = .ok (.aload_n 0, 1) := by decide +kernel
theorem d_Model_blown_11 : decode b_Model_blown 11 = .ok (.getfield 27, 3) := by decide +kernel
theorem d_Model_blown_14 : decode b_Model_blown 14 = .ok (.iload_n 1, 1) := by decide +kernel
theorem d_Model_blown_15 : decode b_Model_blown 15 = .ok (.daload, 1) := by decide +kernel
theorem d_Model_blown_16 : decode b_Model_blown 16 = .ok (.ldc2_w 219, 3) := by decide +kernel
theorem d_Model_blown_19 : decode b_Model_blown 19 = .ok (.ldc2_w 221, 3) := by decide +kernel
theorem d_Model_blown_22 : decode b_Model_blown 22 = .ok (.invokestatic 146, 3) := by decide +kernel
theorem d_Model_blown_25 : decode b_Model_blown 25 = .ok (.ifCond .eq 21, 3) := by decide +kernel
theorem d_Model_blown_28 : decode b_Model_blown 28 = .ok (.aload_n 0, 1) := by decide +kernel
theorem d_Model_blown_29 : decode b_Model_blown 29 = .ok (.getfield 30, 3) := by decide +kernel
theorem d_Model_blown_32 : decode b_Model_blown 32 = .ok (.iload_n 1, 1) := by decide +kernel
theorem d_Model_blown_33 : decode b_Model_blown 33 = .ok (.daload, 1) := by decide +kernel
theorem d_Model_blown_34 : decode b_Model_blown 34 = .ok (.ldc2_w 219, 3) := by decide +kernel
theorem d_Model_blown_37 : decode b_Model_blown 37 = .ok (.ldc2_w 221, 3) := by decide +kernel
theorem d_Model_blown_40 : decode b_Model_blown 40 = .ok (.invokestatic 146, 3) := by decide +kernel
theorem d_Model_blown_43 : decode b_Model_blown 43 = .ok (.ifCond .ne 5, 3) := by decide +kernel
theorem d_Model_blown_46 : decode b_Model_blown 46 = .ok (.iconst 1, 1) := by decide +kernel
theorem d_Model_blown_47 : decode b_Model_blown 47 = .ok (.ireturn, 1) := by decide +kernel
theorem d_Model_blown_48 : decode b_Model_blown 48 = .ok (.iinc 1 1, 3) := by decide +kernel
theorem d_Model_blown_51 : decode b_Model_blown 51 = .ok (.goto (-49), 3) := by decide +kernel
theorem d_Model_blown_54 : decode b_Model_blown 54 = .ok (.iconst 0, 1) := by decide +kernel
theorem d_Model_blown_55 : decode b_Model_blown 55 = .ok (.ireturn, 1) := by decide +kernel
set_option maxHeartbeats 4000000 in
set_option maxRecDepth 100000 in
/-- kick -/
theorem c_Model_kick (l : Launch) (dC : Nat → ClassId) (dI : Nat → Nat → Nat) (cI cD cZ : ClassId) (sz : Nat) (pm : Nat) (pX : Nat) (pY : Nat) (pU : Nat) (pV : Nat) (pM : Nat) (pS : Nat) (pK : Nat) (pW : Nat) (pD : Nat) (pC : Nat) (pBI : Nat) (pBJ : Nat) (pRI : Nat) (pRJ : Nat) (pBK : Nat) (pBL : Nat) (pRL : Nat) (pLX : Nat) (pLY : Nat) (pOX : Nat) (pOY : Nat) (pOU : Nat) (pOV : Nat) (pNX : Nat) (pNY : Nat) (pFX : Nat) (pFY : Nat) (pBN : Nat) (side : UInt64) (cut : UInt64) (skin : UInt64) (heat : UInt64) (n : Nat) (nb : Nat) (nr : Nat) (isT : Int32) (stn : Int32) (tm : Int32) (rd : Int32) (tk : Int32) (ov1 : Int32) (st1 : Int32) (bl1 : Int32) (thw : Int32) (cg : Int32) (qa : UInt64) (qb : UInt64) (qr : UInt64) (u : Nat → UInt64) (v : Nat → UInt64) (mass : Nat → UInt64) (stuck : Nat → Int32) (fx : Nat → UInt64) (fy : Nat → UInt64) (dt : UInt64) (hn : n ≤ 10) (hdt : pb_Idt dt) (hmI : ∀ i, i < n → pb_Im (mass i)) (huI : ∀ i, i < n → pb_Iu (u i)) (hvI : ∀ i, i < n → pb_Iu (v i)) (hFx : ∀ i, i < n → pb_If (fx i)) (hFy : ∀ i, i < n → pb_If (fy i)) : Met l y_Model_kick w_Model_kick ({ frames := 0, cells := 0, slots := 0, locals := 0 }) (va_Pc [.ref pm, .double dt] (gx_B (dC, dI) classes (gx_T cI cD cZ) [(pm, .inr (9, [.double side, .double cut, .double skin, .double heat, .ref pX, .ref pY, .ref pU, .ref pV, .ref pM, .ref pS, .ref pK, .ref pW, .ref pD, .ref pC, .int (nI n), .int (nI nb), .int (nI nr), .ref pBI, .ref pBJ, .ref pRI, .ref pRJ, .ref pBK, .ref pBL, .ref pRL, .ref pLX, .ref pLY, .int isT, .ref pOX, .ref pOY, .ref pOU, .ref pOV, .ref pNX, .ref pNY, .ref pFX, .ref pFY, .ref pBN, .int stn, .int tm, .int rd, .int tk, .int ov1, .int st1, .int bl1, .int thw, .int cg, .double qa, .double qb, .double qr])), (pU, .inl (cD, 10, .inr (.inr (.inr (.inl u))))), (pV, .inl (cD, 10, .inr (.inr (.inr (.inl v))))), (pM, .inl (cD, 10, .inr (.inr (.inr (.inl mass))))), (pK, .inl (cZ, 10, .inl stuck)), (pFX, .inl (cD, 10, .inr (.inr (.inr (.inl fx))))), (pFY, .inl (cD, 10, .inr (.inr (.inr (.inl fy)))))] sz)) (va_Qv (fun (uu : Unit) => True) (fun (uu : Unit) t => gx_E (dC, dI) classes (gx_T cI cD cZ) (va_A [(pm, .inr (9, [.double side, .double cut, .double skin, .double heat, .ref pX, .ref pY, .ref pU, .ref pV, .ref pM, .ref pS, .ref pK, .ref pW, .ref pD, .ref pC, .int (nI n), .int (nI nb), .int (nI nr), .ref pBI, .ref pBJ, .ref pRI, .ref pRJ, .ref pBK, .ref pBL, .ref pRL, .ref pLX, .ref pLY, .int isT, .ref pOX, .ref pOY, .ref pOU, .ref pOV, .ref pNX, .ref pNY, .ref pFX, .ref pFY, .ref pBN, .int stn, .int tm, .int rd, .int tk, .int ov1, .int st1, .int bl1, .int thw, .int cg, .double qa, .double qb, .double qr])), (pU, .inl (cD, 10, .inr (.inr (.inr (.inl u))))), (pV, .inl (cD, 10, .inr (.inr (.inr (.inl v))))), (pM, .inl (cD, 10, .inr (.inr (.inr (.inl mass))))), (pK, .inl (cZ, 10, .inl stuck)), (pFX, .inl (cD, 10, .inr (.inr (.inr (.inl fx))))), (pFY, .inl (cD, 10, .inr (.inr (.inr (.inl fy)))))] sz) [(pm, .inr (9, [.double side, .double cut, .double skin, .double heat, .ref pX, .ref pY, .ref pU, .ref pV, .ref pM, .ref pS, .ref pK, .ref pW, .ref pD, .ref pC, .int (nI n), .int (nI nb), .int (nI nr), .ref pBI, .ref pBJ, .ref pRI, .ref pRJ, .ref pBK, .ref pBL, .ref pRL, .ref pLX, .ref pLY, .int isT, .ref pOX, .ref pOY, .ref pOU, .ref pOV, .ref pNX, .ref pNY, .ref pFX, .ref pFY, .ref pBN, .int stn, .int tm, .int rd, .int tk, .int ov1, .int st1, .int bl1, .int thw, .int cg, .double qa, .double qb, .double qr])), (pU, .inl (cD, 10, .inr (.inr (.inr (.inl (pb_fill (pb_pushf dt u fx mass stuck) u n)))))), (pV, .inl (cD, 10, .inr (.inr (.inr (.inl (pb_fill (pb_pushf dt v fy mass stuck) v n)))))), (pM, .inl (cD, 10, .inr (.inr (.inr (.inl mass))))), (pK, .inl (cZ, 10, .inl stuck)), (pFX, .inl (cD, 10, .inr (.inr (.inr (.inl fx))))), (pFY, .inl (cD, 10, .inr (.inr (.inr (.inl fy)))))] t) (va_A [(pm, .inr (9, [.double side, .double cut, .double skin, .double heat, .ref pX, .ref pY, .ref pU, .ref pV, .ref pM, .ref pS, .ref pK, .ref pW, .ref pD, .ref pC, .int (nI n), .int (nI nb), .int (nI nr), .ref pBI, .ref pBJ, .ref pRI, .ref pRJ, .ref pBK, .ref pBL, .ref pRL, .ref pLX, .ref pLY, .int isT, .ref pOX, .ref pOY, .ref pOU, .ref pOV, .ref pNX, .ref pNY, .ref pFX, .ref pFY, .ref pBN, .int stn, .int tm, .int rd, .int tk, .int ov1, .int st1, .int bl1, .int thw, .int cg, .double qa, .double qb, .double qr])), (pU, .inl (cD, 10, .inr (.inr (.inr (.inl u))))), (pV, .inl (cD, 10, .inr (.inr (.inr (.inl v))))), (pM, .inl (cD, 10, .inr (.inr (.inr (.inl mass))))), (pK, .inl (cZ, 10, .inl stuck)), (pFX, .inl (cD, 10, .inr (.inr (.inr (.inl fx))))), (pFY, .inl (cD, 10, .inr (.inr (.inr (.inl fy)))))] sz)) 0 0 (va_A [(pm, .inr (9, [.double side, .double cut, .double skin, .double heat, .ref pX, .ref pY, .ref pU, .ref pV, .ref pM, .ref pS, .ref pK, .ref pW, .ref pD, .ref pC, .int (nI n), .int (nI nb), .int (nI nr), .ref pBI, .ref pBJ, .ref pRI, .ref pRJ, .ref pBK, .ref pBL, .ref pRL, .ref pLX, .ref pLY, .int isT, .ref pOX, .ref pOY, .ref pOU, .ref pOV, .ref pNX, .ref pNY, .ref pFX, .ref pFY, .ref pBN, .int stn, .int tm, .int rd, .int tk, .int ov1, .int st1, .int bl1, .int thw, .int cg, .double qa, .double qb, .double qr])), (pU, .inl (cD, 10, .inr (.inr (.inr (.inl u))))), (pV, .inl (cD, 10, .inr (.inr (.inr (.inl v))))), (pM, .inl (cD, 10, .inr (.inr (.inr (.inl mass))))), (pK, .inl (cZ, 10, .inl stuck)), (pFX, .inl (cD, 10, .inr (.inr (.inr (.inl fx))))), (pFY, .inl (cD, 10, .inr (.inr (.inr (.inl fy)))))] sz) := by
  refine Met.ofW (cc := b_Model_kick) (maxL := 4) (ret := none) (by decide) rfl ?_
  intro p e s m args below meth c s₁ B hml hv
  obtain ⟨rfl, hsz, hP, hK, hD0, hN⟩ := hv
  have hx := B.exec
  have hb := B.bytes
  have hr := B.returns
  have hts := atoms_spec (ws := w_Model_kick) B.pre
  have hown : s.vm.findClass R_Model = some m.cls := findClass_of_methodNamed B.named
  have hlocks := B.notSynchronized
  subst hsz
  have hD := hD0.self (sz := s.heap.size)
  generalize hAe : va_A [(pm, .inr (9, [.double side, .double cut, .double skin, .double heat, .ref pX, .ref pY, .ref pU, .ref pV, .ref pM, .ref pS, .ref pK, .ref pW, .ref pD, .ref pC, .int (nI n), .int (nI nb), .int (nI nr), .ref pBI, .ref pBJ, .ref pRI, .ref pRJ, .ref pBK, .ref pBL, .ref pRL, .ref pLX, .ref pLY, .int isT, .ref pOX, .ref pOY, .ref pOU, .ref pOV, .ref pNX, .ref pNY, .ref pFX, .ref pFY, .ref pBN, .int stn, .int tm, .int rd, .int tk, .int ov1, .int st1, .int bl1, .int thw, .int cg, .double qa, .double qb, .double qr])), (pU, .inl (cD, 10, .inr (.inr (.inr (.inl u))))), (pV, .inl (cD, 10, .inr (.inr (.inr (.inl v))))), (pM, .inl (cD, 10, .inr (.inr (.inr (.inl mass))))), (pK, .inl (cZ, 10, .inl stuck)), (pFX, .inl (cD, 10, .inr (.inr (.inr (.inl fx))))), (pFY, .inl (cD, 10, .inr (.inr (.inr (.inl fy)))))] s.heap.size = A at hD ⊢
  have hA : ∀ q : Nat, s.heap.size ≤ q → A q := fun q h => by rw [← hAe]; exact Or.inr h
  have hS : va_S A s.heap s.heap [] := va_S.rf
  have hl := lv_entry ([.ref pm, .double dt]) (n := 4) (Nat.le_of_ble_eq_true rfl)
  rw [lg_entry_eq]
  generalize (lg_sl ([.ref pm, .double dt]) ++ List.replicate (4 - (lg_sl ([.ref pm, .double dt])).length) Slot.unset).toArray = ls at hl ⊢
  have hl : lv_has ls 4 [(0, .ref pm), (1, .double dt)] := hl
  obtain ⟨H, hH⟩ : ∃ H, H = s.heap := ⟨_, rfl⟩
  rw [← hH] at hP
  have hS : va_S A s.heap H [] := by rw [hH]; exact hS
  refine gx_start hH ?_
  refine lv_iconst (v := nI 0) hx hb d_Model_kick_0 (by decide) ?_
  refine lv_istore_n (lv' := [(3, .int (nI 0)), (0, .ref pm), (1, .double dt)]) hx hb d_Model_kick_1 rfl hl (by decide) rfl (fun ls hl => ?_)
  have ez0 := pb_fill_0 (pb_pushf dt u fx mass stuck) u
  have ez1 := pb_fill_0 (pb_pushf dt v fy mass stuck) v
  have hP : va_P (dC, dI) classes [(pm, .inr (9, [.double side, .double cut, .double skin, .double heat, .ref pX, .ref pY, .ref pU, .ref pV, .ref pM, .ref pS, .ref pK, .ref pW, .ref pD, .ref pC, .int (nI n), .int (nI nb), .int (nI nr), .ref pBI, .ref pBJ, .ref pRI, .ref pRJ, .ref pBK, .ref pBL, .ref pRL, .ref pLX, .ref pLY, .int isT, .ref pOX, .ref pOY, .ref pOU, .ref pOV, .ref pNX, .ref pNY, .ref pFX, .ref pFY, .ref pBN, .int stn, .int tm, .int rd, .int tk, .int ov1, .int st1, .int bl1, .int thw, .int cg, .double qa, .double qb, .double qr])), (pU, .inl (cD, 10, .inr (.inr (.inr (.inl (pb_fill (pb_pushf dt u fx mass stuck) u 0)))))), (pV, .inl (cD, 10, .inr (.inr (.inr (.inl (pb_fill (pb_pushf dt v fy mass stuck) v 0)))))), (pM, .inl (cD, 10, .inr (.inr (.inr (.inl mass))))), (pK, .inl (cZ, 10, .inl stuck)), (pFX, .inl (cD, 10, .inr (.inr (.inr (.inl fx))))), (pFY, .inl (cD, 10, .inr (.inr (.inr (.inl fy)))))] H := by rw [ez0, ez1]; exact hP
  have hD : va_D A [(pm, .inr (9, [.double side, .double cut, .double skin, .double heat, .ref pX, .ref pY, .ref pU, .ref pV, .ref pM, .ref pS, .ref pK, .ref pW, .ref pD, .ref pC, .int (nI n), .int (nI nb), .int (nI nr), .ref pBI, .ref pBJ, .ref pRI, .ref pRJ, .ref pBK, .ref pBL, .ref pRL, .ref pLX, .ref pLY, .int isT, .ref pOX, .ref pOY, .ref pOU, .ref pOV, .ref pNX, .ref pNY, .ref pFX, .ref pFY, .ref pBN, .int stn, .int tm, .int rd, .int tk, .int ov1, .int st1, .int bl1, .int thw, .int cg, .double qa, .double qb, .double qr])), (pU, .inl (cD, 10, .inr (.inr (.inr (.inl (pb_fill (pb_pushf dt u fx mass stuck) u 0)))))), (pV, .inl (cD, 10, .inr (.inr (.inr (.inl (pb_fill (pb_pushf dt v fy mass stuck) v 0)))))), (pM, .inl (cD, 10, .inr (.inr (.inr (.inl mass))))), (pK, .inl (cZ, 10, .inl stuck)), (pFX, .inl (cD, 10, .inr (.inr (.inr (.inl fx))))), (pFY, .inl (cD, 10, .inr (.inr (.inr (.inl fy)))))] := by rw [ez0, ez1]; exact hD
  refine gx_loop (fun (i : Nat) (H : Heap) (locs : List Loc) (ls : Array Slot) => va_P (dC, dI) classes [(pm, .inr (9, [.double side, .double cut, .double skin, .double heat, .ref pX, .ref pY, .ref pU, .ref pV, .ref pM, .ref pS, .ref pK, .ref pW, .ref pD, .ref pC, .int (nI n), .int (nI nb), .int (nI nr), .ref pBI, .ref pBJ, .ref pRI, .ref pRJ, .ref pBK, .ref pBL, .ref pRL, .ref pLX, .ref pLY, .int isT, .ref pOX, .ref pOY, .ref pOU, .ref pOV, .ref pNX, .ref pNY, .ref pFX, .ref pFY, .ref pBN, .int stn, .int tm, .int rd, .int tk, .int ov1, .int st1, .int bl1, .int thw, .int cg, .double qa, .double qb, .double qr])), (pU, .inl (cD, 10, .inr (.inr (.inr (.inl (pb_fill (pb_pushf dt u fx mass stuck) u i)))))), (pV, .inl (cD, 10, .inr (.inr (.inr (.inl (pb_fill (pb_pushf dt v fy mass stuck) v i)))))), (pM, .inl (cD, 10, .inr (.inr (.inr (.inl mass))))), (pK, .inl (cZ, 10, .inl stuck)), (pFX, .inl (cD, 10, .inr (.inr (.inr (.inl fx))))), (pFY, .inl (cD, 10, .inr (.inr (.inr (.inl fy)))))] H ∧ va_D A [(pm, .inr (9, [.double side, .double cut, .double skin, .double heat, .ref pX, .ref pY, .ref pU, .ref pV, .ref pM, .ref pS, .ref pK, .ref pW, .ref pD, .ref pC, .int (nI n), .int (nI nb), .int (nI nr), .ref pBI, .ref pBJ, .ref pRI, .ref pRJ, .ref pBK, .ref pBL, .ref pRL, .ref pLX, .ref pLY, .int isT, .ref pOX, .ref pOY, .ref pOU, .ref pOV, .ref pNX, .ref pNY, .ref pFX, .ref pFY, .ref pBN, .int stn, .int tm, .int rd, .int tk, .int ov1, .int st1, .int bl1, .int thw, .int cg, .double qa, .double qb, .double qr])), (pU, .inl (cD, 10, .inr (.inr (.inr (.inl (pb_fill (pb_pushf dt u fx mass stuck) u i)))))), (pV, .inl (cD, 10, .inr (.inr (.inr (.inl (pb_fill (pb_pushf dt v fy mass stuck) v i)))))), (pM, .inl (cD, 10, .inr (.inr (.inr (.inl mass))))), (pK, .inl (cZ, 10, .inl stuck)), (pFX, .inl (cD, 10, .inr (.inr (.inr (.inl fx))))), (pFY, .inl (cD, 10, .inr (.inr (.inr (.inl fy)))))] ∧ va_S A s.heap H locs ∧ lv_has ls 4 [(3, .int (nI i)), (1, .double dt), (0, .ref pm)] ∧ (i ≤ n)) (fun (i : Nat) => n - i) (fun N K2 xx H locs ls hI hmu => ?_) 0 ?_
  rotate_left
  · skip
    refine ⟨hP.sub [0, 1, 2, 3, 4, 5, 6] rfl, hD.sub [0, 1, 2, 3, 4, 5, 6] (by decide) rfl, hS, lv_sub hl [0, 2, 1] rfl, (by omega)⟩
  obtain ⟨i, rfl⟩ : ∃ zz, zz = xx := ⟨_, rfl⟩
  obtain ⟨hP, hD, hS, hl, hi⟩ := hI
  try dsimp only at hmu
  refine lv_iload_n hx hb d_Model_kick_2 rfl (lv_at hl 0 rfl) ?_
  refine lv_aload_n hx hb d_Model_kick_3 rfl (lv_at hl 2 rfl) ?_
  refine va_get (D := (dC, dI)) (ci := 9) (v := .int (nI n)) (C := R_Model) (T := F_Model) (N := 48) hx hb hts (fun w h => List.mem_cons_of_mem _ (i_Model w h)) hown hK hP 0 rfl rfl 14 (by decide) (hts _ (List.mem_cons_of_mem _ kw_855)) (fun _ h9 => h9) rfl d_Model_kick_4 ?_
  refine lv_icmp_ge (tgt := 92) hx hb d_Model_kick_7 (by decide) (fun c7 => ?_) (fun c7 => ?_)
  · skip
    have c7 : n ≤ i := (nI_leI (a := n) (b := i) (by omega) (by omega)).mp c7
    obtain rfl : n = i := by omega
    have hP9 := hP.sub (ws' := [(pm, .inr (9, [.double side, .double cut, .double skin, .double heat, .ref pX, .ref pY, .ref pU, .ref pV, .ref pM, .ref pS, .ref pK, .ref pW, .ref pD, .ref pC, .int (nI n), .int (nI nb), .int (nI nr), .ref pBI, .ref pBJ, .ref pRI, .ref pRJ, .ref pBK, .ref pBL, .ref pRL, .ref pLX, .ref pLY, .int isT, .ref pOX, .ref pOY, .ref pOU, .ref pOV, .ref pNX, .ref pNY, .ref pFX, .ref pFY, .ref pBN, .int stn, .int tm, .int rd, .int tk, .int ov1, .int st1, .int bl1, .int thw, .int cg, .double qa, .double qb, .double qr])), (pU, .inl (cD, 10, .inr (.inr (.inr (.inl (pb_fill (pb_pushf dt u fx mass stuck) u n)))))), (pV, .inl (cD, 10, .inr (.inr (.inr (.inl (pb_fill (pb_pushf dt v fy mass stuck) v n)))))), (pM, .inl (cD, 10, .inr (.inr (.inr (.inl mass))))), (pK, .inl (cZ, 10, .inl stuck)), (pFX, .inl (cD, 10, .inr (.inr (.inr (.inl fx))))), (pFY, .inl (cD, 10, .inr (.inr (.inr (.inl fy)))))]) [0, 1, 2, 3, 4, 5, 6] rfl
    have hD9 := hD.sub (ws' := [(pm, .inr (9, [.double side, .double cut, .double skin, .double heat, .ref pX, .ref pY, .ref pU, .ref pV, .ref pM, .ref pS, .ref pK, .ref pW, .ref pD, .ref pC, .int (nI n), .int (nI nb), .int (nI nr), .ref pBI, .ref pBJ, .ref pRI, .ref pRJ, .ref pBK, .ref pBL, .ref pRL, .ref pLX, .ref pLY, .int isT, .ref pOX, .ref pOY, .ref pOU, .ref pOV, .ref pNX, .ref pNY, .ref pFX, .ref pFY, .ref pBN, .int stn, .int tm, .int rd, .int tk, .int ov1, .int st1, .int bl1, .int thw, .int cg, .double qa, .double qb, .double qr])), (pU, .inl (cD, 10, .inr (.inr (.inr (.inl (pb_fill (pb_pushf dt u fx mass stuck) u n)))))), (pV, .inl (cD, 10, .inr (.inr (.inr (.inl (pb_fill (pb_pushf dt v fy mass stuck) v n)))))), (pM, .inl (cD, 10, .inr (.inr (.inr (.inl mass))))), (pK, .inl (cZ, 10, .inl stuck)), (pFX, .inl (cD, 10, .inr (.inr (.inr (.inl fx))))), (pFY, .inl (cD, 10, .inr (.inr (.inr (.inl fy)))))]) [0, 1, 2, 3, 4, 5, 6] (by decide) rfl
    exact W.vret hx hb hr (fun tt9 ht9 hW9 => ⟨⟨(), rfl, trivial, by rw [ht9]; exact hP9, va_K.moved hW9.alike hK, hD9⟩, hS.F ht9⟩) hS.2.2 d_Model_kick_92
  · skip
    have c7 : ¬ n ≤ i := fun h => c7 ((nI_leI (a := n) (b := i) (by omega) (by omega)).mpr h)
    refine lv_aload_n hx hb d_Model_kick_10 rfl (lv_at hl 2 rfl) ?_
    refine va_get (D := (dC, dI)) (ci := 9) (v := .ref pK) (C := R_Model) (T := F_Model) (N := 48) hx hb hts (fun w h => List.mem_cons_of_mem _ (i_Model w h)) hown hK hP 0 rfl rfl 10 (by decide) (hts _ (List.mem_cons_of_mem _ kw_851)) (fun _ h9 => h9) rfl d_Model_kick_11 ?_
    refine lv_iload_n hx hb d_Model_kick_14 rfl (lv_at hl 0 rfl) ?_
    refine gx_zald hx hb hK hP 4 2 rfl rfl (by omega) (by decide) d_Model_kick_15 ?_
    refine lv_if_eq (tgt := 22) hx hb d_Model_kick_16 (by decide) (fun c16 => ?_) (fun c16 => ?_)
    · skip
      refine lv_aload_n hx hb d_Model_kick_22 rfl (lv_at hl 2 rfl) ?_
      refine va_get (D := (dC, dI)) (ci := 9) (v := .ref pU) (C := R_Model) (T := F_Model) (N := 48) hx hb hts (fun w h => List.mem_cons_of_mem _ (i_Model w h)) hown hK hP 0 rfl rfl 6 (by decide) (hts _ (List.mem_cons_of_mem _ kw_847)) (fun _ h9 => h9) rfl d_Model_kick_23 ?_
      refine lv_iload_n hx hb d_Model_kick_26 rfl (lv_at hl 0 rfl) ?_
      refine lv_aload_n hx hb d_Model_kick_27 rfl (lv_at hl 2 rfl) ?_
      refine va_get (D := (dC, dI)) (ci := 9) (v := .ref pU) (C := R_Model) (T := F_Model) (N := 48) hx hb hts (fun w h => List.mem_cons_of_mem _ (i_Model w h)) hown hK hP 0 rfl rfl 6 (by decide) (hts _ (List.mem_cons_of_mem _ kw_847)) (fun _ h9 => h9) rfl d_Model_kick_28 ?_
      refine lv_iload_n hx hb d_Model_kick_31 rfl (lv_at hl 0 rfl) ?_
      refine gx_dald hx hb hK hP 1 1 rfl rfl (by omega) (by decide) d_Model_kick_32 ?_
      rw [pb_fill_ge _ _ (Nat.le_refl i)]
      have g_1 := huI i (by omega)
      refine lv_ldc2d (v := 4602678819172646912) hx hb hown (hts (.constantDouble R_Model 7 4602678819172646912) (by decide +kernel)) d_Model_kick_33 ?_
      refine lv_dload_n hx hb d_Model_kick_36 rfl (lv_at hl 1 rfl) ?_
      have g_2 := fp_const (a := 4602678819172646912) (T := (fp_d 1 1073)) (by decide +kernel)
      have g_3 := fp_I_mul (fp_d 1 1063) (fp_d 1 1070) g_2 hdt (by decide +kernel)
      refine lv_dmul hx hb d_Model_kick_37 g_3.n ?_
      refine lv_aload_n hx hb d_Model_kick_38 rfl (lv_at hl 2 rfl) ?_
      refine va_get (D := (dC, dI)) (ci := 9) (v := .ref pFX) (C := R_Model) (T := F_Model) (N := 48) hx hb hts (fun w h => List.mem_cons_of_mem _ (i_Model w h)) hown hK hP 0 rfl rfl 33 (by decide) (hts _ (List.mem_cons_of_mem _ kw_874)) (fun _ h9 => h9) rfl d_Model_kick_39 ?_
      refine lv_iload_n hx hb d_Model_kick_42 rfl (lv_at hl 0 rfl) ?_
      refine gx_dald hx hb hK hP 5 1 rfl rfl (by omega) (by decide) d_Model_kick_43 ?_
      have g_4 := hFx i (by omega)
      refine lv_aload_n hx hb d_Model_kick_44 rfl (lv_at hl 2 rfl) ?_
      refine va_get (D := (dC, dI)) (ci := 9) (v := .ref pM) (C := R_Model) (T := F_Model) (N := 48) hx hb hts (fun w h => List.mem_cons_of_mem _ (i_Model w h)) hown hK hP 0 rfl rfl 8 (by decide) (hts _ (List.mem_cons_of_mem _ kw_849)) (fun _ h9 => h9) rfl d_Model_kick_45 ?_
      refine lv_iload_n hx hb d_Model_kick_48 rfl (lv_at hl 0 rfl) ?_
      refine gx_dald hx hb hK hP 3 1 rfl rfl (by omega) (by decide) d_Model_kick_49 ?_
      have g_5 := hmI i (by omega)
      have g_6 := fp_I_div (fp_d (-9) 1210) (fp_d 9 1210) g_4 g_5 (by decide +kernel)
      refine lv_ddiv hx hb d_Model_kick_50 g_6.n ?_
      have g_7 := fp_I_mul (fp_d (-9) 1206) (fp_d 9 1206) g_3 g_6 (by decide +kernel)
      refine lv_dmul hx hb d_Model_kick_51 g_7.n ?_
      have g_8 := fp_I_add (fp_d (-9437185) 1186) (fp_d 9437185 1186) g_1 g_7 (by decide +kernel)
      refine lv_dadd hx hb d_Model_kick_52 g_8.n ?_
      refine gx_dast hx hb hK hP hD hS 1 1 rfl rfl (by omega) (by decide) d_Model_kick_53 (fun H locs hP hD hS => ?_)
      have hP : va_P (dC, dI) classes [(pm, .inr (9, [.double side, .double cut, .double skin, .double heat, .ref pX, .ref pY, .ref pU, .ref pV, .ref pM, .ref pS, .ref pK, .ref pW, .ref pD, .ref pC, .int (nI n), .int (nI nb), .int (nI nr), .ref pBI, .ref pBJ, .ref pRI, .ref pRJ, .ref pBK, .ref pBL, .ref pRL, .ref pLX, .ref pLY, .int isT, .ref pOX, .ref pOY, .ref pOU, .ref pOV, .ref pNX, .ref pNY, .ref pFX, .ref pFY, .ref pBN, .int stn, .int tm, .int rd, .int tk, .int ov1, .int st1, .int bl1, .int thw, .int cg, .double qa, .double qb, .double qr])), (pU, .inl (cD, 10, .inr (.inr (.inr (.inl (vf_upd (pb_fill (pb_pushf dt u fx mass stuck) u i) i (FP.dadd (u i) (FP.dmul (FP.dmul 4602678819172646912 dt) (FP.ddiv (fx i) (mass i)))))))))), (pV, .inl (cD, 10, .inr (.inr (.inr (.inl (pb_fill (pb_pushf dt v fy mass stuck) v i)))))), (pM, .inl (cD, 10, .inr (.inr (.inr (.inl mass))))), (pK, .inl (cZ, 10, .inl stuck)), (pFX, .inl (cD, 10, .inr (.inr (.inr (.inl fx))))), (pFY, .inl (cD, 10, .inr (.inr (.inr (.inl fy)))))] H := hP
      have hD : va_D A [(pm, .inr (9, [.double side, .double cut, .double skin, .double heat, .ref pX, .ref pY, .ref pU, .ref pV, .ref pM, .ref pS, .ref pK, .ref pW, .ref pD, .ref pC, .int (nI n), .int (nI nb), .int (nI nr), .ref pBI, .ref pBJ, .ref pRI, .ref pRJ, .ref pBK, .ref pBL, .ref pRL, .ref pLX, .ref pLY, .int isT, .ref pOX, .ref pOY, .ref pOU, .ref pOV, .ref pNX, .ref pNY, .ref pFX, .ref pFY, .ref pBN, .int stn, .int tm, .int rd, .int tk, .int ov1, .int st1, .int bl1, .int thw, .int cg, .double qa, .double qb, .double qr])), (pU, .inl (cD, 10, .inr (.inr (.inr (.inl (vf_upd (pb_fill (pb_pushf dt u fx mass stuck) u i) i (FP.dadd (u i) (FP.dmul (FP.dmul 4602678819172646912 dt) (FP.ddiv (fx i) (mass i)))))))))), (pV, .inl (cD, 10, .inr (.inr (.inr (.inl (pb_fill (pb_pushf dt v fy mass stuck) v i)))))), (pM, .inl (cD, 10, .inr (.inr (.inr (.inl mass))))), (pK, .inl (cZ, 10, .inl stuck)), (pFX, .inl (cD, 10, .inr (.inr (.inr (.inl fx))))), (pFY, .inl (cD, 10, .inr (.inr (.inr (.inl fy)))))] := hD
      refine lv_aload_n hx hb d_Model_kick_54 rfl (lv_at hl 2 rfl) ?_
      refine va_get (D := (dC, dI)) (ci := 9) (v := .ref pV) (C := R_Model) (T := F_Model) (N := 48) hx hb hts (fun w h => List.mem_cons_of_mem _ (i_Model w h)) hown hK hP 0 rfl rfl 7 (by decide) (hts _ (List.mem_cons_of_mem _ kw_848)) (fun _ h9 => h9) rfl d_Model_kick_55 ?_
      refine lv_iload_n hx hb d_Model_kick_58 rfl (lv_at hl 0 rfl) ?_
      refine lv_aload_n hx hb d_Model_kick_59 rfl (lv_at hl 2 rfl) ?_
      refine va_get (D := (dC, dI)) (ci := 9) (v := .ref pV) (C := R_Model) (T := F_Model) (N := 48) hx hb hts (fun w h => List.mem_cons_of_mem _ (i_Model w h)) hown hK hP 0 rfl rfl 7 (by decide) (hts _ (List.mem_cons_of_mem _ kw_848)) (fun _ h9 => h9) rfl d_Model_kick_60 ?_
      refine lv_iload_n hx hb d_Model_kick_63 rfl (lv_at hl 0 rfl) ?_
      refine gx_dald hx hb hK hP 2 1 rfl rfl (by omega) (by decide) d_Model_kick_64 ?_
      rw [pb_fill_ge _ _ (Nat.le_refl i)]
      have g_9 := hvI i (by omega)
      refine lv_ldc2d (v := 4602678819172646912) hx hb hown (hts (.constantDouble R_Model 7 4602678819172646912) (by decide +kernel)) d_Model_kick_65 ?_
      refine lv_dload_n hx hb d_Model_kick_68 rfl (lv_at hl 1 rfl) ?_
      refine lv_dmul hx hb d_Model_kick_69 g_3.n ?_
      refine lv_aload_n hx hb d_Model_kick_70 rfl (lv_at hl 2 rfl) ?_
      refine va_get (D := (dC, dI)) (ci := 9) (v := .ref pFY) (C := R_Model) (T := F_Model) (N := 48) hx hb hts (fun w h => List.mem_cons_of_mem _ (i_Model w h)) hown hK hP 0 rfl rfl 34 (by decide) (hts _ (List.mem_cons_of_mem _ kw_875)) (fun _ h9 => h9) rfl d_Model_kick_71 ?_
      refine lv_iload_n hx hb d_Model_kick_74 rfl (lv_at hl 0 rfl) ?_
      refine gx_dald hx hb hK hP 6 1 rfl rfl (by omega) (by decide) d_Model_kick_75 ?_
      have g_10 := hFy i (by omega)
      refine lv_aload_n hx hb d_Model_kick_76 rfl (lv_at hl 2 rfl) ?_
      refine va_get (D := (dC, dI)) (ci := 9) (v := .ref pM) (C := R_Model) (T := F_Model) (N := 48) hx hb hts (fun w h => List.mem_cons_of_mem _ (i_Model w h)) hown hK hP 0 rfl rfl 8 (by decide) (hts _ (List.mem_cons_of_mem _ kw_849)) (fun _ h9 => h9) rfl d_Model_kick_77 ?_
      refine lv_iload_n hx hb d_Model_kick_80 rfl (lv_at hl 0 rfl) ?_
      refine gx_dald hx hb hK hP 3 1 rfl rfl (by omega) (by decide) d_Model_kick_81 ?_
      have g_11 := fp_I_div (fp_d (-9) 1210) (fp_d 9 1210) g_10 g_5 (by decide +kernel)
      refine lv_ddiv hx hb d_Model_kick_82 g_11.n ?_
      have g_12 := fp_I_mul (fp_d (-9) 1206) (fp_d 9 1206) g_3 g_11 (by decide +kernel)
      refine lv_dmul hx hb d_Model_kick_83 g_12.n ?_
      have g_13 := fp_I_add (fp_d (-9437185) 1186) (fp_d 9437185 1186) g_9 g_12 (by decide +kernel)
      refine lv_dadd hx hb d_Model_kick_84 g_13.n ?_
      refine gx_dast hx hb hK hP hD hS 2 1 rfl rfl (by omega) (by decide) d_Model_kick_85 (fun H locs hP hD hS => ?_)
      have hP : va_P (dC, dI) classes [(pm, .inr (9, [.double side, .double cut, .double skin, .double heat, .ref pX, .ref pY, .ref pU, .ref pV, .ref pM, .ref pS, .ref pK, .ref pW, .ref pD, .ref pC, .int (nI n), .int (nI nb), .int (nI nr), .ref pBI, .ref pBJ, .ref pRI, .ref pRJ, .ref pBK, .ref pBL, .ref pRL, .ref pLX, .ref pLY, .int isT, .ref pOX, .ref pOY, .ref pOU, .ref pOV, .ref pNX, .ref pNY, .ref pFX, .ref pFY, .ref pBN, .int stn, .int tm, .int rd, .int tk, .int ov1, .int st1, .int bl1, .int thw, .int cg, .double qa, .double qb, .double qr])), (pU, .inl (cD, 10, .inr (.inr (.inr (.inl (vf_upd (pb_fill (pb_pushf dt u fx mass stuck) u i) i (FP.dadd (u i) (FP.dmul (FP.dmul 4602678819172646912 dt) (FP.ddiv (fx i) (mass i)))))))))), (pV, .inl (cD, 10, .inr (.inr (.inr (.inl (vf_upd (pb_fill (pb_pushf dt v fy mass stuck) v i) i (FP.dadd (v i) (FP.dmul (FP.dmul 4602678819172646912 dt) (FP.ddiv (fy i) (mass i)))))))))), (pM, .inl (cD, 10, .inr (.inr (.inr (.inl mass))))), (pK, .inl (cZ, 10, .inl stuck)), (pFX, .inl (cD, 10, .inr (.inr (.inr (.inl fx))))), (pFY, .inl (cD, 10, .inr (.inr (.inr (.inl fy)))))] H := hP
      have hD : va_D A [(pm, .inr (9, [.double side, .double cut, .double skin, .double heat, .ref pX, .ref pY, .ref pU, .ref pV, .ref pM, .ref pS, .ref pK, .ref pW, .ref pD, .ref pC, .int (nI n), .int (nI nb), .int (nI nr), .ref pBI, .ref pBJ, .ref pRI, .ref pRJ, .ref pBK, .ref pBL, .ref pRL, .ref pLX, .ref pLY, .int isT, .ref pOX, .ref pOY, .ref pOU, .ref pOV, .ref pNX, .ref pNY, .ref pFX, .ref pFY, .ref pBN, .int stn, .int tm, .int rd, .int tk, .int ov1, .int st1, .int bl1, .int thw, .int cg, .double qa, .double qb, .double qr])), (pU, .inl (cD, 10, .inr (.inr (.inr (.inl (vf_upd (pb_fill (pb_pushf dt u fx mass stuck) u i) i (FP.dadd (u i) (FP.dmul (FP.dmul 4602678819172646912 dt) (FP.ddiv (fx i) (mass i)))))))))), (pV, .inl (cD, 10, .inr (.inr (.inr (.inl (vf_upd (pb_fill (pb_pushf dt v fy mass stuck) v i) i (FP.dadd (v i) (FP.dmul (FP.dmul 4602678819172646912 dt) (FP.ddiv (fy i) (mass i)))))))))), (pM, .inl (cD, 10, .inr (.inr (.inr (.inl mass))))), (pK, .inl (cZ, 10, .inl stuck)), (pFX, .inl (cD, 10, .inr (.inr (.inr (.inl fx))))), (pFY, .inl (cD, 10, .inr (.inr (.inr (.inl fy)))))] := hD
      have ea0 : FP.dadd (u i) (FP.dmul (FP.dmul 4602678819172646912 dt) (FP.ddiv (fx i) (mass i))) = (pb_pushf dt u fx mass stuck) i := by unfold pb_pushf; rw [if_pos c16]
      have eb0 := pb_fill_s (pb_pushf dt u fx mass stuck) u i
      have ea1 : FP.dadd (v i) (FP.dmul (FP.dmul 4602678819172646912 dt) (FP.ddiv (fy i) (mass i))) = (pb_pushf dt v fy mass stuck) i := by unfold pb_pushf; rw [if_pos c16]
      have eb1 := pb_fill_s (pb_pushf dt v fy mass stuck) v i
      have hP : va_P (dC, dI) classes [(pm, .inr (9, [.double side, .double cut, .double skin, .double heat, .ref pX, .ref pY, .ref pU, .ref pV, .ref pM, .ref pS, .ref pK, .ref pW, .ref pD, .ref pC, .int (nI n), .int (nI nb), .int (nI nr), .ref pBI, .ref pBJ, .ref pRI, .ref pRJ, .ref pBK, .ref pBL, .ref pRL, .ref pLX, .ref pLY, .int isT, .ref pOX, .ref pOY, .ref pOU, .ref pOV, .ref pNX, .ref pNY, .ref pFX, .ref pFY, .ref pBN, .int stn, .int tm, .int rd, .int tk, .int ov1, .int st1, .int bl1, .int thw, .int cg, .double qa, .double qb, .double qr])), (pU, .inl (cD, 10, .inr (.inr (.inr (.inl (pb_fill (pb_pushf dt u fx mass stuck) u (i + 1))))))), (pV, .inl (cD, 10, .inr (.inr (.inr (.inl (pb_fill (pb_pushf dt v fy mass stuck) v (i + 1))))))), (pM, .inl (cD, 10, .inr (.inr (.inr (.inl mass))))), (pK, .inl (cZ, 10, .inl stuck)), (pFX, .inl (cD, 10, .inr (.inr (.inr (.inl fx))))), (pFY, .inl (cD, 10, .inr (.inr (.inr (.inl fy)))))] H := by rw [← eb0, ← ea0, ← eb1, ← ea1]; exact hP
      have hD : va_D A [(pm, .inr (9, [.double side, .double cut, .double skin, .double heat, .ref pX, .ref pY, .ref pU, .ref pV, .ref pM, .ref pS, .ref pK, .ref pW, .ref pD, .ref pC, .int (nI n), .int (nI nb), .int (nI nr), .ref pBI, .ref pBJ, .ref pRI, .ref pRJ, .ref pBK, .ref pBL, .ref pRL, .ref pLX, .ref pLY, .int isT, .ref pOX, .ref pOY, .ref pOU, .ref pOV, .ref pNX, .ref pNY, .ref pFX, .ref pFY, .ref pBN, .int stn, .int tm, .int rd, .int tk, .int ov1, .int st1, .int bl1, .int thw, .int cg, .double qa, .double qb, .double qr])), (pU, .inl (cD, 10, .inr (.inr (.inr (.inl (pb_fill (pb_pushf dt u fx mass stuck) u (i + 1))))))), (pV, .inl (cD, 10, .inr (.inr (.inr (.inl (pb_fill (pb_pushf dt v fy mass stuck) v (i + 1))))))), (pM, .inl (cD, 10, .inr (.inr (.inr (.inl mass))))), (pK, .inl (cZ, 10, .inl stuck)), (pFX, .inl (cD, 10, .inr (.inr (.inr (.inl fx))))), (pFY, .inl (cD, 10, .inr (.inr (.inr (.inl fy)))))] := by rw [← eb0, ← ea0, ← eb1, ← ea1]; exact hD
      refine lv_iinc (v := nI (i + 1)) (lv' := [(3, .int (nI (i + 1))), (1, .double dt), (0, .ref pm)]) hx hb d_Model_kick_86 hl (k := 0) rfl (nI_1 i) (by decide) rfl (fun ls hl => ?_)
      refine lv_goto (tgt := 2) hx hb d_Model_kick_89 (by decide) ?_
      exact K2 (i + 1) _ _ _ ⟨hP.sub [0, 1, 2, 3, 4, 5, 6] rfl, hD.sub [0, 1, 2, 3, 4, 5, 6] (by decide) rfl, hS, lv_sub hl [0, 1, 2] rfl, (by omega)⟩ (by omega)
    · skip
      refine lv_goto (tgt := 86) hx hb d_Model_kick_19 (by decide) ?_
      have eb0 := pb_fill_k (pb_pushf dt u fx mass stuck) u i (by unfold pb_pushf; rw [if_neg c16])
      have eb1 := pb_fill_k (pb_pushf dt v fy mass stuck) v i (by unfold pb_pushf; rw [if_neg c16])
      have hP : va_P (dC, dI) classes [(pm, .inr (9, [.double side, .double cut, .double skin, .double heat, .ref pX, .ref pY, .ref pU, .ref pV, .ref pM, .ref pS, .ref pK, .ref pW, .ref pD, .ref pC, .int (nI n), .int (nI nb), .int (nI nr), .ref pBI, .ref pBJ, .ref pRI, .ref pRJ, .ref pBK, .ref pBL, .ref pRL, .ref pLX, .ref pLY, .int isT, .ref pOX, .ref pOY, .ref pOU, .ref pOV, .ref pNX, .ref pNY, .ref pFX, .ref pFY, .ref pBN, .int stn, .int tm, .int rd, .int tk, .int ov1, .int st1, .int bl1, .int thw, .int cg, .double qa, .double qb, .double qr])), (pU, .inl (cD, 10, .inr (.inr (.inr (.inl (pb_fill (pb_pushf dt u fx mass stuck) u (i + 1))))))), (pV, .inl (cD, 10, .inr (.inr (.inr (.inl (pb_fill (pb_pushf dt v fy mass stuck) v (i + 1))))))), (pM, .inl (cD, 10, .inr (.inr (.inr (.inl mass))))), (pK, .inl (cZ, 10, .inl stuck)), (pFX, .inl (cD, 10, .inr (.inr (.inr (.inl fx))))), (pFY, .inl (cD, 10, .inr (.inr (.inr (.inl fy)))))] H := by rw [← eb0, ← eb1]; exact hP
      have hD : va_D A [(pm, .inr (9, [.double side, .double cut, .double skin, .double heat, .ref pX, .ref pY, .ref pU, .ref pV, .ref pM, .ref pS, .ref pK, .ref pW, .ref pD, .ref pC, .int (nI n), .int (nI nb), .int (nI nr), .ref pBI, .ref pBJ, .ref pRI, .ref pRJ, .ref pBK, .ref pBL, .ref pRL, .ref pLX, .ref pLY, .int isT, .ref pOX, .ref pOY, .ref pOU, .ref pOV, .ref pNX, .ref pNY, .ref pFX, .ref pFY, .ref pBN, .int stn, .int tm, .int rd, .int tk, .int ov1, .int st1, .int bl1, .int thw, .int cg, .double qa, .double qb, .double qr])), (pU, .inl (cD, 10, .inr (.inr (.inr (.inl (pb_fill (pb_pushf dt u fx mass stuck) u (i + 1))))))), (pV, .inl (cD, 10, .inr (.inr (.inr (.inl (pb_fill (pb_pushf dt v fy mass stuck) v (i + 1))))))), (pM, .inl (cD, 10, .inr (.inr (.inr (.inl mass))))), (pK, .inl (cZ, 10, .inl stuck)), (pFX, .inl (cD, 10, .inr (.inr (.inr (.inl fx))))), (pFY, .inl (cD, 10, .inr (.inr (.inr (.inl fy)))))] := by rw [← eb0, ← eb1]; exact hD
      refine lv_iinc (v := nI (i + 1)) (lv' := [(3, .int (nI (i + 1))), (1, .double dt), (0, .ref pm)]) hx hb d_Model_kick_86 hl (k := 0) rfl (nI_1 i) (by decide) rfl (fun ls hl => ?_)
      refine lv_goto (tgt := 2) hx hb d_Model_kick_89 (by decide) ?_
      exact K2 (i + 1) _ _ _ ⟨hP.sub [0, 1, 2, 3, 4, 5, 6] rfl, hD.sub [0, 1, 2, 3, 4, 5, 6] (by decide) rfl, hS, lv_sub hl [0, 1, 2] rfl, (by omega)⟩ (by omega)
set_option maxHeartbeats 4000000 in
set_option maxRecDepth 100000 in
/-- BLOWN -/
theorem c_Model_blown (l : Launch) (dC : Nat → ClassId) (dI : Nat → Nat → Nat) (cI cD cZ : ClassId) (sz : Nat) (pm : Nat) (pX : Nat) (pY : Nat) (pU : Nat) (pV : Nat) (pM : Nat) (pS : Nat) (pK : Nat) (pW : Nat) (pD : Nat) (pC : Nat) (pBI : Nat) (pBJ : Nat) (pRI : Nat) (pRJ : Nat) (pBK : Nat) (pBL : Nat) (pRL : Nat) (pLX : Nat) (pLY : Nat) (pOX : Nat) (pOY : Nat) (pOU : Nat) (pOV : Nat) (pNX : Nat) (pNY : Nat) (pFX : Nat) (pFY : Nat) (pBN : Nat) (side : UInt64) (cut : UInt64) (skin : UInt64) (heat : UInt64) (n : Nat) (nb : Nat) (nr : Nat) (isT : Int32) (stn : Int32) (tm : Int32) (rd : Int32) (tk : Int32) (ov1 : Int32) (st1 : Int32) (bl1 : Int32) (thw : Int32) (cg : Int32) (qa : UInt64) (qb : UInt64) (qr : UInt64) (u : Nat → UInt64) (v : Nat → UInt64) (hn : n ≤ 10) (hFu : ∀ i, i < n → fp_F (u i)) (hFv : ∀ i, i < n → fp_F (v i)) : Met l y_Model_blown w_Model_blown ({ frames := 1, cells := 0, slots := 0, locals := 25 }) (va_Pc [.ref pm] (gx_B (dC, dI) classes (gx_T cI cD cZ) [(pm, .inr (9, [.double side, .double cut, .double skin, .double heat, .ref pX, .ref pY, .ref pU, .ref pV, .ref pM, .ref pS, .ref pK, .ref pW, .ref pD, .ref pC, .int (nI n), .int (nI nb), .int (nI nr), .ref pBI, .ref pBJ, .ref pRI, .ref pRJ, .ref pBK, .ref pBL, .ref pRL, .ref pLX, .ref pLY, .int isT, .ref pOX, .ref pOY, .ref pOU, .ref pOV, .ref pNX, .ref pNY, .ref pFX, .ref pFY, .ref pBN, .int stn, .int tm, .int rd, .int tk, .int ov1, .int st1, .int bl1, .int thw, .int cg, .double qa, .double qb, .double qr])), (pU, .inl (cD, 10, .inr (.inr (.inr (.inl u))))), (pV, .inl (cD, 10, .inr (.inr (.inr (.inl v)))))] sz)) (va_Qi (fun (rr : Int32) (uu : Unit) => rr = pb_b (pb_bl n u v)) (fun (uu : Unit) t => gx_E (dC, dI) classes (gx_T cI cD cZ) (va_A [(pm, .inr (9, [.double side, .double cut, .double skin, .double heat, .ref pX, .ref pY, .ref pU, .ref pV, .ref pM, .ref pS, .ref pK, .ref pW, .ref pD, .ref pC, .int (nI n), .int (nI nb), .int (nI nr), .ref pBI, .ref pBJ, .ref pRI, .ref pRJ, .ref pBK, .ref pBL, .ref pRL, .ref pLX, .ref pLY, .int isT, .ref pOX, .ref pOY, .ref pOU, .ref pOV, .ref pNX, .ref pNY, .ref pFX, .ref pFY, .ref pBN, .int stn, .int tm, .int rd, .int tk, .int ov1, .int st1, .int bl1, .int thw, .int cg, .double qa, .double qb, .double qr])), (pU, .inl (cD, 10, .inr (.inr (.inr (.inl u))))), (pV, .inl (cD, 10, .inr (.inr (.inr (.inl v)))))] sz) [(pm, .inr (9, [.double side, .double cut, .double skin, .double heat, .ref pX, .ref pY, .ref pU, .ref pV, .ref pM, .ref pS, .ref pK, .ref pW, .ref pD, .ref pC, .int (nI n), .int (nI nb), .int (nI nr), .ref pBI, .ref pBJ, .ref pRI, .ref pRJ, .ref pBK, .ref pBL, .ref pRL, .ref pLX, .ref pLY, .int isT, .ref pOX, .ref pOY, .ref pOU, .ref pOV, .ref pNX, .ref pNY, .ref pFX, .ref pFY, .ref pBN, .int stn, .int tm, .int rd, .int tk, .int ov1, .int st1, .int bl1, .int thw, .int cg, .double qa, .double qb, .double qr])), (pU, .inl (cD, 10, .inr (.inr (.inr (.inl u))))), (pV, .inl (cD, 10, .inr (.inr (.inr (.inl v)))))] t) (va_A [(pm, .inr (9, [.double side, .double cut, .double skin, .double heat, .ref pX, .ref pY, .ref pU, .ref pV, .ref pM, .ref pS, .ref pK, .ref pW, .ref pD, .ref pC, .int (nI n), .int (nI nb), .int (nI nr), .ref pBI, .ref pBJ, .ref pRI, .ref pRJ, .ref pBK, .ref pBL, .ref pRL, .ref pLX, .ref pLY, .int isT, .ref pOX, .ref pOY, .ref pOU, .ref pOV, .ref pNX, .ref pNY, .ref pFX, .ref pFY, .ref pBN, .int stn, .int tm, .int rd, .int tk, .int ov1, .int st1, .int bl1, .int thw, .int cg, .double qa, .double qb, .double qr])), (pU, .inl (cD, 10, .inr (.inr (.inr (.inl u))))), (pV, .inl (cD, 10, .inr (.inr (.inr (.inl v)))))] sz)) 0 0 (va_A [(pm, .inr (9, [.double side, .double cut, .double skin, .double heat, .ref pX, .ref pY, .ref pU, .ref pV, .ref pM, .ref pS, .ref pK, .ref pW, .ref pD, .ref pC, .int (nI n), .int (nI nb), .int (nI nr), .ref pBI, .ref pBJ, .ref pRI, .ref pRJ, .ref pBK, .ref pBL, .ref pRL, .ref pLX, .ref pLY, .int isT, .ref pOX, .ref pOY, .ref pOU, .ref pOV, .ref pNX, .ref pNY, .ref pFX, .ref pFY, .ref pBN, .int stn, .int tm, .int rd, .int tk, .int ov1, .int st1, .int bl1, .int thw, .int cg, .double qa, .double qb, .double qr])), (pU, .inl (cD, 10, .inr (.inr (.inr (.inl u))))), (pV, .inl (cD, 10, .inr (.inr (.inr (.inl v)))))] sz) := by
  refine Met.ofW (cc := b_Model_blown) (maxL := 2) (ret := (some .boolean)) (by decide) rfl ?_
  intro p e s m args below meth c s₁ B hml hv
  obtain ⟨rfl, hsz, hP, hK, hD0, hN⟩ := hv
  have hx := B.exec
  have hb := B.bytes
  have hr := B.returns
  have hts := atoms_spec (ws := w_Model_blown) B.pre
  have hown : s.vm.findClass R_Model = some m.cls := findClass_of_methodNamed B.named
  have hlocks := B.notSynchronized
  subst hsz
  have hD := hD0.self (sz := s.heap.size)
  generalize hAe : va_A [(pm, .inr (9, [.double side, .double cut, .double skin, .double heat, .ref pX, .ref pY, .ref pU, .ref pV, .ref pM, .ref pS, .ref pK, .ref pW, .ref pD, .ref pC, .int (nI n), .int (nI nb), .int (nI nr), .ref pBI, .ref pBJ, .ref pRI, .ref pRJ, .ref pBK, .ref pBL, .ref pRL, .ref pLX, .ref pLY, .int isT, .ref pOX, .ref pOY, .ref pOU, .ref pOV, .ref pNX, .ref pNY, .ref pFX, .ref pFY, .ref pBN, .int stn, .int tm, .int rd, .int tk, .int ov1, .int st1, .int bl1, .int thw, .int cg, .double qa, .double qb, .double qr])), (pU, .inl (cD, 10, .inr (.inr (.inr (.inl u))))), (pV, .inl (cD, 10, .inr (.inr (.inr (.inl v)))))] s.heap.size = A at hD ⊢
  have hA : ∀ q : Nat, s.heap.size ≤ q → A q := fun q h => by rw [← hAe]; exact Or.inr h
  have hS : va_S A s.heap s.heap [] := va_S.rf
  have hl := lv_entry ([.ref pm]) (n := 2) (Nat.le_of_ble_eq_true rfl)
  rw [lg_entry_eq]
  generalize (lg_sl ([.ref pm]) ++ List.replicate (2 - (lg_sl ([.ref pm])).length) Slot.unset).toArray = ls at hl ⊢
  have hl : lv_has ls 2 [(0, .ref pm)] := hl
  obtain ⟨H, hH⟩ : ∃ H, H = s.heap := ⟨_, rfl⟩
  rw [← hH] at hP
  have hS : va_S A s.heap H [] := by rw [hH]; exact hS
  refine gx_start hH ?_
  refine lv_iconst (v := nI 0) hx hb d_Model_blown_0 (by decide) ?_
  refine lv_istore_n (lv' := [(1, .int (nI 0)), (0, .ref pm)]) hx hb d_Model_blown_1 rfl hl (by decide) rfl (fun ls hl => ?_)
  refine gx_loop (fun (i : Nat) (H : Heap) (locs : List Loc) (ls : Array Slot) => va_P (dC, dI) classes [(pm, .inr (9, [.double side, .double cut, .double skin, .double heat, .ref pX, .ref pY, .ref pU, .ref pV, .ref pM, .ref pS, .ref pK, .ref pW, .ref pD, .ref pC, .int (nI n), .int (nI nb), .int (nI nr), .ref pBI, .ref pBJ, .ref pRI, .ref pRJ, .ref pBK, .ref pBL, .ref pRL, .ref pLX, .ref pLY, .int isT, .ref pOX, .ref pOY, .ref pOU, .ref pOV, .ref pNX, .ref pNY, .ref pFX, .ref pFY, .ref pBN, .int stn, .int tm, .int rd, .int tk, .int ov1, .int st1, .int bl1, .int thw, .int cg, .double qa, .double qb, .double qr])), (pU, .inl (cD, 10, .inr (.inr (.inr (.inl u))))), (pV, .inl (cD, 10, .inr (.inr (.inr (.inl v)))))] H ∧ va_D A [(pm, .inr (9, [.double side, .double cut, .double skin, .double heat, .ref pX, .ref pY, .ref pU, .ref pV, .ref pM, .ref pS, .ref pK, .ref pW, .ref pD, .ref pC, .int (nI n), .int (nI nb), .int (nI nr), .ref pBI, .ref pBJ, .ref pRI, .ref pRJ, .ref pBK, .ref pBL, .ref pRL, .ref pLX, .ref pLY, .int isT, .ref pOX, .ref pOY, .ref pOU, .ref pOV, .ref pNX, .ref pNY, .ref pFX, .ref pFY, .ref pBN, .int stn, .int tm, .int rd, .int tk, .int ov1, .int st1, .int bl1, .int thw, .int cg, .double qa, .double qb, .double qr])), (pU, .inl (cD, 10, .inr (.inr (.inr (.inl u))))), (pV, .inl (cD, 10, .inr (.inr (.inr (.inl v)))))] ∧ va_S A s.heap H locs ∧ lv_has ls 2 [(1, .int (nI i)), (0, .ref pm)] ∧ (i ≤ n) ∧ (∀ j, j < i → ¬ (pb_fast (u j) ∨ pb_fast (v j)))) (fun (i : Nat) => n - i) (fun N K2 xx H locs ls hI hmu => ?_) 0 ?_
  rotate_left
  · skip
    refine ⟨hP.sub [0, 1, 2] rfl, hD.sub [0, 1, 2] (by decide) rfl, hS, lv_sub hl [0, 1] rfl, (by omega), (fun j h => absurd h (Nat.not_lt_zero j))⟩
  obtain ⟨i, rfl⟩ : ∃ zz, zz = xx := ⟨_, rfl⟩
  obtain ⟨hP, hD, hS, hl, hi, hq⟩ := hI
  try dsimp only at hmu
  refine lv_iload_n hx hb d_Model_blown_2 rfl (lv_at hl 0 rfl) ?_
  refine lv_aload_n hx hb d_Model_blown_3 rfl (lv_at hl 1 rfl) ?_
  refine va_get (D := (dC, dI)) (ci := 9) (v := .int (nI n)) (C := R_Model) (T := F_Model) (N := 48) hx hb hts (fun w h => List.mem_cons_of_mem _ (i_Model w h)) hown hK hP 0 rfl rfl 14 (by decide) (hts _ (List.mem_cons_of_mem _ kw_855)) (fun _ h9 => h9) rfl d_Model_blown_4 ?_
  refine lv_icmp_ge (tgt := 54) hx hb d_Model_blown_7 (by decide) (fun c7 => ?_) (fun c7 => ?_)
  · skip
    have c7 : n ≤ i := (nI_leI (a := n) (b := i) (by omega) (by omega)).mp c7
    refine lv_iconst (v := 0) hx hb d_Model_blown_54 (by decide) ?_
    have hP9 := hP.sub (ws' := [(pm, .inr (9, [.double side, .double cut, .double skin, .double heat, .ref pX, .ref pY, .ref pU, .ref pV, .ref pM, .ref pS, .ref pK, .ref pW, .ref pD, .ref pC, .int (nI n), .int (nI nb), .int (nI nr), .ref pBI, .ref pBJ, .ref pRI, .ref pRJ, .ref pBK, .ref pBL, .ref pRL, .ref pLX, .ref pLY, .int isT, .ref pOX, .ref pOY, .ref pOU, .ref pOV, .ref pNX, .ref pNY, .ref pFX, .ref pFY, .ref pBN, .int stn, .int tm, .int rd, .int tk, .int ov1, .int st1, .int bl1, .int thw, .int cg, .double qa, .double qb, .double qr])), (pU, .inl (cD, 10, .inr (.inr (.inr (.inl u))))), (pV, .inl (cD, 10, .inr (.inr (.inr (.inl v)))))]) [0, 1, 2] rfl
    have hD9 := hD.sub (ws' := [(pm, .inr (9, [.double side, .double cut, .double skin, .double heat, .ref pX, .ref pY, .ref pU, .ref pV, .ref pM, .ref pS, .ref pK, .ref pW, .ref pD, .ref pC, .int (nI n), .int (nI nb), .int (nI nr), .ref pBI, .ref pBJ, .ref pRI, .ref pRJ, .ref pBK, .ref pBL, .ref pRL, .ref pLX, .ref pLY, .int isT, .ref pOX, .ref pOY, .ref pOU, .ref pOV, .ref pNX, .ref pNY, .ref pFX, .ref pFY, .ref pBN, .int stn, .int tm, .int rd, .int tk, .int ov1, .int st1, .int bl1, .int thw, .int cg, .double qa, .double qb, .double qr])), (pU, .inl (cD, 10, .inr (.inr (.inr (.inl u))))), (pV, .inl (cD, 10, .inr (.inr (.inr (.inl v)))))]) [0, 1, 2] (by decide) rfl
    exact W.zret (v := 0) hx hb hr rfl (fun tt9 ht9 hW9 => ⟨⟨0, (), rfl, (pb_b_f (fun h => by obtain ⟨j, h1, h2⟩ := h; exact hq j (by omega) h2)).symm, by rw [ht9]; exact hP9, va_K.moved hW9.alike hK, hD9⟩, hS.F ht9⟩) hS.2.2 d_Model_blown_55
  · skip
    have c7 : ¬ n ≤ i := fun h => c7 ((nI_leI (a := n) (b := i) (by omega) (by omega)).mpr h)
    refine lv_aload_n hx hb d_Model_blown_10 rfl (lv_at hl 1 rfl) ?_
    refine va_get (D := (dC, dI)) (ci := 9) (v := .ref pU) (C := R_Model) (T := F_Model) (N := 48) hx hb hts (fun w h => List.mem_cons_of_mem _ (i_Model w h)) hown hK hP 0 rfl rfl 6 (by decide) (hts _ (List.mem_cons_of_mem _ kw_847)) (fun _ h9 => h9) rfl d_Model_blown_11 ?_
    refine lv_iload_n hx hb d_Model_blown_14 rfl (lv_at hl 0 rfl) ?_
    refine gx_dald hx hb hK hP 1 1 rfl rfl (by omega) (by decide) d_Model_blown_15 ?_
    refine lv_ldc2d (v := 13920209183539462144) hx hb hown (hts (.constantDouble R_Model 219 13920209183539462144) (by decide +kernel)) d_Model_blown_16 ?_
    refine lv_ldc2d (v := 4696837146684686336) hx hb hown (hts (.constantDouble R_Model 221 4696837146684686336) (by decide +kernel)) d_Model_blown_19 ?_
    refine gx_Si (st0 := [.double 4696837146684686336, .double 13920209183539462144, .double (u i)]) (As := [.double (u i), .double 13920209183539462144, .double 4696837146684686336]) (rest := []) (wr := [(pm, .inr (9, [.double side, .double cut, .double skin, .double heat, .ref pX, .ref pY, .ref pU, .ref pV, .ref pM, .ref pS, .ref pK, .ref pW, .ref pD, .ref pC, .int (nI n), .int (nI nb), .int (nI nr), .ref pBI, .ref pBJ, .ref pRI, .ref pRJ, .ref pBK, .ref pBL, .ref pRL, .ref pLX, .ref pLY, .int isT, .ref pOX, .ref pOY, .ref pOU, .ref pOV, .ref pNX, .ref pNY, .ref pFX, .ref pFY, .ref pBN, .int stn, .int tm, .int rd, .int tk, .int ov1, .int st1, .int bl1, .int thw, .int cg, .double qa, .double qb, .double qr])), (pU, .inl (cD, 10, .inr (.inr (.inr (.inl u))))), (pV, .inl (cD, 10, .inr (.inr (.inr (.inl v)))))]) ⟨hx, hb, hml, hown, hts⟩ hN hK hP hD hS hA [] [0, 1, 2] rfl rfl (by decide) (c_Model_in l dC dI cI cD cZ H.size (u i) 13920209183539462144 4696837146684686336) (va_cwS 3 hts (gx_gS kw_996 kw_997 kw_54 kw_998) rfl rfl rfl (by decide +kernel) ⟨Nat.le_of_ble_eq_true rfl, Nat.le_of_ble_eq_true rfl⟩) rfl hl.1 rfl (Nat.le_of_ble_eq_true rfl) d_Model_blown_22 ⟨Nat.le_of_ble_eq_true rfl, Nat.le_of_ble_eq_true rfl⟩ (fun r_1 u_2 H locs hw22 hP hD hS => ?_)
    try dsimp only at hw22 hP hD
    have hP : va_P (dC, dI) classes [(pm, .inr (9, [.double side, .double cut, .double skin, .double heat, .ref pX, .ref pY, .ref pU, .ref pV, .ref pM, .ref pS, .ref pK, .ref pW, .ref pD, .ref pC, .int (nI n), .int (nI nb), .int (nI nr), .ref pBI, .ref pBJ, .ref pRI, .ref pRJ, .ref pBK, .ref pBL, .ref pRL, .ref pLX, .ref pLY, .int isT, .ref pOX, .ref pOY, .ref pOU, .ref pOV, .ref pNX, .ref pNY, .ref pFX, .ref pFY, .ref pBN, .int stn, .int tm, .int rd, .int tk, .int ov1, .int st1, .int bl1, .int thw, .int cg, .double qa, .double qb, .double qr])), (pU, .inl (cD, 10, .inr (.inr (.inr (.inl u))))), (pV, .inl (cD, 10, .inr (.inr (.inr (.inl v)))))] H := hP
    have hD : va_D A [(pm, .inr (9, [.double side, .double cut, .double skin, .double heat, .ref pX, .ref pY, .ref pU, .ref pV, .ref pM, .ref pS, .ref pK, .ref pW, .ref pD, .ref pC, .int (nI n), .int (nI nb), .int (nI nr), .ref pBI, .ref pBJ, .ref pRI, .ref pRJ, .ref pBK, .ref pBL, .ref pRL, .ref pLX, .ref pLY, .int isT, .ref pOX, .ref pOY, .ref pOU, .ref pOV, .ref pNX, .ref pNY, .ref pFX, .ref pFY, .ref pBN, .int stn, .int tm, .int rd, .int tk, .int ov1, .int st1, .int bl1, .int thw, .int cg, .double qa, .double qb, .double qr])), (pU, .inl (cD, 10, .inr (.inr (.inr (.inl u))))), (pV, .inl (cD, 10, .inr (.inr (.inr (.inl v)))))] := hD
    obtain rfl : r_1 = pb_b (pb_in (u i) 13920209183539462144 4696837146684686336) := hw22
    refine lv_if_eq (tgt := 46) hx hb d_Model_blown_25 (by decide) (fun c25 => ?_) (fun c25 => ?_)
    · skip
      refine lv_iconst (v := 1) hx hb d_Model_blown_46 (by decide) ?_
      have hP9 := hP.sub (ws' := [(pm, .inr (9, [.double side, .double cut, .double skin, .double heat, .ref pX, .ref pY, .ref pU, .ref pV, .ref pM, .ref pS, .ref pK, .ref pW, .ref pD, .ref pC, .int (nI n), .int (nI nb), .int (nI nr), .ref pBI, .ref pBJ, .ref pRI, .ref pRJ, .ref pBK, .ref pBL, .ref pRL, .ref pLX, .ref pLY, .int isT, .ref pOX, .ref pOY, .ref pOU, .ref pOV, .ref pNX, .ref pNY, .ref pFX, .ref pFY, .ref pBN, .int stn, .int tm, .int rd, .int tk, .int ov1, .int st1, .int bl1, .int thw, .int cg, .double qa, .double qb, .double qr])), (pU, .inl (cD, 10, .inr (.inr (.inr (.inl u))))), (pV, .inl (cD, 10, .inr (.inr (.inr (.inl v)))))]) [0, 1, 2] rfl
      have hD9 := hD.sub (ws' := [(pm, .inr (9, [.double side, .double cut, .double skin, .double heat, .ref pX, .ref pY, .ref pU, .ref pV, .ref pM, .ref pS, .ref pK, .ref pW, .ref pD, .ref pC, .int (nI n), .int (nI nb), .int (nI nr), .ref pBI, .ref pBJ, .ref pRI, .ref pRJ, .ref pBK, .ref pBL, .ref pRL, .ref pLX, .ref pLY, .int isT, .ref pOX, .ref pOY, .ref pOU, .ref pOV, .ref pNX, .ref pNY, .ref pFX, .ref pFY, .ref pBN, .int stn, .int tm, .int rd, .int tk, .int ov1, .int st1, .int bl1, .int thw, .int cg, .double qa, .double qb, .double qr])), (pU, .inl (cD, 10, .inr (.inr (.inr (.inl u))))), (pV, .inl (cD, 10, .inr (.inr (.inr (.inl v)))))]) [0, 1, 2] (by decide) rfl
      exact W.zret (v := 1) hx hb hr rfl (fun tt9 ht9 hW9 => ⟨⟨1, (), rfl, (pb_b_t ⟨i, by omega, Or.inl ((pb_fast_in (hFu i (by omega))).mp (pb_b_0.mp c25))⟩).symm, by rw [ht9]; exact hP9, va_K.moved hW9.alike hK, hD9⟩, hS.F ht9⟩) hS.2.2 d_Model_blown_47
    · skip
      refine lv_aload_n hx hb d_Model_blown_28 rfl (lv_at hl 1 rfl) ?_
      refine va_get (D := (dC, dI)) (ci := 9) (v := .ref pV) (C := R_Model) (T := F_Model) (N := 48) hx hb hts (fun w h => List.mem_cons_of_mem _ (i_Model w h)) hown hK hP 0 rfl rfl 7 (by decide) (hts _ (List.mem_cons_of_mem _ kw_848)) (fun _ h9 => h9) rfl d_Model_blown_29 ?_
      refine lv_iload_n hx hb d_Model_blown_32 rfl (lv_at hl 0 rfl) ?_
      refine gx_dald hx hb hK hP 2 1 rfl rfl (by omega) (by decide) d_Model_blown_33 ?_
      refine lv_ldc2d (v := 13920209183539462144) hx hb hown (hts (.constantDouble R_Model 219 13920209183539462144) (by decide +kernel)) d_Model_blown_34 ?_
      refine lv_ldc2d (v := 4696837146684686336) hx hb hown (hts (.constantDouble R_Model 221 4696837146684686336) (by decide +kernel)) d_Model_blown_37 ?_
      refine gx_Si (st0 := [.double 4696837146684686336, .double 13920209183539462144, .double (v i)]) (As := [.double (v i), .double 13920209183539462144, .double 4696837146684686336]) (rest := []) (wr := [(pm, .inr (9, [.double side, .double cut, .double skin, .double heat, .ref pX, .ref pY, .ref pU, .ref pV, .ref pM, .ref pS, .ref pK, .ref pW, .ref pD, .ref pC, .int (nI n), .int (nI nb), .int (nI nr), .ref pBI, .ref pBJ, .ref pRI, .ref pRJ, .ref pBK, .ref pBL, .ref pRL, .ref pLX, .ref pLY, .int isT, .ref pOX, .ref pOY, .ref pOU, .ref pOV, .ref pNX, .ref pNY, .ref pFX, .ref pFY, .ref pBN, .int stn, .int tm, .int rd, .int tk, .int ov1, .int st1, .int bl1, .int thw, .int cg, .double qa, .double qb, .double qr])), (pU, .inl (cD, 10, .inr (.inr (.inr (.inl u))))), (pV, .inl (cD, 10, .inr (.inr (.inr (.inl v)))))]) ⟨hx, hb, hml, hown, hts⟩ hN hK hP hD hS hA [] [0, 1, 2] rfl rfl (by decide) (c_Model_in l dC dI cI cD cZ H.size (v i) 13920209183539462144 4696837146684686336) (va_cwS 3 hts (gx_gS kw_996 kw_997 kw_54 kw_998) rfl rfl rfl (by decide +kernel) ⟨Nat.le_of_ble_eq_true rfl, Nat.le_of_ble_eq_true rfl⟩) rfl hl.1 rfl (Nat.le_of_ble_eq_true rfl) d_Model_blown_40 ⟨Nat.le_of_ble_eq_true rfl, Nat.le_of_ble_eq_true rfl⟩ (fun r_3 u_4 H locs hw40 hP hD hS => ?_)
      try dsimp only at hw40 hP hD
      have hP : va_P (dC, dI) classes [(pm, .inr (9, [.double side, .double cut, .double skin, .double heat, .ref pX, .ref pY, .ref pU, .ref pV, .ref pM, .ref pS, .ref pK, .ref pW, .ref pD, .ref pC, .int (nI n), .int (nI nb), .int (nI nr), .ref pBI, .ref pBJ, .ref pRI, .ref pRJ, .ref pBK, .ref pBL, .ref pRL, .ref pLX, .ref pLY, .int isT, .ref pOX, .ref pOY, .ref pOU, .ref pOV, .ref pNX, .ref pNY, .ref pFX, .ref pFY, .ref pBN, .int stn, .int tm, .int rd, .int tk, .int ov1, .int st1, .int bl1, .int thw, .int cg, .double qa, .double qb, .double qr])), (pU, .inl (cD, 10, .inr (.inr (.inr (.inl u))))), (pV, .inl (cD, 10, .inr (.inr (.inr (.inl v)))))] H := hP
      have hD : va_D A [(pm, .inr (9, [.double side, .double cut, .double skin, .double heat, .ref pX, .ref pY, .ref pU, .ref pV, .ref pM, .ref pS, .ref pK, .ref pW, .ref pD, .ref pC, .int (nI n), .int (nI nb), .int (nI nr), .ref pBI, .ref pBJ, .ref pRI, .ref pRJ, .ref pBK, .ref pBL, .ref pRL, .ref pLX, .ref pLY, .int isT, .ref pOX, .ref pOY, .ref pOU, .ref pOV, .ref pNX, .ref pNY, .ref pFX, .ref pFY, .ref pBN, .int stn, .int tm, .int rd, .int tk, .int ov1, .int st1, .int bl1, .int thw, .int cg, .double qa, .double qb, .double qr])), (pU, .inl (cD, 10, .inr (.inr (.inr (.inl u))))), (pV, .inl (cD, 10, .inr (.inr (.inr (.inl v)))))] := hD
      obtain rfl : r_3 = pb_b (pb_in (v i) 13920209183539462144 4696837146684686336) := hw40
      refine lv_if_ne (tgt := 48) hx hb d_Model_blown_43 (by decide) (fun c43 => ?_) (fun c43 => ?_)
      · skip
        refine lv_iinc (v := nI (i + 1)) (lv' := [(1, .int (nI (i + 1))), (0, .ref pm)]) hx hb d_Model_blown_48 hl (k := 0) rfl (nI_1 i) (by decide) rfl (fun ls hl => ?_)
        refine lv_goto (tgt := 2) hx hb d_Model_blown_51 (by decide) ?_
        exact K2 (i + 1) _ _ _ ⟨hP.sub [0, 1, 2] rfl, hD.sub [0, 1, 2] (by decide) rfl, hS, lv_sub hl [0, 1] rfl, (by omega), (fun j h => (Nat.lt_or_eq_of_le (Nat.lt_succ_iff.mp h)).elim (hq j) (fun e => by rw [e]; exact fun h => h.elim (fun q => (pb_fast_in (hFu i (by omega))).mpr q (pb_b_n0 c25)) (fun q => (pb_fast_in (hFv i (by omega))).mpr q (pb_b_n0 c43))))⟩ (by omega)
      · skip
        refine lv_iconst (v := 1) hx hb d_Model_blown_46 (by decide) ?_
        have hP9 := hP.sub (ws' := [(pm, .inr (9, [.double side, .double cut, .double skin, .double heat, .ref pX, .ref pY, .ref pU, .ref pV, .ref pM, .ref pS, .ref pK, .ref pW, .ref pD, .ref pC, .int (nI n), .int (nI nb), .int (nI nr), .ref pBI, .ref pBJ, .ref pRI, .ref pRJ, .ref pBK, .ref pBL, .ref pRL, .ref pLX, .ref pLY, .int isT, .ref pOX, .ref pOY, .ref pOU, .ref pOV, .ref pNX, .ref pNY, .ref pFX, .ref pFY, .ref pBN, .int stn, .int tm, .int rd, .int tk, .int ov1, .int st1, .int bl1, .int thw, .int cg, .double qa, .double qb, .double qr])), (pU, .inl (cD, 10, .inr (.inr (.inr (.inl u))))), (pV, .inl (cD, 10, .inr (.inr (.inr (.inl v)))))]) [0, 1, 2] rfl
        have hD9 := hD.sub (ws' := [(pm, .inr (9, [.double side, .double cut, .double skin, .double heat, .ref pX, .ref pY, .ref pU, .ref pV, .ref pM, .ref pS, .ref pK, .ref pW, .ref pD, .ref pC, .int (nI n), .int (nI nb), .int (nI nr), .ref pBI, .ref pBJ, .ref pRI, .ref pRJ, .ref pBK, .ref pBL, .ref pRL, .ref pLX, .ref pLY, .int isT, .ref pOX, .ref pOY, .ref pOU, .ref pOV, .ref pNX, .ref pNY, .ref pFX, .ref pFY, .ref pBN, .int stn, .int tm, .int rd, .int tk, .int ov1, .int st1, .int bl1, .int thw, .int cg, .double qa, .double qb, .double qr])), (pU, .inl (cD, 10, .inr (.inr (.inr (.inl u))))), (pV, .inl (cD, 10, .inr (.inr (.inr (.inl v)))))]) [0, 1, 2] (by decide) rfl
        exact W.zret (v := 1) hx hb hr rfl (fun tt9 ht9 hW9 => ⟨⟨1, (), rfl, (pb_b_t ⟨i, by omega, Or.inr ((pb_fast_in (hFv i (by omega))).mp (pb_b_0.mp c43))⟩).symm, by rw [ht9]; exact hP9, va_K.moved hW9.alike hK, hD9⟩, hS.F ht9⟩) hS.2.2 d_Model_blown_47
