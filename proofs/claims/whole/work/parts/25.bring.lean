theorem d_Atoms_bringTo_0 : decode b_Atoms_bringTo 0 = .ok (.aload_n 0, 1) := by decide +kernel
theorem d_Atoms_bringTo_1 : decode b_Atoms_bringTo 1 = .ok (.invokevirtual 41, 3) := by decide +kernel
theorem d_Atoms_bringTo_4 : decode b_Atoms_bringTo 4 = .ok (.dstore_n 3, 1) := by decide +kernel
theorem d_Atoms_bringTo_5 : decode b_Atoms_bringTo 5 = .ok (.dload_n 3, 1) := by decide +kernel
theorem d_Atoms_bringTo_6 : decode b_Atoms_bringTo 6 = .ok (.ldc2_w 45, 3) := by decide +kernel
theorem d_Atoms_bringTo_9 : decode b_Atoms_bringTo 9 = .ok (.dcmp .g, 1) := by decide +kernel
theorem d_Atoms_bringTo_10 : decode b_Atoms_bringTo 10 = .ok (.ifCond .ge 5, 3) := by decide +kernel
theorem d_Atoms_bringTo_13 : decode b_Atoms_bringTo 13 = .ok (.dload_n 3, 1) := by decide +kernel
theorem d_Atoms_bringTo_14 : decode b_Atoms_bringTo 14 = .ok (.dreturn, 1) := by decide +kernel
theorem d_Atoms_bringTo_15 : decode b_Atoms_bringTo 15 = .ok (.dload_n 1, 1) := by decide +kernel
theorem d_Atoms_bringTo_16 : decode b_Atoms_bringTo 16 = .ok (.dload_n 3, 1) := by decide +kernel
theorem d_Atoms_bringTo_17 : decode b_Atoms_bringTo 17 = .ok (.ddiv, 1) := by decide +kernel
theorem d_Atoms_bringTo_18 : decode b_Atoms_bringTo 18 = .ok (.invokestatic 47, 3) := by decide +kernel
theorem d_Atoms_bringTo_21 : decode b_Atoms_bringTo 21 = .ok (.dstore 5, 2) := by decide +kernel
theorem d_Atoms_bringTo_23 : decode b_Atoms_bringTo 23 = .ok (.iconst 0, 1) := by decide +kernel
theorem d_Atoms_bringTo_24 : decode b_Atoms_bringTo 24 = .ok (.istore 7, 2) := by decide +kernel
theorem d_Atoms_bringTo_26 : decode b_Atoms_bringTo 26 = .ok (.iload 7, 2) := by decide +kernel
theorem d_Atoms_bringTo_28 : decode b_Atoms_bringTo 28 = .ok (.aload_n 0, 1) := by decide +kernel
theorem d_Atoms_bringTo_29 : decode b_Atoms_bringTo 29 = .ok (.getfield 35, 3) := by decide +kernel
theorem d_Atoms_bringTo_32 : decode b_Atoms_bringTo 32 = .ok (.if_icmp .ge 53, 3) := by decide +kernel
theorem d_Atoms_bringTo_35 : decode b_Atoms_bringTo 35 = .ok (.aload_n 0, 1) := by decide +kernel
theorem d_Atoms_bringTo_36 : decode b_Atoms_bringTo 36 = .ok (.getfield 31, 3) := by decide +kernel
theorem d_Atoms_bringTo_39 : decode b_Atoms_bringTo 39 = .ok (.iload 7, 2) := by decide +kernel
theorem d_Atoms_bringTo_41 : decode b_Atoms_bringTo 41 = .ok (.baload, 1) := by decide +kernel
theorem d_Atoms_bringTo_42 : decode b_Atoms_bringTo 42 = .ok (.ifCond .ne 37, 3) := by decide +kernel
theorem d_Atoms_bringTo_45 : decode b_Atoms_bringTo 45 = .ok (.aload_n 0, 1) := by decide +kernel
theorem d_Atoms_bringTo_46 : decode b_Atoms_bringTo 46 = .ok (.getfield 18, 3) := by decide +kernel
theorem d_Atoms_bringTo_49 : decode b_Atoms_bringTo 49 = .ok (.iload 7, 2) := by decide +kernel
theorem d_Atoms_bringTo_51 : decode b_Atoms_bringTo 51 = .ok (.aload_n 0, 1) := by decide +kernel
theorem d_Atoms_bringTo_52 : decode b_Atoms_bringTo 52 = .ok (.getfield 18, 3) := by decide +kernel
theorem d_Atoms_bringTo_55 : decode b_Atoms_bringTo 55 = .ok (.iload 7, 2) := by decide +kernel
theorem d_Atoms_bringTo_57 : decode b_Atoms_bringTo 57 = .ok (.daload, 1) := by decide +kernel
theorem d_Atoms_bringTo_58 : decode b_Atoms_bringTo 58 = .ok (.dload 5, 2) := by decide +kernel
theorem d_Atoms_bringTo_60 : decode b_Atoms_bringTo 60 = .ok (.dmul, 1) := by decide +kernel
theorem d_Atoms_bringTo_61 : decode b_Atoms_bringTo 61 = .ok (.dastore, 1) := by decide +kernel
theorem d_Atoms_bringTo_62 : decode b_Atoms_bringTo 62 = .ok (.aload_n 0, 1) := by decide +kernel
theorem d_Atoms_bringTo_63 : decode b_Atoms_bringTo 63 = .ok (.getfield 21, 3) := by decide +kernel
theorem d_Atoms_bringTo_66 : decode b_Atoms_bringTo 66 = .ok (.iload 7, 2) := by decide +kernel
theorem d_Atoms_bringTo_68 : decode b_Atoms_bringTo 68 = .ok (.aload_n 0, 1) := by decide +kernel
theorem d_Atoms_bringTo_69 : decode b_Atoms_bringTo 69 = .ok (.getfield 21, 3) := by decide +kernel
theorem d_Atoms_bringTo_72 : decode b_Atoms_bringTo 72 = .ok (.iload 7, 2) := by decide +kernel
theorem d_Atoms_bringTo_74 : decode b_Atoms_bringTo 74 = .ok (.daload, 1) := by decide +kernel
theorem d_Atoms_bringTo_75 : decode b_Atoms_bringTo 75 = .ok (.dload 5, 2) := by decide +kernel
theorem d_Atoms_bringTo_77 : decode b_Atoms_bringTo 77 = .ok (.dmul, 1) := by decide +kernel
theorem d_Atoms_bringTo_78 : decode b_Atoms_bringTo 78 = .ok (.dastore, 1) := by decide +kernel
theorem d_Atoms_bringTo_79 : decode b_Atoms_bringTo 79 = .ok (.iinc 7 1, 3) := by decide +kernel
theorem d_Atoms_bringTo_82 : decode b_Atoms_bringTo 82 = .ok (.goto (-56), 3) := by decide +kernel
theorem d_Atoms_bringTo_85 : decode b_Atoms_bringTo 85 = .ok (.dload_n 3, 1) := by decide +kernel
theorem d_Atoms_bringTo_86 : decode b_Atoms_bringTo 86 = .ok (.dreturn, 1) := by decide +kernel
set_option maxHeartbeats 4000000 in
set_option maxRecDepth 100000 in
/-- scale -/
theorem c_Atoms_bringTo (l : Launch) (dC : Nat → ClassId) (dI : Nat → Nat → Nat) (cI cD cZ : ClassId) (sz : Nat) (ha : Nat) (hax : Nat) (hay : Nat) (hau : Nat) (hav : Nat) (ham : Nat) (has : Nat) (hak : Nat) (x : Nat → UInt64) (y : Nat → UInt64) (u : Nat → UInt64) (v : Nat → UInt64) (mass : Nat → UInt64) (sort : Nat → Int32) (stuck : Nat → Int32) (n : Nat) (tw : UInt64) (hn : n ≤ 10) (hmI : ∀ i, i < n → pb_Im (mass i)) (huI : ∀ i, i < n → pb_Iu (u i)) (hvI : ∀ i, i < n → pb_Iu (v i)) (htw : pb_It tw) : Met l y_Atoms_bringTo w_Atoms_bringTo ({ frames := 1, cells := 0, slots := 0, locals := 24 }) (va_Pc [.ref ha, .double tw] (gx_B (dC, dI) classes (gx_T cI cD cZ) [(ha, .inr (0, [.ref hax, .ref hay, .ref hau, .ref hav, .ref ham, .ref has, .ref hak, .int (nI n)])), (hax, .inl (cD, 10, .inr (.inr (.inr (.inl x))))), (hay, .inl (cD, 10, .inr (.inr (.inr (.inl y))))), (hau, .inl (cD, 10, .inr (.inr (.inr (.inl u))))), (hav, .inl (cD, 10, .inr (.inr (.inr (.inl v))))), (ham, .inl (cD, 10, .inr (.inr (.inr (.inl mass))))), (has, .inl (cI, 10, .inl sort)), (hak, .inl (cZ, 10, .inl stuck))] sz)) (va_Qd (fun (rr : UInt64) (uu : Unit) => rr = pb_heat mass u v stuck n) (fun (uu : Unit) t => gx_E (dC, dI) classes (gx_T cI cD cZ) (va_A [(ha, .inr (0, [.ref hax, .ref hay, .ref hau, .ref hav, .ref ham, .ref has, .ref hak, .int (nI n)])), (hax, .inl (cD, 10, .inr (.inr (.inr (.inl x))))), (hay, .inl (cD, 10, .inr (.inr (.inr (.inl y))))), (hau, .inl (cD, 10, .inr (.inr (.inr (.inl u))))), (hav, .inl (cD, 10, .inr (.inr (.inr (.inl v))))), (ham, .inl (cD, 10, .inr (.inr (.inr (.inl mass))))), (has, .inl (cI, 10, .inl sort)), (hak, .inl (cZ, 10, .inl stuck))] sz) [(ha, .inr (0, [.ref hax, .ref hay, .ref hau, .ref hav, .ref ham, .ref has, .ref hak, .int (nI n)])), (hax, .inl (cD, 10, .inr (.inr (.inr (.inl x))))), (hay, .inl (cD, 10, .inr (.inr (.inr (.inl y))))), (hau, .inl (cD, 10, .inr (.inr (.inr (.inl (pb_if (pb_cold mass u v stuck n) u (pb_fill (pb_scl (pb_root (FP.ddiv tw (pb_heat mass u v stuck n))) u stuck) u n))))))), (hav, .inl (cD, 10, .inr (.inr (.inr (.inl (pb_if (pb_cold mass u v stuck n) v (pb_fill (pb_scl (pb_root (FP.ddiv tw (pb_heat mass u v stuck n))) v stuck) v n))))))), (ham, .inl (cD, 10, .inr (.inr (.inr (.inl mass))))), (has, .inl (cI, 10, .inl sort)), (hak, .inl (cZ, 10, .inl stuck))] t) (va_A [(ha, .inr (0, [.ref hax, .ref hay, .ref hau, .ref hav, .ref ham, .ref has, .ref hak, .int (nI n)])), (hax, .inl (cD, 10, .inr (.inr (.inr (.inl x))))), (hay, .inl (cD, 10, .inr (.inr (.inr (.inl y))))), (hau, .inl (cD, 10, .inr (.inr (.inr (.inl u))))), (hav, .inl (cD, 10, .inr (.inr (.inr (.inl v))))), (ham, .inl (cD, 10, .inr (.inr (.inr (.inl mass))))), (has, .inl (cI, 10, .inl sort)), (hak, .inl (cZ, 10, .inl stuck))] sz)) 0 0 (va_A [(ha, .inr (0, [.ref hax, .ref hay, .ref hau, .ref hav, .ref ham, .ref has, .ref hak, .int (nI n)])), (hax, .inl (cD, 10, .inr (.inr (.inr (.inl x))))), (hay, .inl (cD, 10, .inr (.inr (.inr (.inl y))))), (hau, .inl (cD, 10, .inr (.inr (.inr (.inl u))))), (hav, .inl (cD, 10, .inr (.inr (.inr (.inl v))))), (ham, .inl (cD, 10, .inr (.inr (.inr (.inl mass))))), (has, .inl (cI, 10, .inl sort)), (hak, .inl (cZ, 10, .inl stuck))] sz) := by
  refine Met.ofW (cc := b_Atoms_bringTo) (maxL := 8) (ret := (some .double)) (by decide) rfl ?_
  intro p e s m args below meth c s₁ B hml hv
  obtain ⟨rfl, hsz, hP, hK, hD0, hN⟩ := hv
  have hx := B.exec
  have hb := B.bytes
  have hr := B.returns
  have hts := atoms_spec (ws := w_Atoms_bringTo) B.pre
  have hown : s.vm.findClass R_Atoms = some m.cls := findClass_of_methodNamed B.named
  have hlocks := B.notSynchronized
  subst hsz
  have hD := hD0.self (sz := s.heap.size)
  generalize hAe : va_A [(ha, .inr (0, [.ref hax, .ref hay, .ref hau, .ref hav, .ref ham, .ref has, .ref hak, .int (nI n)])), (hax, .inl (cD, 10, .inr (.inr (.inr (.inl x))))), (hay, .inl (cD, 10, .inr (.inr (.inr (.inl y))))), (hau, .inl (cD, 10, .inr (.inr (.inr (.inl u))))), (hav, .inl (cD, 10, .inr (.inr (.inr (.inl v))))), (ham, .inl (cD, 10, .inr (.inr (.inr (.inl mass))))), (has, .inl (cI, 10, .inl sort)), (hak, .inl (cZ, 10, .inl stuck))] s.heap.size = A at hD ⊢
  have hA : ∀ q : Nat, s.heap.size ≤ q → A q := fun q h => by rw [← hAe]; exact Or.inr h
  have hS : va_S A s.heap s.heap [] := va_S.rf
  have hl := lv_entry ([.ref ha, .double tw]) (n := 8) (Nat.le_of_ble_eq_true rfl)
  rw [lg_entry_eq]
  generalize (lg_sl ([.ref ha, .double tw]) ++ List.replicate (8 - (lg_sl ([.ref ha, .double tw])).length) Slot.unset).toArray = ls at hl ⊢
  have hl : lv_has ls 8 [(0, .ref ha), (1, .double tw)] := hl
  obtain ⟨H, hH⟩ : ∃ H, H = s.heap := ⟨_, rfl⟩
  rw [← hH] at hP
  have hS : va_S A s.heap H [] := by rw [hH]; exact hS
  refine gx_start hH ?_
  refine lv_aload_n hx hb d_Atoms_bringTo_0 rfl (lv_at hl 0 rfl) ?_
  refine gx_Vd (st0 := [.ref ha]) (As := []) (rest := []) (wr := []) ⟨hx, hb, hml, hown, hts⟩ hN hK hP hD hS hA [0, 1, 2, 3, 4, 5, 6, 7] [] rfl rfl (by decide) (c_Atoms_heat l dC dI cI cD cZ H.size ha hax hay hau hav ham has hak x y u v mass sort stuck n (by omega) hmI huI hvI) (cwV 0 hts (gx_gV kw_744 kw_376 kw_377 kw_47 kw_378) rfl rfl rfl (by decide +kernel) ⟨Nat.le_of_ble_eq_true rfl, Nat.le_of_ble_eq_true rfl⟩) 0 0 rfl rfl rfl hl.1 rfl (Nat.le_of_ble_eq_true rfl) d_Atoms_bringTo_1 ⟨Nat.le_of_ble_eq_true rfl, Nat.le_of_ble_eq_true rfl⟩ (fun r_1 u_2 H locs hw1 hP hD hS => ?_)
  try dsimp only at hw1 hP hD
  have hP : va_P (dC, dI) classes [(ha, .inr (0, [.ref hax, .ref hay, .ref hau, .ref hav, .ref ham, .ref has, .ref hak, .int (nI n)])), (hax, .inl (cD, 10, .inr (.inr (.inr (.inl x))))), (hay, .inl (cD, 10, .inr (.inr (.inr (.inl y))))), (hau, .inl (cD, 10, .inr (.inr (.inr (.inl u))))), (hav, .inl (cD, 10, .inr (.inr (.inr (.inl v))))), (ham, .inl (cD, 10, .inr (.inr (.inr (.inl mass))))), (has, .inl (cI, 10, .inl sort)), (hak, .inl (cZ, 10, .inl stuck))] H := hP
  have hD : va_D A [(ha, .inr (0, [.ref hax, .ref hay, .ref hau, .ref hav, .ref ham, .ref has, .ref hak, .int (nI n)])), (hax, .inl (cD, 10, .inr (.inr (.inr (.inl x))))), (hay, .inl (cD, 10, .inr (.inr (.inr (.inl y))))), (hau, .inl (cD, 10, .inr (.inr (.inr (.inl u))))), (hav, .inl (cD, 10, .inr (.inr (.inr (.inl v))))), (ham, .inl (cD, 10, .inr (.inr (.inr (.inl mass))))), (has, .inl (cI, 10, .inl sort)), (hak, .inl (cZ, 10, .inl stuck))] := hD
  obtain rfl : r_1 = pb_heat mass u v stuck n := hw1
  have gh := pb_heat_I (stuck := stuck) hn hmI huI hvI
  refine lv_dstore_n (lv' := [(3, .double (pb_heat mass u v stuck n)), (0, .ref ha), (1, .double tw)]) hx hb d_Atoms_bringTo_4 rfl hl (by decide) rfl (fun ls hl => ?_)
  refine lv_dload_n hx hb d_Atoms_bringTo_5 rfl (lv_at hl 0 rfl) ?_
  refine lv_ldc2d (v := 4517329193108106637) hx hb hown (hts (.constantDouble R_Atoms 45 4517329193108106637) (by decide +kernel)) d_Atoms_bringTo_6 ?_
  refine gx_lt (tgt := 15) hx hb d_Atoms_bringTo_9 d_Atoms_bringTo_10 (by decide) (fun c9 => ?_) (fun c9 => ?_)
  · skip
    have c6 := fp_const (a := 4517329193108106637) (T := (fp_d 4722366482869645 1002)) (by decide +kernel)
    have gh2 : fp_I (pb_heat mass u v stuck n) (fp_d 4722366482869645 1002) (fp_d 10 1161) := ⟨gh.1, Int.not_lt.mp (fun q => c9 (FP.Core.dcmp_lt.mpr ⟨FP.Core.DFin.ne_nan gh.1, FP.Core.DFin.ne_nan c6.1, Int.lt_of_lt_of_le q c6.2.1⟩)), gh.2.2⟩
    refine lv_dload_n hx hb d_Atoms_bringTo_15 rfl (lv_at hl 2 rfl) ?_
    refine lv_dload_n hx hb d_Atoms_bringTo_16 rfl (lv_at hl 0 rfl) ?_
    have g_3 := fp_I_div (fp_d 0 0) (fp_d 15625001 1080) htw gh2 (by decide +kernel)
    refine lv_ddiv hx hb d_Atoms_bringTo_17 g_3.n ?_
    refine gx_SNd (st0 := [.double (FP.ddiv tw (pb_heat mass u v stuck n))]) (As := [.double (FP.ddiv tw (pb_heat mass u v stuck n))]) (rest := []) (wr := [(ha, .inr (0, [.ref hax, .ref hay, .ref hau, .ref hav, .ref ham, .ref has, .ref hak, .int (nI n)])), (hax, .inl (cD, 10, .inr (.inr (.inr (.inl x))))), (hay, .inl (cD, 10, .inr (.inr (.inr (.inl y))))), (hau, .inl (cD, 10, .inr (.inr (.inr (.inl u))))), (hav, .inl (cD, 10, .inr (.inr (.inr (.inl v))))), (ham, .inl (cD, 10, .inr (.inr (.inr (.inl mass))))), (has, .inl (cI, 10, .inl sort)), (hak, .inl (cZ, 10, .inl stuck))]) ⟨hx, hb, hml, hown, hts⟩ hN hK hP hD hS hA [] [0, 1, 2, 3, 4, 5, 6, 7] rfl rfl (by decide) (c_Box_root l dC dI cI cD cZ H.size (FP.ddiv tw (pb_heat mass u v stuck n)) (g_3.w (by decide +kernel) (by decide +kernel))) ⟨va_cnB 1 hts (gx_gg kw_748) rfl rfl rfl hN.2.2.2.2 (hts _ (List.mem_cons_of_mem _ kw_44)) (by decide +kernel) ⟨Nat.le_of_ble_eq_true rfl, Nat.le_of_ble_eq_true rfl⟩, (hts _ (List.mem_cons_of_mem _ kw_747)), trivial⟩ rfl hl.1 rfl (Nat.le_of_ble_eq_true rfl) d_Atoms_bringTo_18 ⟨Nat.le_of_ble_eq_true rfl, Nat.le_of_ble_eq_true rfl⟩ (fun r_4 u_5 H locs hw18 hP hD hS => ?_)
    try dsimp only at hw18 hP hD
    have hP : va_P (dC, dI) classes [(ha, .inr (0, [.ref hax, .ref hay, .ref hau, .ref hav, .ref ham, .ref has, .ref hak, .int (nI n)])), (hax, .inl (cD, 10, .inr (.inr (.inr (.inl x))))), (hay, .inl (cD, 10, .inr (.inr (.inr (.inl y))))), (hau, .inl (cD, 10, .inr (.inr (.inr (.inl u))))), (hav, .inl (cD, 10, .inr (.inr (.inr (.inl v))))), (ham, .inl (cD, 10, .inr (.inr (.inr (.inl mass))))), (has, .inl (cI, 10, .inl sort)), (hak, .inl (cZ, 10, .inl stuck))] H := hP
    have hD : va_D A [(ha, .inr (0, [.ref hax, .ref hay, .ref hau, .ref hav, .ref ham, .ref has, .ref hak, .int (nI n)])), (hax, .inl (cD, 10, .inr (.inr (.inr (.inl x))))), (hay, .inl (cD, 10, .inr (.inr (.inr (.inl y))))), (hau, .inl (cD, 10, .inr (.inr (.inr (.inl u))))), (hav, .inl (cD, 10, .inr (.inr (.inr (.inl v))))), (ham, .inl (cD, 10, .inr (.inr (.inr (.inl mass))))), (has, .inl (cI, 10, .inl sort)), (hak, .inl (cZ, 10, .inl stuck))] := hD
    obtain rfl : r_4 = pb_root (FP.ddiv tw (pb_heat mass u v stuck n)) := hw18
    have g_6 := pb_root_I (g_3.w (by decide +kernel) (by decide +kernel))
    refine lv_dstore (lv' := [(5, .double (pb_root (FP.ddiv tw (pb_heat mass u v stuck n)))), (3, .double (pb_heat mass u v stuck n)), (0, .ref ha), (1, .double tw)]) hx hb d_Atoms_bringTo_21 hl (by decide) rfl (fun ls hl => ?_)
    refine lv_iconst (v := nI 0) hx hb d_Atoms_bringTo_23 (by decide) ?_
    refine lv_istore (lv' := [(7, .int (nI 0)), (5, .double (pb_root (FP.ddiv tw (pb_heat mass u v stuck n)))), (3, .double (pb_heat mass u v stuck n)), (0, .ref ha), (1, .double tw)]) hx hb d_Atoms_bringTo_24 hl (by decide) rfl (fun ls hl => ?_)
    have ez0 := pb_fill_0 (pb_scl (pb_root (FP.ddiv tw (pb_heat mass u v stuck n))) u stuck) u
    have ez1 := pb_fill_0 (pb_scl (pb_root (FP.ddiv tw (pb_heat mass u v stuck n))) v stuck) v
    have hP : va_P (dC, dI) classes [(ha, .inr (0, [.ref hax, .ref hay, .ref hau, .ref hav, .ref ham, .ref has, .ref hak, .int (nI n)])), (hax, .inl (cD, 10, .inr (.inr (.inr (.inl x))))), (hay, .inl (cD, 10, .inr (.inr (.inr (.inl y))))), (hau, .inl (cD, 10, .inr (.inr (.inr (.inl (pb_fill (pb_scl (pb_root (FP.ddiv tw (pb_heat mass u v stuck n))) u stuck) u 0)))))), (hav, .inl (cD, 10, .inr (.inr (.inr (.inl (pb_fill (pb_scl (pb_root (FP.ddiv tw (pb_heat mass u v stuck n))) v stuck) v 0)))))), (ham, .inl (cD, 10, .inr (.inr (.inr (.inl mass))))), (has, .inl (cI, 10, .inl sort)), (hak, .inl (cZ, 10, .inl stuck))] H := by rw [ez0, ez1]; exact hP
    have hD : va_D A [(ha, .inr (0, [.ref hax, .ref hay, .ref hau, .ref hav, .ref ham, .ref has, .ref hak, .int (nI n)])), (hax, .inl (cD, 10, .inr (.inr (.inr (.inl x))))), (hay, .inl (cD, 10, .inr (.inr (.inr (.inl y))))), (hau, .inl (cD, 10, .inr (.inr (.inr (.inl (pb_fill (pb_scl (pb_root (FP.ddiv tw (pb_heat mass u v stuck n))) u stuck) u 0)))))), (hav, .inl (cD, 10, .inr (.inr (.inr (.inl (pb_fill (pb_scl (pb_root (FP.ddiv tw (pb_heat mass u v stuck n))) v stuck) v 0)))))), (ham, .inl (cD, 10, .inr (.inr (.inr (.inl mass))))), (has, .inl (cI, 10, .inl sort)), (hak, .inl (cZ, 10, .inl stuck))] := by rw [ez0, ez1]; exact hD
    refine gx_loop (fun (i : Nat) (H : Heap) (locs : List Loc) (ls : Array Slot) => va_P (dC, dI) classes [(ha, .inr (0, [.ref hax, .ref hay, .ref hau, .ref hav, .ref ham, .ref has, .ref hak, .int (nI n)])), (hax, .inl (cD, 10, .inr (.inr (.inr (.inl x))))), (hay, .inl (cD, 10, .inr (.inr (.inr (.inl y))))), (hau, .inl (cD, 10, .inr (.inr (.inr (.inl (pb_fill (pb_scl (pb_root (FP.ddiv tw (pb_heat mass u v stuck n))) u stuck) u i)))))), (hav, .inl (cD, 10, .inr (.inr (.inr (.inl (pb_fill (pb_scl (pb_root (FP.ddiv tw (pb_heat mass u v stuck n))) v stuck) v i)))))), (ham, .inl (cD, 10, .inr (.inr (.inr (.inl mass))))), (has, .inl (cI, 10, .inl sort)), (hak, .inl (cZ, 10, .inl stuck))] H ∧ va_D A [(ha, .inr (0, [.ref hax, .ref hay, .ref hau, .ref hav, .ref ham, .ref has, .ref hak, .int (nI n)])), (hax, .inl (cD, 10, .inr (.inr (.inr (.inl x))))), (hay, .inl (cD, 10, .inr (.inr (.inr (.inl y))))), (hau, .inl (cD, 10, .inr (.inr (.inr (.inl (pb_fill (pb_scl (pb_root (FP.ddiv tw (pb_heat mass u v stuck n))) u stuck) u i)))))), (hav, .inl (cD, 10, .inr (.inr (.inr (.inl (pb_fill (pb_scl (pb_root (FP.ddiv tw (pb_heat mass u v stuck n))) v stuck) v i)))))), (ham, .inl (cD, 10, .inr (.inr (.inr (.inl mass))))), (has, .inl (cI, 10, .inl sort)), (hak, .inl (cZ, 10, .inl stuck))] ∧ va_S A s.heap H locs ∧ lv_has ls 8 [(7, .int (nI i)), (5, .double (pb_root (FP.ddiv tw (pb_heat mass u v stuck n)))), (3, .double (pb_heat mass u v stuck n)), (1, .double tw), (0, .ref ha)] ∧ (i ≤ n)) (fun (i : Nat) => n - i) (fun N K26 xx H locs ls hI hmu => ?_) 0 ?_
    rotate_left
    · skip
      refine ⟨hP.sub [0, 1, 2, 3, 4, 5, 6, 7] rfl, hD.sub [0, 1, 2, 3, 4, 5, 6, 7] (by decide) rfl, hS, lv_sub hl [0, 1, 2, 4, 3] rfl, (by omega)⟩
    obtain ⟨i, rfl⟩ : ∃ zz, zz = xx := ⟨_, rfl⟩
    obtain ⟨hP, hD, hS, hl, hi⟩ := hI
    try dsimp only at hmu
    refine lv_iload hx hb d_Atoms_bringTo_26 (lv_at hl 0 rfl) ?_
    refine lv_aload_n hx hb d_Atoms_bringTo_28 rfl (lv_at hl 4 rfl) ?_
    refine va_get (D := (dC, dI)) (ci := 0) (v := .int (nI n)) (C := R_Atoms) (T := F_Atoms) (N := 8) hx hb hts (fun w h => List.mem_cons_of_mem _ (i_Atoms w h)) hown hK hP 0 rfl rfl 7 (by decide) (hts _ (List.mem_cons_of_mem _ kw_137)) (fun _ h9 => h9) rfl d_Atoms_bringTo_29 ?_
    refine lv_icmp_ge (tgt := 85) hx hb d_Atoms_bringTo_32 (by decide) (fun c32 => ?_) (fun c32 => ?_)
    · skip
      have c32 : n ≤ i := (nI_leI (a := n) (b := i) (by omega) (by omega)).mp c32
      obtain rfl : n = i := by omega
      refine lv_dload_n hx hb d_Atoms_bringTo_85 rfl (lv_at hl 2 rfl) ?_
      have hcd : ¬ pb_cold mass u v stuck n := c9
      have hP : va_P (dC, dI) classes [(ha, .inr (0, [.ref hax, .ref hay, .ref hau, .ref hav, .ref ham, .ref has, .ref hak, .int (nI n)])), (hax, .inl (cD, 10, .inr (.inr (.inr (.inl x))))), (hay, .inl (cD, 10, .inr (.inr (.inr (.inl y))))), (hau, .inl (cD, 10, .inr (.inr (.inr (.inl (pb_if (pb_cold mass u v stuck n) u (pb_fill (pb_scl (pb_root (FP.ddiv tw (pb_heat mass u v stuck n))) u stuck) u n))))))), (hav, .inl (cD, 10, .inr (.inr (.inr (.inl (pb_if (pb_cold mass u v stuck n) v (pb_fill (pb_scl (pb_root (FP.ddiv tw (pb_heat mass u v stuck n))) v stuck) v n))))))), (ham, .inl (cD, 10, .inr (.inr (.inr (.inl mass))))), (has, .inl (cI, 10, .inl sort)), (hak, .inl (cZ, 10, .inl stuck))] H := by rw [pb_if_f hcd, pb_if_f hcd]; exact hP
      have hD : va_D A [(ha, .inr (0, [.ref hax, .ref hay, .ref hau, .ref hav, .ref ham, .ref has, .ref hak, .int (nI n)])), (hax, .inl (cD, 10, .inr (.inr (.inr (.inl x))))), (hay, .inl (cD, 10, .inr (.inr (.inr (.inl y))))), (hau, .inl (cD, 10, .inr (.inr (.inr (.inl (pb_if (pb_cold mass u v stuck n) u (pb_fill (pb_scl (pb_root (FP.ddiv tw (pb_heat mass u v stuck n))) u stuck) u n))))))), (hav, .inl (cD, 10, .inr (.inr (.inr (.inl (pb_if (pb_cold mass u v stuck n) v (pb_fill (pb_scl (pb_root (FP.ddiv tw (pb_heat mass u v stuck n))) v stuck) v n))))))), (ham, .inl (cD, 10, .inr (.inr (.inr (.inl mass))))), (has, .inl (cI, 10, .inl sort)), (hak, .inl (cZ, 10, .inl stuck))] := by rw [pb_if_f hcd, pb_if_f hcd]; exact hD
      have hP9 := hP.sub (ws' := [(ha, .inr (0, [.ref hax, .ref hay, .ref hau, .ref hav, .ref ham, .ref has, .ref hak, .int (nI n)])), (hax, .inl (cD, 10, .inr (.inr (.inr (.inl x))))), (hay, .inl (cD, 10, .inr (.inr (.inr (.inl y))))), (hau, .inl (cD, 10, .inr (.inr (.inr (.inl (pb_if (pb_cold mass u v stuck n) u (pb_fill (pb_scl (pb_root (FP.ddiv tw (pb_heat mass u v stuck n))) u stuck) u n))))))), (hav, .inl (cD, 10, .inr (.inr (.inr (.inl (pb_if (pb_cold mass u v stuck n) v (pb_fill (pb_scl (pb_root (FP.ddiv tw (pb_heat mass u v stuck n))) v stuck) v n))))))), (ham, .inl (cD, 10, .inr (.inr (.inr (.inl mass))))), (has, .inl (cI, 10, .inl sort)), (hak, .inl (cZ, 10, .inl stuck))]) [0, 1, 2, 3, 4, 5, 6, 7] rfl
      have hD9 := hD.sub (ws' := [(ha, .inr (0, [.ref hax, .ref hay, .ref hau, .ref hav, .ref ham, .ref has, .ref hak, .int (nI n)])), (hax, .inl (cD, 10, .inr (.inr (.inr (.inl x))))), (hay, .inl (cD, 10, .inr (.inr (.inr (.inl y))))), (hau, .inl (cD, 10, .inr (.inr (.inr (.inl (pb_if (pb_cold mass u v stuck n) u (pb_fill (pb_scl (pb_root (FP.ddiv tw (pb_heat mass u v stuck n))) u stuck) u n))))))), (hav, .inl (cD, 10, .inr (.inr (.inr (.inl (pb_if (pb_cold mass u v stuck n) v (pb_fill (pb_scl (pb_root (FP.ddiv tw (pb_heat mass u v stuck n))) v stuck) v n))))))), (ham, .inl (cD, 10, .inr (.inr (.inr (.inl mass))))), (has, .inl (cI, 10, .inl sort)), (hak, .inl (cZ, 10, .inl stuck))]) [0, 1, 2, 3, 4, 5, 6, 7] (by decide) rfl
      exact W.dret (v := (pb_heat mass u v stuck n)) hx hb hr (fun t ht hW => ⟨⟨(pb_heat mass u v stuck n), (), rfl, rfl, by rw [ht]; exact hP9, va_K.moved hW.alike hK, hD9⟩, hS.F ht⟩) hS.2.2 d_Atoms_bringTo_86
    · skip
      have c32 : ¬ n ≤ i := fun h => c32 ((nI_leI (a := n) (b := i) (by omega) (by omega)).mpr h)
      refine lv_aload_n hx hb d_Atoms_bringTo_35 rfl (lv_at hl 4 rfl) ?_
      refine va_get (D := (dC, dI)) (ci := 0) (v := .ref hak) (C := R_Atoms) (T := F_Atoms) (N := 8) hx hb hts (fun w h => List.mem_cons_of_mem _ (i_Atoms w h)) hown hK hP 0 rfl rfl 6 (by decide) (hts _ (List.mem_cons_of_mem _ kw_134)) (fun _ h9 => h9) rfl d_Atoms_bringTo_36 ?_
      refine lv_iload hx hb d_Atoms_bringTo_39 (lv_at hl 0 rfl) ?_
      refine gx_zald hx hb hK hP 7 2 rfl rfl (by omega) (by decide) d_Atoms_bringTo_41 ?_
      refine lv_if_ne (tgt := 79) hx hb d_Atoms_bringTo_42 (by decide) (fun c42 => ?_) (fun c42 => ?_)
      · skip
        have eb0 := pb_fill_k (pb_scl (pb_root (FP.ddiv tw (pb_heat mass u v stuck n))) u stuck) u i (by unfold pb_scl; rw [if_neg c42])
        have eb1 := pb_fill_k (pb_scl (pb_root (FP.ddiv tw (pb_heat mass u v stuck n))) v stuck) v i (by unfold pb_scl; rw [if_neg c42])
        have hP : va_P (dC, dI) classes [(ha, .inr (0, [.ref hax, .ref hay, .ref hau, .ref hav, .ref ham, .ref has, .ref hak, .int (nI n)])), (hax, .inl (cD, 10, .inr (.inr (.inr (.inl x))))), (hay, .inl (cD, 10, .inr (.inr (.inr (.inl y))))), (hau, .inl (cD, 10, .inr (.inr (.inr (.inl (pb_fill (pb_scl (pb_root (FP.ddiv tw (pb_heat mass u v stuck n))) u stuck) u (i + 1))))))), (hav, .inl (cD, 10, .inr (.inr (.inr (.inl (pb_fill (pb_scl (pb_root (FP.ddiv tw (pb_heat mass u v stuck n))) v stuck) v (i + 1))))))), (ham, .inl (cD, 10, .inr (.inr (.inr (.inl mass))))), (has, .inl (cI, 10, .inl sort)), (hak, .inl (cZ, 10, .inl stuck))] H := by rw [← eb0, ← eb1]; exact hP
        have hD : va_D A [(ha, .inr (0, [.ref hax, .ref hay, .ref hau, .ref hav, .ref ham, .ref has, .ref hak, .int (nI n)])), (hax, .inl (cD, 10, .inr (.inr (.inr (.inl x))))), (hay, .inl (cD, 10, .inr (.inr (.inr (.inl y))))), (hau, .inl (cD, 10, .inr (.inr (.inr (.inl (pb_fill (pb_scl (pb_root (FP.ddiv tw (pb_heat mass u v stuck n))) u stuck) u (i + 1))))))), (hav, .inl (cD, 10, .inr (.inr (.inr (.inl (pb_fill (pb_scl (pb_root (FP.ddiv tw (pb_heat mass u v stuck n))) v stuck) v (i + 1))))))), (ham, .inl (cD, 10, .inr (.inr (.inr (.inl mass))))), (has, .inl (cI, 10, .inl sort)), (hak, .inl (cZ, 10, .inl stuck))] := by rw [← eb0, ← eb1]; exact hD
        refine lv_iinc (v := nI (i + 1)) (lv' := [(7, .int (nI (i + 1))), (5, .double (pb_root (FP.ddiv tw (pb_heat mass u v stuck n)))), (3, .double (pb_heat mass u v stuck n)), (1, .double tw), (0, .ref ha)]) hx hb d_Atoms_bringTo_79 hl (k := 0) rfl (nI_1 i) (by decide) rfl (fun ls hl => ?_)
        refine lv_goto (tgt := 26) hx hb d_Atoms_bringTo_82 (by decide) ?_
        exact K26 (i + 1) _ _ _ ⟨hP.sub [0, 1, 2, 3, 4, 5, 6, 7] rfl, hD.sub [0, 1, 2, 3, 4, 5, 6, 7] (by decide) rfl, hS, lv_sub hl [0, 1, 2, 3, 4] rfl, (by omega)⟩ (by omega)
      · skip
        refine lv_aload_n hx hb d_Atoms_bringTo_45 rfl (lv_at hl 4 rfl) ?_
        refine va_get (D := (dC, dI)) (ci := 0) (v := .ref hau) (C := R_Atoms) (T := F_Atoms) (N := 8) hx hb hts (fun w h => List.mem_cons_of_mem _ (i_Atoms w h)) hown hK hP 0 rfl rfl 2 (by decide) (hts _ (List.mem_cons_of_mem _ kw_122)) (fun _ h9 => h9) rfl d_Atoms_bringTo_46 ?_
        refine lv_iload hx hb d_Atoms_bringTo_49 (lv_at hl 0 rfl) ?_
        refine lv_aload_n hx hb d_Atoms_bringTo_51 rfl (lv_at hl 4 rfl) ?_
        refine va_get (D := (dC, dI)) (ci := 0) (v := .ref hau) (C := R_Atoms) (T := F_Atoms) (N := 8) hx hb hts (fun w h => List.mem_cons_of_mem _ (i_Atoms w h)) hown hK hP 0 rfl rfl 2 (by decide) (hts _ (List.mem_cons_of_mem _ kw_122)) (fun _ h9 => h9) rfl d_Atoms_bringTo_52 ?_
        refine lv_iload hx hb d_Atoms_bringTo_55 (lv_at hl 0 rfl) ?_
        refine gx_dald hx hb hK hP 3 1 rfl rfl (by omega) (by decide) d_Atoms_bringTo_57 ?_
        rw [pb_fill_ge _ _ (Nat.le_refl i)]
        have g_7 := huI i (by omega)
        refine lv_dload hx hb d_Atoms_bringTo_58 (lv_at hl 1 rfl) ?_
        have g_8 := fp_I_mul (fp_d (-1) 1186) (fp_d 1 1186) g_7 g_6 (by decide +kernel)
        refine lv_dmul hx hb d_Atoms_bringTo_60 g_8.n ?_
        refine gx_dast hx hb hK hP hD hS 3 1 rfl rfl (by omega) (by decide) d_Atoms_bringTo_61 (fun H locs hP hD hS => ?_)
        have hP : va_P (dC, dI) classes [(ha, .inr (0, [.ref hax, .ref hay, .ref hau, .ref hav, .ref ham, .ref has, .ref hak, .int (nI n)])), (hax, .inl (cD, 10, .inr (.inr (.inr (.inl x))))), (hay, .inl (cD, 10, .inr (.inr (.inr (.inl y))))), (hau, .inl (cD, 10, .inr (.inr (.inr (.inl (vf_upd (pb_fill (pb_scl (pb_root (FP.ddiv tw (pb_heat mass u v stuck n))) u stuck) u i) i (FP.dmul (u i) (pb_root (FP.ddiv tw (pb_heat mass u v stuck n)))))))))), (hav, .inl (cD, 10, .inr (.inr (.inr (.inl (pb_fill (pb_scl (pb_root (FP.ddiv tw (pb_heat mass u v stuck n))) v stuck) v i)))))), (ham, .inl (cD, 10, .inr (.inr (.inr (.inl mass))))), (has, .inl (cI, 10, .inl sort)), (hak, .inl (cZ, 10, .inl stuck))] H := hP
        have hD : va_D A [(ha, .inr (0, [.ref hax, .ref hay, .ref hau, .ref hav, .ref ham, .ref has, .ref hak, .int (nI n)])), (hax, .inl (cD, 10, .inr (.inr (.inr (.inl x))))), (hay, .inl (cD, 10, .inr (.inr (.inr (.inl y))))), (hau, .inl (cD, 10, .inr (.inr (.inr (.inl (vf_upd (pb_fill (pb_scl (pb_root (FP.ddiv tw (pb_heat mass u v stuck n))) u stuck) u i) i (FP.dmul (u i) (pb_root (FP.ddiv tw (pb_heat mass u v stuck n)))))))))), (hav, .inl (cD, 10, .inr (.inr (.inr (.inl (pb_fill (pb_scl (pb_root (FP.ddiv tw (pb_heat mass u v stuck n))) v stuck) v i)))))), (ham, .inl (cD, 10, .inr (.inr (.inr (.inl mass))))), (has, .inl (cI, 10, .inl sort)), (hak, .inl (cZ, 10, .inl stuck))] := hD
        refine lv_aload_n hx hb d_Atoms_bringTo_62 rfl (lv_at hl 4 rfl) ?_
        refine va_get (D := (dC, dI)) (ci := 0) (v := .ref hav) (C := R_Atoms) (T := F_Atoms) (N := 8) hx hb hts (fun w h => List.mem_cons_of_mem _ (i_Atoms w h)) hown hK hP 0 rfl rfl 3 (by decide) (hts _ (List.mem_cons_of_mem _ kw_125)) (fun _ h9 => h9) rfl d_Atoms_bringTo_63 ?_
        refine lv_iload hx hb d_Atoms_bringTo_66 (lv_at hl 0 rfl) ?_
        refine lv_aload_n hx hb d_Atoms_bringTo_68 rfl (lv_at hl 4 rfl) ?_
        refine va_get (D := (dC, dI)) (ci := 0) (v := .ref hav) (C := R_Atoms) (T := F_Atoms) (N := 8) hx hb hts (fun w h => List.mem_cons_of_mem _ (i_Atoms w h)) hown hK hP 0 rfl rfl 3 (by decide) (hts _ (List.mem_cons_of_mem _ kw_125)) (fun _ h9 => h9) rfl d_Atoms_bringTo_69 ?_
        refine lv_iload hx hb d_Atoms_bringTo_72 (lv_at hl 0 rfl) ?_
        refine gx_dald hx hb hK hP 4 1 rfl rfl (by omega) (by decide) d_Atoms_bringTo_74 ?_
        rw [pb_fill_ge _ _ (Nat.le_refl i)]
        have g_9 := hvI i (by omega)
        refine lv_dload hx hb d_Atoms_bringTo_75 (lv_at hl 1 rfl) ?_
        have g_10 := fp_I_mul (fp_d (-1) 1186) (fp_d 1 1186) g_9 g_6 (by decide +kernel)
        refine lv_dmul hx hb d_Atoms_bringTo_77 g_10.n ?_
        refine gx_dast hx hb hK hP hD hS 4 1 rfl rfl (by omega) (by decide) d_Atoms_bringTo_78 (fun H locs hP hD hS => ?_)
        have hP : va_P (dC, dI) classes [(ha, .inr (0, [.ref hax, .ref hay, .ref hau, .ref hav, .ref ham, .ref has, .ref hak, .int (nI n)])), (hax, .inl (cD, 10, .inr (.inr (.inr (.inl x))))), (hay, .inl (cD, 10, .inr (.inr (.inr (.inl y))))), (hau, .inl (cD, 10, .inr (.inr (.inr (.inl (vf_upd (pb_fill (pb_scl (pb_root (FP.ddiv tw (pb_heat mass u v stuck n))) u stuck) u i) i (FP.dmul (u i) (pb_root (FP.ddiv tw (pb_heat mass u v stuck n)))))))))), (hav, .inl (cD, 10, .inr (.inr (.inr (.inl (vf_upd (pb_fill (pb_scl (pb_root (FP.ddiv tw (pb_heat mass u v stuck n))) v stuck) v i) i (FP.dmul (v i) (pb_root (FP.ddiv tw (pb_heat mass u v stuck n)))))))))), (ham, .inl (cD, 10, .inr (.inr (.inr (.inl mass))))), (has, .inl (cI, 10, .inl sort)), (hak, .inl (cZ, 10, .inl stuck))] H := hP
        have hD : va_D A [(ha, .inr (0, [.ref hax, .ref hay, .ref hau, .ref hav, .ref ham, .ref has, .ref hak, .int (nI n)])), (hax, .inl (cD, 10, .inr (.inr (.inr (.inl x))))), (hay, .inl (cD, 10, .inr (.inr (.inr (.inl y))))), (hau, .inl (cD, 10, .inr (.inr (.inr (.inl (vf_upd (pb_fill (pb_scl (pb_root (FP.ddiv tw (pb_heat mass u v stuck n))) u stuck) u i) i (FP.dmul (u i) (pb_root (FP.ddiv tw (pb_heat mass u v stuck n)))))))))), (hav, .inl (cD, 10, .inr (.inr (.inr (.inl (vf_upd (pb_fill (pb_scl (pb_root (FP.ddiv tw (pb_heat mass u v stuck n))) v stuck) v i) i (FP.dmul (v i) (pb_root (FP.ddiv tw (pb_heat mass u v stuck n)))))))))), (ham, .inl (cD, 10, .inr (.inr (.inr (.inl mass))))), (has, .inl (cI, 10, .inl sort)), (hak, .inl (cZ, 10, .inl stuck))] := hD
        have ea0 : FP.dmul (u i) (pb_root (FP.ddiv tw (pb_heat mass u v stuck n))) = (pb_scl (pb_root (FP.ddiv tw (pb_heat mass u v stuck n))) u stuck) i := by unfold pb_scl; rw [if_pos c42]
        have eb0 := pb_fill_s (pb_scl (pb_root (FP.ddiv tw (pb_heat mass u v stuck n))) u stuck) u i
        have ea1 : FP.dmul (v i) (pb_root (FP.ddiv tw (pb_heat mass u v stuck n))) = (pb_scl (pb_root (FP.ddiv tw (pb_heat mass u v stuck n))) v stuck) i := by unfold pb_scl; rw [if_pos c42]
        have eb1 := pb_fill_s (pb_scl (pb_root (FP.ddiv tw (pb_heat mass u v stuck n))) v stuck) v i
        have hP : va_P (dC, dI) classes [(ha, .inr (0, [.ref hax, .ref hay, .ref hau, .ref hav, .ref ham, .ref has, .ref hak, .int (nI n)])), (hax, .inl (cD, 10, .inr (.inr (.inr (.inl x))))), (hay, .inl (cD, 10, .inr (.inr (.inr (.inl y))))), (hau, .inl (cD, 10, .inr (.inr (.inr (.inl (pb_fill (pb_scl (pb_root (FP.ddiv tw (pb_heat mass u v stuck n))) u stuck) u (i + 1))))))), (hav, .inl (cD, 10, .inr (.inr (.inr (.inl (pb_fill (pb_scl (pb_root (FP.ddiv tw (pb_heat mass u v stuck n))) v stuck) v (i + 1))))))), (ham, .inl (cD, 10, .inr (.inr (.inr (.inl mass))))), (has, .inl (cI, 10, .inl sort)), (hak, .inl (cZ, 10, .inl stuck))] H := by rw [← eb0, ← ea0, ← eb1, ← ea1]; exact hP
        have hD : va_D A [(ha, .inr (0, [.ref hax, .ref hay, .ref hau, .ref hav, .ref ham, .ref has, .ref hak, .int (nI n)])), (hax, .inl (cD, 10, .inr (.inr (.inr (.inl x))))), (hay, .inl (cD, 10, .inr (.inr (.inr (.inl y))))), (hau, .inl (cD, 10, .inr (.inr (.inr (.inl (pb_fill (pb_scl (pb_root (FP.ddiv tw (pb_heat mass u v stuck n))) u stuck) u (i + 1))))))), (hav, .inl (cD, 10, .inr (.inr (.inr (.inl (pb_fill (pb_scl (pb_root (FP.ddiv tw (pb_heat mass u v stuck n))) v stuck) v (i + 1))))))), (ham, .inl (cD, 10, .inr (.inr (.inr (.inl mass))))), (has, .inl (cI, 10, .inl sort)), (hak, .inl (cZ, 10, .inl stuck))] := by rw [← eb0, ← ea0, ← eb1, ← ea1]; exact hD
        refine lv_iinc (v := nI (i + 1)) (lv' := [(7, .int (nI (i + 1))), (5, .double (pb_root (FP.ddiv tw (pb_heat mass u v stuck n)))), (3, .double (pb_heat mass u v stuck n)), (1, .double tw), (0, .ref ha)]) hx hb d_Atoms_bringTo_79 hl (k := 0) rfl (nI_1 i) (by decide) rfl (fun ls hl => ?_)
        refine lv_goto (tgt := 26) hx hb d_Atoms_bringTo_82 (by decide) ?_
        exact K26 (i + 1) _ _ _ ⟨hP.sub [0, 1, 2, 3, 4, 5, 6, 7] rfl, hD.sub [0, 1, 2, 3, 4, 5, 6, 7] (by decide) rfl, hS, lv_sub hl [0, 1, 2, 3, 4] rfl, (by omega)⟩ (by omega)
  · skip
    refine lv_dload_n hx hb d_Atoms_bringTo_13 rfl (lv_at hl 0 rfl) ?_
    have hcd : pb_cold mass u v stuck n := c9
    have hP : va_P (dC, dI) classes [(ha, .inr (0, [.ref hax, .ref hay, .ref hau, .ref hav, .ref ham, .ref has, .ref hak, .int (nI n)])), (hax, .inl (cD, 10, .inr (.inr (.inr (.inl x))))), (hay, .inl (cD, 10, .inr (.inr (.inr (.inl y))))), (hau, .inl (cD, 10, .inr (.inr (.inr (.inl (pb_if (pb_cold mass u v stuck n) u (pb_fill (pb_scl (pb_root (FP.ddiv tw (pb_heat mass u v stuck n))) u stuck) u n))))))), (hav, .inl (cD, 10, .inr (.inr (.inr (.inl (pb_if (pb_cold mass u v stuck n) v (pb_fill (pb_scl (pb_root (FP.ddiv tw (pb_heat mass u v stuck n))) v stuck) v n))))))), (ham, .inl (cD, 10, .inr (.inr (.inr (.inl mass))))), (has, .inl (cI, 10, .inl sort)), (hak, .inl (cZ, 10, .inl stuck))] H := by rw [pb_if_t hcd, pb_if_t hcd]; exact hP
    have hD : va_D A [(ha, .inr (0, [.ref hax, .ref hay, .ref hau, .ref hav, .ref ham, .ref has, .ref hak, .int (nI n)])), (hax, .inl (cD, 10, .inr (.inr (.inr (.inl x))))), (hay, .inl (cD, 10, .inr (.inr (.inr (.inl y))))), (hau, .inl (cD, 10, .inr (.inr (.inr (.inl (pb_if (pb_cold mass u v stuck n) u (pb_fill (pb_scl (pb_root (FP.ddiv tw (pb_heat mass u v stuck n))) u stuck) u n))))))), (hav, .inl (cD, 10, .inr (.inr (.inr (.inl (pb_if (pb_cold mass u v stuck n) v (pb_fill (pb_scl (pb_root (FP.ddiv tw (pb_heat mass u v stuck n))) v stuck) v n))))))), (ham, .inl (cD, 10, .inr (.inr (.inr (.inl mass))))), (has, .inl (cI, 10, .inl sort)), (hak, .inl (cZ, 10, .inl stuck))] := by rw [pb_if_t hcd, pb_if_t hcd]; exact hD
    have hP9 := hP.sub (ws' := [(ha, .inr (0, [.ref hax, .ref hay, .ref hau, .ref hav, .ref ham, .ref has, .ref hak, .int (nI n)])), (hax, .inl (cD, 10, .inr (.inr (.inr (.inl x))))), (hay, .inl (cD, 10, .inr (.inr (.inr (.inl y))))), (hau, .inl (cD, 10, .inr (.inr (.inr (.inl (pb_if (pb_cold mass u v stuck n) u (pb_fill (pb_scl (pb_root (FP.ddiv tw (pb_heat mass u v stuck n))) u stuck) u n))))))), (hav, .inl (cD, 10, .inr (.inr (.inr (.inl (pb_if (pb_cold mass u v stuck n) v (pb_fill (pb_scl (pb_root (FP.ddiv tw (pb_heat mass u v stuck n))) v stuck) v n))))))), (ham, .inl (cD, 10, .inr (.inr (.inr (.inl mass))))), (has, .inl (cI, 10, .inl sort)), (hak, .inl (cZ, 10, .inl stuck))]) [0, 1, 2, 3, 4, 5, 6, 7] rfl
    have hD9 := hD.sub (ws' := [(ha, .inr (0, [.ref hax, .ref hay, .ref hau, .ref hav, .ref ham, .ref has, .ref hak, .int (nI n)])), (hax, .inl (cD, 10, .inr (.inr (.inr (.inl x))))), (hay, .inl (cD, 10, .inr (.inr (.inr (.inl y))))), (hau, .inl (cD, 10, .inr (.inr (.inr (.inl (pb_if (pb_cold mass u v stuck n) u (pb_fill (pb_scl (pb_root (FP.ddiv tw (pb_heat mass u v stuck n))) u stuck) u n))))))), (hav, .inl (cD, 10, .inr (.inr (.inr (.inl (pb_if (pb_cold mass u v stuck n) v (pb_fill (pb_scl (pb_root (FP.ddiv tw (pb_heat mass u v stuck n))) v stuck) v n))))))), (ham, .inl (cD, 10, .inr (.inr (.inr (.inl mass))))), (has, .inl (cI, 10, .inl sort)), (hak, .inl (cZ, 10, .inl stuck))]) [0, 1, 2, 3, 4, 5, 6, 7] (by decide) rfl
    exact W.dret (v := (pb_heat mass u v stuck n)) hx hb hr (fun t ht hW => ⟨⟨(pb_heat mass u v stuck n), (), rfl, rfl, by rw [ht]; exact hP9, va_K.moved hW.alike hK, hD9⟩, hS.F ht⟩) hS.2.2 d_Atoms_bringTo_14
