theorem d_Pulls_measure_0 : decode b_Pulls_measure 0 = .ok (.aload_n 0, 1) := by decide +kernel
theorem d_Pulls_measure_1 : decode b_Pulls_measure 1 = .ok (.getfield 18, 3) := by decide +kernel
theorem d_Pulls_measure_4 : decode b_Pulls_measure 4 = .ok (.aload_n 0, 1) := by decide +kernel
theorem d_Pulls_measure_5 : decode b_Pulls_measure 5 = .ok (.getfield 22, 3) := by decide +kernel
theorem d_Pulls_measure_8 : decode b_Pulls_measure 8 = .ok (.getfield 91, 3) := by decide +kernel
theorem d_Pulls_measure_11 : decode b_Pulls_measure 11 = .ok (.iload_n 1, 1) := by decide +kernel
theorem d_Pulls_measure_12 : decode b_Pulls_measure 12 = .ok (.daload, 1) := by decide +kernel
theorem d_Pulls_measure_13 : decode b_Pulls_measure 13 = .ok (.aload_n 0, 1) := by decide +kernel
theorem d_Pulls_measure_14 : decode b_Pulls_measure 14 = .ok (.getfield 22, 3) := by decide +kernel
theorem d_Pulls_measure_17 : decode b_Pulls_measure 17 = .ok (.getfield 94, 3) := by decide +kernel
theorem d_Pulls_measure_20 : decode b_Pulls_measure 20 = .ok (.iload_n 1, 1) := by decide +kernel
theorem d_Pulls_measure_21 : decode b_Pulls_measure 21 = .ok (.daload, 1) := by decide +kernel
theorem d_Pulls_measure_22 : decode b_Pulls_measure 22 = .ok (.aload_n 0, 1) := by decide +kernel
theorem d_Pulls_measure_23 : decode b_Pulls_measure 23 = .ok (.getfield 22, 3) := by decide +kernel
theorem d_Pulls_measure_26 : decode b_Pulls_measure 26 = .ok (.getfield 91, 3) := by decide +kernel
theorem d_Pulls_measure_29 : decode b_Pulls_measure 29 = .ok (.iload_n 2, 1) := by decide +kernel
theorem d_Pulls_measure_30 : decode b_Pulls_measure 30 = .ok (.daload, 1) := by decide +kernel
theorem d_Pulls_measure_31 : decode b_Pulls_measure 31 = .ok (.aload_n 0, 1) := by decide +kernel
theorem d_Pulls_measure_32 : decode b_Pulls_measure 32 = .ok (.getfield 22, 3) := by decide +kernel
theorem d_Pulls_measure_35 : decode b_Pulls_measure 35 = .ok (.getfield 94, 3) := by decide +kernel
theorem d_Pulls_measure_38 : decode b_Pulls_measure 38 = .ok (.iload_n 2, 1) := by decide +kernel
theorem d_Pulls_measure_39 : decode b_Pulls_measure 39 = .ok (.daload, 1) := by decide +kernel
theorem d_Pulls_measure_40 : decode b_Pulls_measure 40 = .ok (.invokevirtual 97, 3) := by decide +kernel
theorem d_Pulls_measure_43 : decode b_Pulls_measure 43 = .ok (.return_, 1) := by decide +kernel
theorem d_Pulls_isPair_0 : decode b_Pulls_isPair 0 = .ok (.aload_n 0, 1) := by decide +kernel
theorem d_Pulls_isPair_1 : decode b_Pulls_isPair 1 = .ok (.getfield 18, 3) := by decide +kernel
theorem d_Pulls_isPair_4 : decode b_Pulls_isPair 4 = .ok (.getfield 55, 3) := by decide +kernel
theorem d_Pulls_isPair_7 : decode b_Pulls_isPair 7 = .ok (.aload_n 0, 1) := by decide +kernel
theorem d_Pulls_isPair_8 : decode b_Pulls_isPair 8 = .ok (.getfield 42, 3) := by decide +kernel
theorem d_Pulls_isPair_11 : decode b_Pulls_isPair 11 = .ok (.aload_n 0, 1) := by decide +kernel
theorem d_Pulls_isPair_12 : decode b_Pulls_isPair 12 = .ok (.getfield 42, 3) := by decide +kernel
theorem d_Pulls_isPair_15 : decode b_Pulls_isPair 15 = .ok (.dmul, 1) := by decide +kernel
theorem d_Pulls_isPair_16 : decode b_Pulls_isPair 16 = .ok (.dcmp .g, 1) := by decide +kernel
theorem d_Pulls_isPair_17 : decode b_Pulls_isPair 17 = .ok (.ifCond .ge 7, 3) := by decide +kernel
theorem d_Pulls_isPair_20 : decode b_Pulls_isPair 20 = .ok (.iconst 1, 1) := by decide +kernel
theorem d_Pulls_isPair_21 : decode b_Pulls_isPair 21 = .ok (.goto 4, 3) := by decide +kernel
theorem d_Pulls_isPair_24 : decode b_Pulls_isPair 24 = .ok (.iconst 0, 1) := by decide +kernel
theorem d_Pulls_isPair_25 : decode b_Pulls_isPair 25 = .ok (.ireturn, 1) := by decide +kernel
theorem d_Pulls_meanDepth_0 : decode b_Pulls_meanDepth 0 = .ok (.aload_n 0, 1) := by decide +kernel
theorem d_Pulls_meanDepth_1 : decode b_Pulls_meanDepth 1 = .ok (.getfield 26, 3) := by decide +kernel
theorem d_Pulls_meanDepth_4 : decode b_Pulls_meanDepth 4 = .ok (.getfield 132, 3) := by decide +kernel
theorem d_Pulls_meanDepth_7 : decode b_Pulls_meanDepth 7 = .ok (.aload_n 0, 1) := by decide +kernel
theorem d_Pulls_meanDepth_8 : decode b_Pulls_meanDepth 8 = .ok (.getfield 22, 3) := by decide +kernel
theorem d_Pulls_meanDepth_11 : decode b_Pulls_meanDepth 11 = .ok (.getfield 137, 3) := by decide +kernel
theorem d_Pulls_meanDepth_14 : decode b_Pulls_meanDepth 14 = .ok (.iload_n 1, 1) := by decide +kernel
theorem d_Pulls_meanDepth_15 : decode b_Pulls_meanDepth 15 = .ok (.iaload, 1) := by decide +kernel
theorem d_Pulls_meanDepth_16 : decode b_Pulls_meanDepth 16 = .ok (.daload, 1) := by decide +kernel
theorem d_Pulls_meanDepth_17 : decode b_Pulls_meanDepth 17 = .ok (.aload_n 0, 1) := by decide +kernel
theorem d_Pulls_meanDepth_18 : decode b_Pulls_meanDepth 18 = .ok (.getfield 26, 3) := by decide +kernel
theorem d_Pulls_meanDepth_21 : decode b_Pulls_meanDepth 21 = .ok (.getfield 132, 3) := by decide +kernel
theorem d_Pulls_meanDepth_24 : decode b_Pulls_meanDepth 24 = .ok (.aload_n 0, 1) := by decide +kernel
theorem d_Pulls_meanDepth_25 : decode b_Pulls_meanDepth 25 = .ok (.getfield 22, 3) := by decide +kernel
theorem d_Pulls_meanDepth_28 : decode b_Pulls_meanDepth 28 = .ok (.getfield 137, 3) := by decide +kernel
theorem d_Pulls_meanDepth_31 : decode b_Pulls_meanDepth 31 = .ok (.iload_n 2, 1) := by decide +kernel
theorem d_Pulls_meanDepth_32 : decode b_Pulls_meanDepth 32 = .ok (.iaload, 1) := by decide +kernel
theorem d_Pulls_meanDepth_33 : decode b_Pulls_meanDepth 33 = .ok (.daload, 1) := by decide +kernel
theorem d_Pulls_meanDepth_34 : decode b_Pulls_meanDepth 34 = .ok (.dadd, 1) := by decide +kernel
theorem d_Pulls_meanDepth_35 : decode b_Pulls_meanDepth 35 = .ok (.ldc2_w 140, 3) := by decide +kernel
theorem d_Pulls_meanDepth_38 : decode b_Pulls_meanDepth 38 = .ok (.dmul, 1) := by decide +kernel
theorem d_Pulls_meanDepth_39 : decode b_Pulls_meanDepth 39 = .ok (.dreturn, 1) := by decide +kernel
theorem d_Pulls_nearness_0 : decode b_Pulls_nearness 0 = .ok (.aload_n 0, 1) := by decide +kernel
theorem d_Pulls_nearness_1 : decode b_Pulls_nearness 1 = .ok (.getfield 26, 3) := by decide +kernel
theorem d_Pulls_nearness_4 : decode b_Pulls_nearness 4 = .ok (.getfield 142, 3) := by decide +kernel
theorem d_Pulls_nearness_7 : decode b_Pulls_nearness 7 = .ok (.aload_n 0, 1) := by decide +kernel
theorem d_Pulls_nearness_8 : decode b_Pulls_nearness 8 = .ok (.getfield 22, 3) := by decide +kernel
theorem d_Pulls_nearness_11 : decode b_Pulls_nearness 11 = .ok (.getfield 137, 3) := by decide +kernel
theorem d_Pulls_nearness_14 : decode b_Pulls_nearness 14 = .ok (.iload_n 1, 1) := by decide +kernel
theorem d_Pulls_nearness_15 : decode b_Pulls_nearness 15 = .ok (.iaload, 1) := by decide +kernel
theorem d_Pulls_nearness_16 : decode b_Pulls_nearness 16 = .ok (.daload, 1) := by decide +kernel
theorem d_Pulls_nearness_17 : decode b_Pulls_nearness 17 = .ok (.aload_n 0, 1) := by decide +kernel
theorem d_Pulls_nearness_18 : decode b_Pulls_nearness 18 = .ok (.getfield 26, 3) := by decide +kernel
theorem d_Pulls_nearness_21 : decode b_Pulls_nearness 21 = .ok (.getfield 142, 3) := by decide +kernel
theorem d_Pulls_nearness_24 : decode b_Pulls_nearness 24 = .ok (.aload_n 0, 1) := by decide +kernel
theorem d_Pulls_nearness_25 : decode b_Pulls_nearness 25 = .ok (.getfield 22, 3) := by decide +kernel
theorem d_Pulls_nearness_28 : decode b_Pulls_nearness 28 = .ok (.getfield 137, 3) := by decide +kernel
theorem d_Pulls_nearness_31 : decode b_Pulls_nearness 31 = .ok (.iload_n 2, 1) := by decide +kernel
theorem d_Pulls_nearness_32 : decode b_Pulls_nearness 32 = .ok (.iaload, 1) := by decide +kernel
theorem d_Pulls_nearness_33 : decode b_Pulls_nearness 33 = .ok (.daload, 1) := by decide +kernel
theorem d_Pulls_nearness_34 : decode b_Pulls_nearness 34 = .ok (.dadd, 1) := by decide +kernel
theorem d_Pulls_nearness_35 : decode b_Pulls_nearness 35 = .ok (.ldc2_w 140, 3) := by decide +kernel
theorem d_Pulls_nearness_38 : decode b_Pulls_nearness 38 = .ok (.dmul, 1) := by decide +kernel
theorem d_Pulls_nearness_39 : decode b_Pulls_nearness 39 = .ok (.dstore_n 3, 1) := by decide +kernel
theorem d_Pulls_nearness_40 : decode b_Pulls_nearness 40 = .ok (.dload_n 3, 1) := by decide +kernel
theorem d_Pulls_nearness_41 : decode b_Pulls_nearness 41 = .ok (.dload_n 3, 1) := by decide +kernel
theorem d_Pulls_nearness_42 : decode b_Pulls_nearness 42 = .ok (.dmul, 1) := by decide +kernel
theorem d_Pulls_nearness_43 : decode b_Pulls_nearness 43 = .ok (.aload_n 0, 1) := by decide +kernel
theorem d_Pulls_nearness_44 : decode b_Pulls_nearness 44 = .ok (.getfield 18, 3) := by decide +kernel
theorem d_Pulls_nearness_47 : decode b_Pulls_nearness 47 = .ok (.getfield 55, 3) := by decide +kernel
theorem d_Pulls_nearness_50 : decode b_Pulls_nearness 50 = .ok (.ddiv, 1) := by decide +kernel
theorem d_Pulls_nearness_51 : decode b_Pulls_nearness 51 = .ok (.dstore 5, 2) := by decide +kernel
theorem d_Pulls_nearness_53 : decode b_Pulls_nearness 53 = .ok (.dload 5, 2) := by decide +kernel
theorem d_Pulls_nearness_55 : decode b_Pulls_nearness 55 = .ok (.dload 5, 2) := by decide +kernel
theorem d_Pulls_nearness_57 : decode b_Pulls_nearness 57 = .ok (.dmul, 1) := by decide +kernel
theorem d_Pulls_nearness_58 : decode b_Pulls_nearness 58 = .ok (.dload 5, 2) := by decide +kernel
theorem d_Pulls_nearness_60 : decode b_Pulls_nearness 60 = .ok (.dmul, 1) := by decide +kernel
theorem d_Pulls_nearness_61 : decode b_Pulls_nearness 61 = .ok (.dreturn, 1) := by decide +kernel
theorem d_Pulls_charges_0 : decode b_Pulls_charges 0 = .ok (.aload_n 0, 1) := by decide +kernel
theorem d_Pulls_charges_1 : decode b_Pulls_charges 1 = .ok (.getfield 26, 3) := by decide +kernel
theorem d_Pulls_charges_4 : decode b_Pulls_charges 4 = .ok (.getfield 145, 3) := by decide +kernel
theorem d_Pulls_charges_7 : decode b_Pulls_charges 7 = .ok (.aload_n 0, 1) := by decide +kernel
theorem d_Pulls_charges_8 : decode b_Pulls_charges 8 = .ok (.getfield 22, 3) := by decide +kernel
theorem d_Pulls_charges_11 : decode b_Pulls_charges 11 = .ok (.getfield 137, 3) := by decide +kernel
theorem d_Pulls_charges_14 : decode b_Pulls_charges 14 = .ok (.iload_n 1, 1) := by decide +kernel
theorem d_Pulls_charges_15 : decode b_Pulls_charges 15 = .ok (.iaload, 1) := by decide +kernel
theorem d_Pulls_charges_16 : decode b_Pulls_charges 16 = .ok (.daload, 1) := by decide +kernel
theorem d_Pulls_charges_17 : decode b_Pulls_charges 17 = .ok (.aload_n 0, 1) := by decide +kernel
theorem d_Pulls_charges_18 : decode b_Pulls_charges 18 = .ok (.getfield 26, 3) := by decide +kernel
theorem d_Pulls_charges_21 : decode b_Pulls_charges 21 = .ok (.getfield 145, 3) := by decide +kernel
theorem d_Pulls_charges_24 : decode b_Pulls_charges 24 = .ok (.aload_n 0, 1) := by decide +kernel
theorem d_Pulls_charges_25 : decode b_Pulls_charges 25 = .ok (.getfield 22, 3) := by decide +kernel
theorem d_Pulls_charges_28 : decode b_Pulls_charges 28 = .ok (.getfield 137, 3) := by decide +kernel
theorem d_Pulls_charges_31 : decode b_Pulls_charges 31 = .ok (.iload_n 2, 1) := by decide +kernel
theorem d_Pulls_charges_32 : decode b_Pulls_charges 32 = .ok (.iaload, 1) := by decide +kernel
theorem d_Pulls_charges_33 : decode b_Pulls_charges 33 = .ok (.daload, 1) := by decide +kernel
theorem d_Pulls_charges_34 : decode b_Pulls_charges 34 = .ok (.dmul, 1) := by decide +kernel
theorem d_Pulls_charges_35 : decode b_Pulls_charges 35 = .ok (.dreturn, 1) := by decide +kernel
set_option maxHeartbeats 4000000 in
set_option maxRecDepth 100000 in
/-- FROM i TO j -/
theorem c_Pulls_measure (l : Launch) (dC : Nat → ClassId) (dI : Nat → Nat → Nat) (cI cD cZ : ClassId) (sz : Nat) (hp : Nat) (hso0 : Nat) (hb0 : Nat) (hfx : Nat) (hfy : Nat) (cut : UInt64) (hq : Nat) (side : UInt64) (qa : UInt64) (qb : UInt64) (qr : UInt64) (ha : Nat) (hax : Nat) (hay : Nat) (hau : Nat) (hav : Nat) (ham : Nat) (has : Nat) (hak : Nat) (x : Nat → UInt64) (y : Nat → UInt64) (u : Nat → UInt64) (v : Nat → UInt64) (mass : Nat → UInt64) (sort : Nat → Int32) (stuck : Nat → Int32) (n : Nat) (i : Nat) (j : Nat) (k : Int) (hs : pb_S side k) (hn : n ≤ 10) (hi : i < n) (hj : j < n) (hX : ∀ i, i < n → pb_Ip (x i)) (hY : ∀ i, i < n → pb_Ip (y i)) : Met l y_Pulls_measure w_Pulls_measure ({ frames := 2, cells := 0, slots := 0, locals := 55 }) (va_Pc [.ref hp, .int (nI i), .int (nI j)] (gx_B (dC, dI) classes (gx_T cI cD cZ) [(hp, .inr (4, [.ref hq, .ref ha, .ref hso0, .ref hb0, .ref hfx, .ref hfy, .double cut])), (hq, .inr (7, [.double side, .double qa, .double qb, .double qr])), (ha, .inr (0, [.ref hax, .ref hay, .ref hau, .ref hav, .ref ham, .ref has, .ref hak, .int (nI n)])), (hax, .inl (cD, 10, .inr (.inr (.inr (.inl x))))), (hay, .inl (cD, 10, .inr (.inr (.inr (.inl y))))), (hau, .inl (cD, 10, .inr (.inr (.inr (.inl u))))), (hav, .inl (cD, 10, .inr (.inr (.inr (.inl v))))), (ham, .inl (cD, 10, .inr (.inr (.inr (.inl mass))))), (has, .inl (cI, 10, .inl sort)), (hak, .inl (cZ, 10, .inl stuck))] sz)) (va_Qv (fun (uu : Unit) => True) (fun (uu : Unit) t => gx_E (dC, dI) classes (gx_T cI cD cZ) (va_A [(hp, .inr (4, [.ref hq, .ref ha, .ref hso0, .ref hb0, .ref hfx, .ref hfy, .double cut])), (hq, .inr (7, [.double side, .double qa, .double qb, .double qr])), (ha, .inr (0, [.ref hax, .ref hay, .ref hau, .ref hav, .ref ham, .ref has, .ref hak, .int (nI n)])), (hax, .inl (cD, 10, .inr (.inr (.inr (.inl x))))), (hay, .inl (cD, 10, .inr (.inr (.inr (.inl y))))), (hau, .inl (cD, 10, .inr (.inr (.inr (.inl u))))), (hav, .inl (cD, 10, .inr (.inr (.inr (.inl v))))), (ham, .inl (cD, 10, .inr (.inr (.inr (.inl mass))))), (has, .inl (cI, 10, .inl sort)), (hak, .inl (cZ, 10, .inl stuck))] sz) [(hp, .inr (4, [.ref hq, .ref ha, .ref hso0, .ref hb0, .ref hfx, .ref hfy, .double cut])), (hq, .inr (7, [.double side, .double (pb_near side (FP.dsub (x j) (x i))), .double (pb_near side (FP.dsub (y j) (y i))), .double (pb_rij side x y i j)])), (ha, .inr (0, [.ref hax, .ref hay, .ref hau, .ref hav, .ref ham, .ref has, .ref hak, .int (nI n)])), (hax, .inl (cD, 10, .inr (.inr (.inr (.inl x))))), (hay, .inl (cD, 10, .inr (.inr (.inr (.inl y))))), (hau, .inl (cD, 10, .inr (.inr (.inr (.inl u))))), (hav, .inl (cD, 10, .inr (.inr (.inr (.inl v))))), (ham, .inl (cD, 10, .inr (.inr (.inr (.inl mass))))), (has, .inl (cI, 10, .inl sort)), (hak, .inl (cZ, 10, .inl stuck))] t) (va_A [(hp, .inr (4, [.ref hq, .ref ha, .ref hso0, .ref hb0, .ref hfx, .ref hfy, .double cut])), (hq, .inr (7, [.double side, .double qa, .double qb, .double qr])), (ha, .inr (0, [.ref hax, .ref hay, .ref hau, .ref hav, .ref ham, .ref has, .ref hak, .int (nI n)])), (hax, .inl (cD, 10, .inr (.inr (.inr (.inl x))))), (hay, .inl (cD, 10, .inr (.inr (.inr (.inl y))))), (hau, .inl (cD, 10, .inr (.inr (.inr (.inl u))))), (hav, .inl (cD, 10, .inr (.inr (.inr (.inl v))))), (ham, .inl (cD, 10, .inr (.inr (.inr (.inl mass))))), (has, .inl (cI, 10, .inl sort)), (hak, .inl (cZ, 10, .inl stuck))] sz)) 0 0 (va_A [(hp, .inr (4, [.ref hq, .ref ha, .ref hso0, .ref hb0, .ref hfx, .ref hfy, .double cut])), (hq, .inr (7, [.double side, .double qa, .double qb, .double qr])), (ha, .inr (0, [.ref hax, .ref hay, .ref hau, .ref hav, .ref ham, .ref has, .ref hak, .int (nI n)])), (hax, .inl (cD, 10, .inr (.inr (.inr (.inl x))))), (hay, .inl (cD, 10, .inr (.inr (.inr (.inl y))))), (hau, .inl (cD, 10, .inr (.inr (.inr (.inl u))))), (hav, .inl (cD, 10, .inr (.inr (.inr (.inl v))))), (ham, .inl (cD, 10, .inr (.inr (.inr (.inl mass))))), (has, .inl (cI, 10, .inl sort)), (hak, .inl (cZ, 10, .inl stuck))] sz) := by
  refine Met.ofW (cc := b_Pulls_measure) (maxL := 3) (ret := none) (by decide) rfl ?_
  intro p e s m args below meth c s₁ B hml hv
  obtain ⟨rfl, hsz, hP, hK, hD0, hN⟩ := hv
  have hx := B.exec
  have hb := B.bytes
  have hr := B.returns
  have hts := atoms_spec (ws := w_Pulls_measure) B.pre
  have hown : s.vm.findClass R_Pulls = some m.cls := findClass_of_methodNamed B.named
  have hlocks := B.notSynchronized
  subst hsz
  have hD := hD0.self (sz := s.heap.size)
  generalize hAe : va_A [(hp, .inr (4, [.ref hq, .ref ha, .ref hso0, .ref hb0, .ref hfx, .ref hfy, .double cut])), (hq, .inr (7, [.double side, .double qa, .double qb, .double qr])), (ha, .inr (0, [.ref hax, .ref hay, .ref hau, .ref hav, .ref ham, .ref has, .ref hak, .int (nI n)])), (hax, .inl (cD, 10, .inr (.inr (.inr (.inl x))))), (hay, .inl (cD, 10, .inr (.inr (.inr (.inl y))))), (hau, .inl (cD, 10, .inr (.inr (.inr (.inl u))))), (hav, .inl (cD, 10, .inr (.inr (.inr (.inl v))))), (ham, .inl (cD, 10, .inr (.inr (.inr (.inl mass))))), (has, .inl (cI, 10, .inl sort)), (hak, .inl (cZ, 10, .inl stuck))] s.heap.size = A at hD ⊢
  have hA : ∀ q : Nat, s.heap.size ≤ q → A q := fun q h => by rw [← hAe]; exact Or.inr h
  have hS : va_S A s.heap s.heap [] := va_S.rf
  have hl := lv_entry ([.ref hp, .int (nI i), .int (nI j)]) (n := 3) (Nat.le_of_ble_eq_true rfl)
  rw [lg_entry_eq]
  generalize (lg_sl ([.ref hp, .int (nI i), .int (nI j)]) ++ List.replicate (3 - (lg_sl ([.ref hp, .int (nI i), .int (nI j)])).length) Slot.unset).toArray = ls at hl ⊢
  have hl : lv_has ls 3 [(0, .ref hp), (1, .int (nI i)), (2, .int (nI j))] := hl
  obtain ⟨H, hH⟩ : ∃ H, H = s.heap := ⟨_, rfl⟩
  rw [← hH] at hP
  have hS : va_S A s.heap H [] := by rw [hH]; exact hS
  refine gx_start hH ?_
  refine lv_aload_n hx hb d_Pulls_measure_0 rfl (lv_at hl 0 rfl) ?_
  refine va_get (D := (dC, dI)) (ci := 4) (v := .ref hq) (C := R_Pulls) (T := F_Pulls) (N := 7) hx hb hts (fun w h => List.mem_cons_of_mem _ (i_Pulls w h)) hown hK hP 0 rfl rfl 0 (by decide) (hts _ (List.mem_cons_of_mem _ kw_224)) (fun _ h9 => h9) rfl d_Pulls_measure_1 ?_
  refine lv_aload_n hx hb d_Pulls_measure_4 rfl (lv_at hl 0 rfl) ?_
  refine va_get (D := (dC, dI)) (ci := 4) (v := .ref ha) (C := R_Pulls) (T := F_Pulls) (N := 7) hx hb hts (fun w h => List.mem_cons_of_mem _ (i_Pulls w h)) hown hK hP 0 rfl rfl 1 (by decide) (hts _ (List.mem_cons_of_mem _ kw_225)) (fun _ h9 => h9) rfl d_Pulls_measure_5 ?_
  refine va_get (D := (dC, dI)) (ci := 0) (v := .ref hax) (C := R_Atoms) (T := F_Atoms) (N := 8) hx hb hts (fun w h => List.mem_cons_of_mem _ (i_Atoms w h)) hown hK hP 2 rfl rfl 0 (by decide) (hts _ (List.mem_cons_of_mem _ kw_116)) (fun _ h9 => h9) rfl d_Pulls_measure_8 ?_
  refine lv_iload_n hx hb d_Pulls_measure_11 rfl (lv_at hl 1 rfl) ?_
  refine gx_dald hx hb hK hP 3 1 rfl rfl (by omega) (by decide) d_Pulls_measure_12 ?_
  have g_1 := hX i (by omega)
  refine lv_aload_n hx hb d_Pulls_measure_13 rfl (lv_at hl 0 rfl) ?_
  refine va_get (D := (dC, dI)) (ci := 4) (v := .ref ha) (C := R_Pulls) (T := F_Pulls) (N := 7) hx hb hts (fun w h => List.mem_cons_of_mem _ (i_Pulls w h)) hown hK hP 0 rfl rfl 1 (by decide) (hts _ (List.mem_cons_of_mem _ kw_225)) (fun _ h9 => h9) rfl d_Pulls_measure_14 ?_
  refine va_get (D := (dC, dI)) (ci := 0) (v := .ref hay) (C := R_Atoms) (T := F_Atoms) (N := 8) hx hb hts (fun w h => List.mem_cons_of_mem _ (i_Atoms w h)) hown hK hP 2 rfl rfl 1 (by decide) (hts _ (List.mem_cons_of_mem _ kw_121)) (fun _ h9 => h9) rfl d_Pulls_measure_17 ?_
  refine lv_iload_n hx hb d_Pulls_measure_20 rfl (lv_at hl 1 rfl) ?_
  refine gx_dald hx hb hK hP 4 1 rfl rfl (by omega) (by decide) d_Pulls_measure_21 ?_
  have g_2 := hY i (by omega)
  refine lv_aload_n hx hb d_Pulls_measure_22 rfl (lv_at hl 0 rfl) ?_
  refine va_get (D := (dC, dI)) (ci := 4) (v := .ref ha) (C := R_Pulls) (T := F_Pulls) (N := 7) hx hb hts (fun w h => List.mem_cons_of_mem _ (i_Pulls w h)) hown hK hP 0 rfl rfl 1 (by decide) (hts _ (List.mem_cons_of_mem _ kw_225)) (fun _ h9 => h9) rfl d_Pulls_measure_23 ?_
  refine va_get (D := (dC, dI)) (ci := 0) (v := .ref hax) (C := R_Atoms) (T := F_Atoms) (N := 8) hx hb hts (fun w h => List.mem_cons_of_mem _ (i_Atoms w h)) hown hK hP 2 rfl rfl 0 (by decide) (hts _ (List.mem_cons_of_mem _ kw_116)) (fun _ h9 => h9) rfl d_Pulls_measure_26 ?_
  refine lv_iload_n hx hb d_Pulls_measure_29 rfl (lv_at hl 2 rfl) ?_
  refine gx_dald hx hb hK hP 3 1 rfl rfl (by omega) (by decide) d_Pulls_measure_30 ?_
  have g_3 := hX j (by omega)
  refine lv_aload_n hx hb d_Pulls_measure_31 rfl (lv_at hl 0 rfl) ?_
  refine va_get (D := (dC, dI)) (ci := 4) (v := .ref ha) (C := R_Pulls) (T := F_Pulls) (N := 7) hx hb hts (fun w h => List.mem_cons_of_mem _ (i_Pulls w h)) hown hK hP 0 rfl rfl 1 (by decide) (hts _ (List.mem_cons_of_mem _ kw_225)) (fun _ h9 => h9) rfl d_Pulls_measure_32 ?_
  refine va_get (D := (dC, dI)) (ci := 0) (v := .ref hay) (C := R_Atoms) (T := F_Atoms) (N := 8) hx hb hts (fun w h => List.mem_cons_of_mem _ (i_Atoms w h)) hown hK hP 2 rfl rfl 1 (by decide) (hts _ (List.mem_cons_of_mem _ kw_121)) (fun _ h9 => h9) rfl d_Pulls_measure_35 ?_
  refine lv_iload_n hx hb d_Pulls_measure_38 rfl (lv_at hl 2 rfl) ?_
  refine gx_dald hx hb hK hP 4 1 rfl rfl (by omega) (by decide) d_Pulls_measure_39 ?_
  have g_4 := hY j (by omega)
  refine gx_Vv (st0 := [.double (y j), .double (x j), .double (y i), .double (x i), .ref hq]) (As := [.double (x i), .double (y i), .double (x j), .double (y j)]) (rest := []) (wr := [(hp, .inr (4, [.ref hq, .ref ha, .ref hso0, .ref hb0, .ref hfx, .ref hfy, .double cut])), (ha, .inr (0, [.ref hax, .ref hay, .ref hau, .ref hav, .ref ham, .ref has, .ref hak, .int (nI n)])), (hax, .inl (cD, 10, .inr (.inr (.inr (.inl x))))), (hay, .inl (cD, 10, .inr (.inr (.inr (.inl y))))), (hau, .inl (cD, 10, .inr (.inr (.inr (.inl u))))), (hav, .inl (cD, 10, .inr (.inr (.inr (.inl v))))), (ham, .inl (cD, 10, .inr (.inr (.inr (.inl mass))))), (has, .inl (cI, 10, .inl sort)), (hak, .inl (cZ, 10, .inl stuck))]) ⟨hx, hb, hml, hown, hts⟩ hN hK hP hD hS hA [1] [0, 2, 3, 4, 5, 6, 7, 8, 9] rfl rfl (by decide) (c_Square_measure l dC dI cI cD cZ H.size hq side qa qb qr (x i) (y i) (x j) (y j) k hs (g_1.w (by decide +kernel) (by decide +kernel)) (g_2.w (by decide +kernel) (by decide +kernel)) (g_3.w (by decide +kernel) (by decide +kernel)) (g_4.w (by decide +kernel) (by decide +kernel))) (cwV 4 hts (gx_gV kw_392 kw_393 kw_394 kw_45 kw_395) rfl rfl rfl (by decide +kernel) ⟨Nat.le_of_ble_eq_true rfl, Nat.le_of_ble_eq_true rfl⟩) 1 7 rfl rfl rfl hl.1 rfl (Nat.le_of_ble_eq_true rfl) d_Pulls_measure_40 ⟨Nat.le_of_ble_eq_true rfl, Nat.le_of_ble_eq_true rfl⟩ (fun  u_5 H locs hw40 hP hD hS => ?_)
  try dsimp only at hw40 hP hD
  have hP : va_P (dC, dI) classes [(hp, .inr (4, [.ref hq, .ref ha, .ref hso0, .ref hb0, .ref hfx, .ref hfy, .double cut])), (ha, .inr (0, [.ref hax, .ref hay, .ref hau, .ref hav, .ref ham, .ref has, .ref hak, .int (nI n)])), (hax, .inl (cD, 10, .inr (.inr (.inr (.inl x))))), (hay, .inl (cD, 10, .inr (.inr (.inr (.inl y))))), (hau, .inl (cD, 10, .inr (.inr (.inr (.inl u))))), (hav, .inl (cD, 10, .inr (.inr (.inr (.inl v))))), (ham, .inl (cD, 10, .inr (.inr (.inr (.inl mass))))), (has, .inl (cI, 10, .inl sort)), (hak, .inl (cZ, 10, .inl stuck)), (hq, .inr (7, [.double side, .double (pb_near side (FP.dsub (x j) (x i))), .double (pb_near side (FP.dsub (y j) (y i))), .double (pb_r2 side (x i) (y i) (x j) (y j))]))] H := hP
  have hD : va_D A [(hp, .inr (4, [.ref hq, .ref ha, .ref hso0, .ref hb0, .ref hfx, .ref hfy, .double cut])), (ha, .inr (0, [.ref hax, .ref hay, .ref hau, .ref hav, .ref ham, .ref has, .ref hak, .int (nI n)])), (hax, .inl (cD, 10, .inr (.inr (.inr (.inl x))))), (hay, .inl (cD, 10, .inr (.inr (.inr (.inl y))))), (hau, .inl (cD, 10, .inr (.inr (.inr (.inl u))))), (hav, .inl (cD, 10, .inr (.inr (.inr (.inl v))))), (ham, .inl (cD, 10, .inr (.inr (.inr (.inl mass))))), (has, .inl (cI, 10, .inl sort)), (hak, .inl (cZ, 10, .inl stuck)), (hq, .inr (7, [.double side, .double (pb_near side (FP.dsub (x j) (x i))), .double (pb_near side (FP.dsub (y j) (y i))), .double (pb_r2 side (x i) (y i) (x j) (y j))]))] := hD
  have hP9 := hP.sub (ws' := [(hp, .inr (4, [.ref hq, .ref ha, .ref hso0, .ref hb0, .ref hfx, .ref hfy, .double cut])), (hq, .inr (7, [.double side, .double (pb_near side (FP.dsub (x j) (x i))), .double (pb_near side (FP.dsub (y j) (y i))), .double (pb_rij side x y i j)])), (ha, .inr (0, [.ref hax, .ref hay, .ref hau, .ref hav, .ref ham, .ref has, .ref hak, .int (nI n)])), (hax, .inl (cD, 10, .inr (.inr (.inr (.inl x))))), (hay, .inl (cD, 10, .inr (.inr (.inr (.inl y))))), (hau, .inl (cD, 10, .inr (.inr (.inr (.inl u))))), (hav, .inl (cD, 10, .inr (.inr (.inr (.inl v))))), (ham, .inl (cD, 10, .inr (.inr (.inr (.inl mass))))), (has, .inl (cI, 10, .inl sort)), (hak, .inl (cZ, 10, .inl stuck))]) [0, 9, 1, 2, 3, 4, 5, 6, 7, 8] rfl
  have hD9 := hD.sub (ws' := [(hp, .inr (4, [.ref hq, .ref ha, .ref hso0, .ref hb0, .ref hfx, .ref hfy, .double cut])), (hq, .inr (7, [.double side, .double (pb_near side (FP.dsub (x j) (x i))), .double (pb_near side (FP.dsub (y j) (y i))), .double (pb_rij side x y i j)])), (ha, .inr (0, [.ref hax, .ref hay, .ref hau, .ref hav, .ref ham, .ref has, .ref hak, .int (nI n)])), (hax, .inl (cD, 10, .inr (.inr (.inr (.inl x))))), (hay, .inl (cD, 10, .inr (.inr (.inr (.inl y))))), (hau, .inl (cD, 10, .inr (.inr (.inr (.inl u))))), (hav, .inl (cD, 10, .inr (.inr (.inr (.inl v))))), (ham, .inl (cD, 10, .inr (.inr (.inr (.inl mass))))), (has, .inl (cI, 10, .inl sort)), (hak, .inl (cZ, 10, .inl stuck))]) [0, 9, 1, 2, 3, 4, 5, 6, 7, 8] (by decide) rfl
  exact W.vret hx hb hr (fun t ht hW => ⟨⟨(), rfl, trivial, by rw [ht]; exact hP9, va_K.moved hW.alike hK, hD9⟩, hS.F ht⟩) hS.2.2 d_Pulls_measure_43
set_option maxHeartbeats 4000000 in
set_option maxRecDepth 100000 in
/-- isPair -/
theorem c_Pulls_isPair (l : Launch) (dC : Nat → ClassId) (dI : Nat → Nat → Nat) (cI cD cZ : ClassId) (sz : Nat) (hp : Nat) (hso0 : Nat) (hb0 : Nat) (hfx : Nat) (hfy : Nat) (cut : UInt64) (hq : Nat) (side : UInt64) (qa : UInt64) (qb : UInt64) (qr : UInt64) (ha : Nat) (hcut : pb_Icut cut) : Met l y_Pulls_isPair w_Pulls_isPair ({ frames := 0, cells := 0, slots := 0, locals := 0 }) (va_Pc [.ref hp] (gx_B (dC, dI) classes (gx_T cI cD cZ) [(hp, .inr (4, [.ref hq, .ref ha, .ref hso0, .ref hb0, .ref hfx, .ref hfy, .double cut])), (hq, .inr (7, [.double side, .double qa, .double qb, .double qr]))] sz)) (va_Qi (fun (rr : Int32) (uu : Unit) => rr = pb_b (FP.dcmp qr (FP.dmul cut cut) = some .lt)) (fun (uu : Unit) t => gx_E (dC, dI) classes (gx_T cI cD cZ) (va_A [(hp, .inr (4, [.ref hq, .ref ha, .ref hso0, .ref hb0, .ref hfx, .ref hfy, .double cut])), (hq, .inr (7, [.double side, .double qa, .double qb, .double qr]))] sz) [(hp, .inr (4, [.ref hq, .ref ha, .ref hso0, .ref hb0, .ref hfx, .ref hfy, .double cut])), (hq, .inr (7, [.double side, .double qa, .double qb, .double qr]))] t) (va_A [(hp, .inr (4, [.ref hq, .ref ha, .ref hso0, .ref hb0, .ref hfx, .ref hfy, .double cut])), (hq, .inr (7, [.double side, .double qa, .double qb, .double qr]))] sz)) 0 0 (va_A [(hp, .inr (4, [.ref hq, .ref ha, .ref hso0, .ref hb0, .ref hfx, .ref hfy, .double cut])), (hq, .inr (7, [.double side, .double qa, .double qb, .double qr]))] sz) := by
  refine Met.ofW (cc := b_Pulls_isPair) (maxL := 1) (ret := (some .boolean)) (by decide) rfl ?_
  intro p e s m args below meth c s₁ B hml hv
  obtain ⟨rfl, hsz, hP, hK, hD0, hN⟩ := hv
  have hx := B.exec
  have hb := B.bytes
  have hr := B.returns
  have hts := atoms_spec (ws := w_Pulls_isPair) B.pre
  have hown : s.vm.findClass R_Pulls = some m.cls := findClass_of_methodNamed B.named
  have hlocks := B.notSynchronized
  subst hsz
  have hD := hD0.self (sz := s.heap.size)
  generalize hAe : va_A [(hp, .inr (4, [.ref hq, .ref ha, .ref hso0, .ref hb0, .ref hfx, .ref hfy, .double cut])), (hq, .inr (7, [.double side, .double qa, .double qb, .double qr]))] s.heap.size = A at hD ⊢
  have hA : ∀ q : Nat, s.heap.size ≤ q → A q := fun q h => by rw [← hAe]; exact Or.inr h
  have hS : va_S A s.heap s.heap [] := va_S.rf
  have hl := lv_entry ([.ref hp]) (n := 1) (Nat.le_of_ble_eq_true rfl)
  rw [lg_entry_eq]
  generalize (lg_sl ([.ref hp]) ++ List.replicate (1 - (lg_sl ([.ref hp])).length) Slot.unset).toArray = ls at hl ⊢
  have hl : lv_has ls 1 [(0, .ref hp)] := hl
  obtain ⟨H, hH⟩ : ∃ H, H = s.heap := ⟨_, rfl⟩
  rw [← hH] at hP
  have hS : va_S A s.heap H [] := by rw [hH]; exact hS
  refine gx_start hH ?_
  refine lv_aload_n hx hb d_Pulls_isPair_0 rfl (lv_at hl 0 rfl) ?_
  refine va_get (D := (dC, dI)) (ci := 4) (v := .ref hq) (C := R_Pulls) (T := F_Pulls) (N := 7) hx hb hts (fun w h => List.mem_cons_of_mem _ (i_Pulls w h)) hown hK hP 0 rfl rfl 0 (by decide) (hts _ (List.mem_cons_of_mem _ kw_224)) (fun _ h9 => h9) rfl d_Pulls_isPair_1 ?_
  refine va_get (D := (dC, dI)) (ci := 7) (v := .double qr) (C := R_Square) (T := F_Square) (N := 4) hx hb hts (fun w h => List.mem_cons_of_mem _ (i_Square w h)) hown hK hP 1 rfl rfl 3 (by decide) (hts _ (List.mem_cons_of_mem _ kw_92)) (fun _ h9 => h9) rfl d_Pulls_isPair_4 ?_
  refine lv_aload_n hx hb d_Pulls_isPair_7 rfl (lv_at hl 0 rfl) ?_
  refine va_get (D := (dC, dI)) (ci := 4) (v := .double cut) (C := R_Pulls) (T := F_Pulls) (N := 7) hx hb hts (fun w h => List.mem_cons_of_mem _ (i_Pulls w h)) hown hK hP 0 rfl rfl 6 (by decide) (hts _ (List.mem_cons_of_mem _ kw_234)) (fun _ h9 => h9) rfl d_Pulls_isPair_8 ?_
  refine lv_aload_n hx hb d_Pulls_isPair_11 rfl (lv_at hl 0 rfl) ?_
  refine va_get (D := (dC, dI)) (ci := 4) (v := .double cut) (C := R_Pulls) (T := F_Pulls) (N := 7) hx hb hts (fun w h => List.mem_cons_of_mem _ (i_Pulls w h)) hown hK hP 0 rfl rfl 6 (by decide) (hts _ (List.mem_cons_of_mem _ kw_234)) (fun _ h9 => h9) rfl d_Pulls_isPair_12 ?_
  have g_1 := fp_I_mul (fp_d 1 1072) (fp_d 1 1082) hcut hcut (by decide +kernel)
  refine lv_dmul hx hb d_Pulls_isPair_15 g_1.n ?_
  refine gx_lt (tgt := 24) hx hb d_Pulls_isPair_16 d_Pulls_isPair_17 (by decide) (fun c16 => ?_) (fun c16 => ?_)
  · skip
    refine lv_iconst (v := 0) hx hb d_Pulls_isPair_24 (by decide) ?_
    have hP9 := hP.sub (ws' := [(hp, .inr (4, [.ref hq, .ref ha, .ref hso0, .ref hb0, .ref hfx, .ref hfy, .double cut])), (hq, .inr (7, [.double side, .double qa, .double qb, .double qr]))]) [0, 1] rfl
    have hD9 := hD.sub (ws' := [(hp, .inr (4, [.ref hq, .ref ha, .ref hso0, .ref hb0, .ref hfx, .ref hfy, .double cut])), (hq, .inr (7, [.double side, .double qa, .double qb, .double qr]))]) [0, 1] (by decide) rfl
    exact W.zret (v := 0) hx hb hr rfl (fun t ht hW => ⟨⟨0, (), rfl, (pb_b_f c16).symm, by rw [ht]; exact hP9, va_K.moved hW.alike hK, hD9⟩, hS.F ht⟩) hS.2.2 d_Pulls_isPair_25
  · skip
    refine lv_iconst (v := 1) hx hb d_Pulls_isPair_20 (by decide) ?_
    refine lv_goto (tgt := 25) hx hb d_Pulls_isPair_21 (by decide) ?_
    have hP9 := hP.sub (ws' := [(hp, .inr (4, [.ref hq, .ref ha, .ref hso0, .ref hb0, .ref hfx, .ref hfy, .double cut])), (hq, .inr (7, [.double side, .double qa, .double qb, .double qr]))]) [0, 1] rfl
    have hD9 := hD.sub (ws' := [(hp, .inr (4, [.ref hq, .ref ha, .ref hso0, .ref hb0, .ref hfx, .ref hfy, .double cut])), (hq, .inr (7, [.double side, .double qa, .double qb, .double qr]))]) [0, 1] (by decide) rfl
    exact W.zret (v := 1) hx hb hr rfl (fun t ht hW => ⟨⟨1, (), rfl, (pb_b_t c16).symm, by rw [ht]; exact hP9, va_K.moved hW.alike hK, hD9⟩, hS.F ht⟩) hS.2.2 d_Pulls_isPair_25
set_option maxHeartbeats 4000000 in
set_option maxRecDepth 100000 in
/-- meanDepth -/
theorem c_Pulls_meanDepth (l : Launch) (dC : Nat → ClassId) (dI : Nat → Nat → Nat) (cI cD cZ : ClassId) (sz : Nat) (hp : Nat) (hso0 : Nat) (hb0 : Nat) (hfx : Nat) (hfy : Nat) (cut : UInt64) (hq : Nat) (side : UInt64) (qa : UInt64) (qb : UInt64) (qr : UInt64) (ha : Nat) (hax : Nat) (hay : Nat) (hau : Nat) (hav : Nat) (ham : Nat) (has : Nat) (hak : Nat) (x : Nat → UInt64) (y : Nat → UInt64) (u : Nat → UInt64) (v : Nat → UInt64) (mass : Nat → UInt64) (so : Nat → Nat) (stuck : Nat → Int32) (n : Nat) (hsw : Nat) (hsd : Nat) (hsc : Nat) (width : Nat → UInt64) (depth : Nat → UInt64) (charge : Nat → UInt64) (i : Nat) (j : Nat) (hn : n ≤ 10) (hi : i < n) (hj : j < n) (hso : ∀ i, i < n → so i < 3) (hdI : ∀ i, i < 3 → pb_Id (depth i)) : Met l y_Pulls_meanDepth w_Pulls_meanDepth ({ frames := 0, cells := 0, slots := 0, locals := 0 }) (va_Pc [.ref hp, .int (nI i), .int (nI j)] (gx_B (dC, dI) classes (gx_T cI cD cZ) [(hp, .inr (4, [.ref hq, .ref ha, .ref hso0, .ref hb0, .ref hfx, .ref hfy, .double cut])), (hq, .inr (7, [.double side, .double qa, .double qb, .double qr])), (ha, .inr (0, [.ref hax, .ref hay, .ref hau, .ref hav, .ref ham, .ref has, .ref hak, .int (nI n)])), (hax, .inl (cD, 10, .inr (.inr (.inr (.inl x))))), (hay, .inl (cD, 10, .inr (.inr (.inr (.inl y))))), (hau, .inl (cD, 10, .inr (.inr (.inr (.inl u))))), (hav, .inl (cD, 10, .inr (.inr (.inr (.inl v))))), (ham, .inl (cD, 10, .inr (.inr (.inr (.inl mass))))), (has, .inl (cI, 10, .inl (pb_n so))), (hak, .inl (cZ, 10, .inl stuck)), (hso0, .inr (6, [.ref hsw, .ref hsd, .ref hsc])), (hsw, .inl (cD, 3, .inr (.inr (.inr (.inl width))))), (hsd, .inl (cD, 3, .inr (.inr (.inr (.inl depth))))), (hsc, .inl (cD, 3, .inr (.inr (.inr (.inl charge)))))] sz)) (va_Qd (fun (rr : UInt64) (uu : Unit) => rr = pb_mid depth so i j) (fun (uu : Unit) t => gx_E (dC, dI) classes (gx_T cI cD cZ) (va_A [(hp, .inr (4, [.ref hq, .ref ha, .ref hso0, .ref hb0, .ref hfx, .ref hfy, .double cut])), (hq, .inr (7, [.double side, .double qa, .double qb, .double qr])), (ha, .inr (0, [.ref hax, .ref hay, .ref hau, .ref hav, .ref ham, .ref has, .ref hak, .int (nI n)])), (hax, .inl (cD, 10, .inr (.inr (.inr (.inl x))))), (hay, .inl (cD, 10, .inr (.inr (.inr (.inl y))))), (hau, .inl (cD, 10, .inr (.inr (.inr (.inl u))))), (hav, .inl (cD, 10, .inr (.inr (.inr (.inl v))))), (ham, .inl (cD, 10, .inr (.inr (.inr (.inl mass))))), (has, .inl (cI, 10, .inl (pb_n so))), (hak, .inl (cZ, 10, .inl stuck)), (hso0, .inr (6, [.ref hsw, .ref hsd, .ref hsc])), (hsw, .inl (cD, 3, .inr (.inr (.inr (.inl width))))), (hsd, .inl (cD, 3, .inr (.inr (.inr (.inl depth))))), (hsc, .inl (cD, 3, .inr (.inr (.inr (.inl charge)))))] sz) [(hp, .inr (4, [.ref hq, .ref ha, .ref hso0, .ref hb0, .ref hfx, .ref hfy, .double cut])), (hq, .inr (7, [.double side, .double qa, .double qb, .double qr])), (ha, .inr (0, [.ref hax, .ref hay, .ref hau, .ref hav, .ref ham, .ref has, .ref hak, .int (nI n)])), (hax, .inl (cD, 10, .inr (.inr (.inr (.inl x))))), (hay, .inl (cD, 10, .inr (.inr (.inr (.inl y))))), (hau, .inl (cD, 10, .inr (.inr (.inr (.inl u))))), (hav, .inl (cD, 10, .inr (.inr (.inr (.inl v))))), (ham, .inl (cD, 10, .inr (.inr (.inr (.inl mass))))), (has, .inl (cI, 10, .inl (pb_n so))), (hak, .inl (cZ, 10, .inl stuck)), (hso0, .inr (6, [.ref hsw, .ref hsd, .ref hsc])), (hsw, .inl (cD, 3, .inr (.inr (.inr (.inl width))))), (hsd, .inl (cD, 3, .inr (.inr (.inr (.inl depth))))), (hsc, .inl (cD, 3, .inr (.inr (.inr (.inl charge)))))] t) (va_A [(hp, .inr (4, [.ref hq, .ref ha, .ref hso0, .ref hb0, .ref hfx, .ref hfy, .double cut])), (hq, .inr (7, [.double side, .double qa, .double qb, .double qr])), (ha, .inr (0, [.ref hax, .ref hay, .ref hau, .ref hav, .ref ham, .ref has, .ref hak, .int (nI n)])), (hax, .inl (cD, 10, .inr (.inr (.inr (.inl x))))), (hay, .inl (cD, 10, .inr (.inr (.inr (.inl y))))), (hau, .inl (cD, 10, .inr (.inr (.inr (.inl u))))), (hav, .inl (cD, 10, .inr (.inr (.inr (.inl v))))), (ham, .inl (cD, 10, .inr (.inr (.inr (.inl mass))))), (has, .inl (cI, 10, .inl (pb_n so))), (hak, .inl (cZ, 10, .inl stuck)), (hso0, .inr (6, [.ref hsw, .ref hsd, .ref hsc])), (hsw, .inl (cD, 3, .inr (.inr (.inr (.inl width))))), (hsd, .inl (cD, 3, .inr (.inr (.inr (.inl depth))))), (hsc, .inl (cD, 3, .inr (.inr (.inr (.inl charge)))))] sz)) 0 0 (va_A [(hp, .inr (4, [.ref hq, .ref ha, .ref hso0, .ref hb0, .ref hfx, .ref hfy, .double cut])), (hq, .inr (7, [.double side, .double qa, .double qb, .double qr])), (ha, .inr (0, [.ref hax, .ref hay, .ref hau, .ref hav, .ref ham, .ref has, .ref hak, .int (nI n)])), (hax, .inl (cD, 10, .inr (.inr (.inr (.inl x))))), (hay, .inl (cD, 10, .inr (.inr (.inr (.inl y))))), (hau, .inl (cD, 10, .inr (.inr (.inr (.inl u))))), (hav, .inl (cD, 10, .inr (.inr (.inr (.inl v))))), (ham, .inl (cD, 10, .inr (.inr (.inr (.inl mass))))), (has, .inl (cI, 10, .inl (pb_n so))), (hak, .inl (cZ, 10, .inl stuck)), (hso0, .inr (6, [.ref hsw, .ref hsd, .ref hsc])), (hsw, .inl (cD, 3, .inr (.inr (.inr (.inl width))))), (hsd, .inl (cD, 3, .inr (.inr (.inr (.inl depth))))), (hsc, .inl (cD, 3, .inr (.inr (.inr (.inl charge)))))] sz) := by
  refine Met.ofW (cc := b_Pulls_meanDepth) (maxL := 3) (ret := (some .double)) (by decide) rfl ?_
  intro p e s m args below meth c s₁ B hml hv
  obtain ⟨rfl, hsz, hP, hK, hD0, hN⟩ := hv
  have hx := B.exec
  have hb := B.bytes
  have hr := B.returns
  have hts := atoms_spec (ws := w_Pulls_meanDepth) B.pre
  have hown : s.vm.findClass R_Pulls = some m.cls := findClass_of_methodNamed B.named
  have hlocks := B.notSynchronized
  subst hsz
  have hD := hD0.self (sz := s.heap.size)
  generalize hAe : va_A [(hp, .inr (4, [.ref hq, .ref ha, .ref hso0, .ref hb0, .ref hfx, .ref hfy, .double cut])), (hq, .inr (7, [.double side, .double qa, .double qb, .double qr])), (ha, .inr (0, [.ref hax, .ref hay, .ref hau, .ref hav, .ref ham, .ref has, .ref hak, .int (nI n)])), (hax, .inl (cD, 10, .inr (.inr (.inr (.inl x))))), (hay, .inl (cD, 10, .inr (.inr (.inr (.inl y))))), (hau, .inl (cD, 10, .inr (.inr (.inr (.inl u))))), (hav, .inl (cD, 10, .inr (.inr (.inr (.inl v))))), (ham, .inl (cD, 10, .inr (.inr (.inr (.inl mass))))), (has, .inl (cI, 10, .inl (pb_n so))), (hak, .inl (cZ, 10, .inl stuck)), (hso0, .inr (6, [.ref hsw, .ref hsd, .ref hsc])), (hsw, .inl (cD, 3, .inr (.inr (.inr (.inl width))))), (hsd, .inl (cD, 3, .inr (.inr (.inr (.inl depth))))), (hsc, .inl (cD, 3, .inr (.inr (.inr (.inl charge)))))] s.heap.size = A at hD ⊢
  have hA : ∀ q : Nat, s.heap.size ≤ q → A q := fun q h => by rw [← hAe]; exact Or.inr h
  have hS : va_S A s.heap s.heap [] := va_S.rf
  have hl := lv_entry ([.ref hp, .int (nI i), .int (nI j)]) (n := 3) (Nat.le_of_ble_eq_true rfl)
  rw [lg_entry_eq]
  generalize (lg_sl ([.ref hp, .int (nI i), .int (nI j)]) ++ List.replicate (3 - (lg_sl ([.ref hp, .int (nI i), .int (nI j)])).length) Slot.unset).toArray = ls at hl ⊢
  have hl : lv_has ls 3 [(0, .ref hp), (1, .int (nI i)), (2, .int (nI j))] := hl
  obtain ⟨H, hH⟩ : ∃ H, H = s.heap := ⟨_, rfl⟩
  rw [← hH] at hP
  have hS : va_S A s.heap H [] := by rw [hH]; exact hS
  refine gx_start hH ?_
  refine lv_aload_n hx hb d_Pulls_meanDepth_0 rfl (lv_at hl 0 rfl) ?_
  refine va_get (D := (dC, dI)) (ci := 4) (v := .ref hso0) (C := R_Pulls) (T := F_Pulls) (N := 7) hx hb hts (fun w h => List.mem_cons_of_mem _ (i_Pulls w h)) hown hK hP 0 rfl rfl 2 (by decide) (hts _ (List.mem_cons_of_mem _ kw_226)) (fun _ h9 => h9) rfl d_Pulls_meanDepth_1 ?_
  refine va_get (D := (dC, dI)) (ci := 6) (v := .ref hsd) (C := R_Sorts) (T := F_Sorts) (N := 3) hx hb hts (fun w h => List.mem_cons_of_mem _ (i_Sorts w h)) hown hK hP 10 rfl rfl 1 (by decide) (hts _ (List.mem_cons_of_mem _ kw_174)) (fun _ h9 => h9) rfl d_Pulls_meanDepth_4 ?_
  refine lv_aload_n hx hb d_Pulls_meanDepth_7 rfl (lv_at hl 0 rfl) ?_
  refine va_get (D := (dC, dI)) (ci := 4) (v := .ref ha) (C := R_Pulls) (T := F_Pulls) (N := 7) hx hb hts (fun w h => List.mem_cons_of_mem _ (i_Pulls w h)) hown hK hP 0 rfl rfl 1 (by decide) (hts _ (List.mem_cons_of_mem _ kw_225)) (fun _ h9 => h9) rfl d_Pulls_meanDepth_8 ?_
  refine va_get (D := (dC, dI)) (ci := 0) (v := .ref has) (C := R_Atoms) (T := F_Atoms) (N := 8) hx hb hts (fun w h => List.mem_cons_of_mem _ (i_Atoms w h)) hown hK hP 2 rfl rfl 5 (by decide) (hts _ (List.mem_cons_of_mem _ kw_133)) (fun _ h9 => h9) rfl d_Pulls_meanDepth_11 ?_
  refine lv_iload_n hx hb d_Pulls_meanDepth_14 rfl (lv_at hl 1 rfl) ?_
  refine gx_iald hx hb hK hP 8 0 rfl rfl (by omega) (by decide) d_Pulls_meanDepth_15 ?_
  refine gx_dald hx hb hK hP 12 1 rfl rfl (hso i (by omega)) (by decide) d_Pulls_meanDepth_16 ?_
  have g_1 := hdI (so i) (hso i (by omega))
  refine lv_aload_n hx hb d_Pulls_meanDepth_17 rfl (lv_at hl 0 rfl) ?_
  refine va_get (D := (dC, dI)) (ci := 4) (v := .ref hso0) (C := R_Pulls) (T := F_Pulls) (N := 7) hx hb hts (fun w h => List.mem_cons_of_mem _ (i_Pulls w h)) hown hK hP 0 rfl rfl 2 (by decide) (hts _ (List.mem_cons_of_mem _ kw_226)) (fun _ h9 => h9) rfl d_Pulls_meanDepth_18 ?_
  refine va_get (D := (dC, dI)) (ci := 6) (v := .ref hsd) (C := R_Sorts) (T := F_Sorts) (N := 3) hx hb hts (fun w h => List.mem_cons_of_mem _ (i_Sorts w h)) hown hK hP 10 rfl rfl 1 (by decide) (hts _ (List.mem_cons_of_mem _ kw_174)) (fun _ h9 => h9) rfl d_Pulls_meanDepth_21 ?_
  refine lv_aload_n hx hb d_Pulls_meanDepth_24 rfl (lv_at hl 0 rfl) ?_
  refine va_get (D := (dC, dI)) (ci := 4) (v := .ref ha) (C := R_Pulls) (T := F_Pulls) (N := 7) hx hb hts (fun w h => List.mem_cons_of_mem _ (i_Pulls w h)) hown hK hP 0 rfl rfl 1 (by decide) (hts _ (List.mem_cons_of_mem _ kw_225)) (fun _ h9 => h9) rfl d_Pulls_meanDepth_25 ?_
  refine va_get (D := (dC, dI)) (ci := 0) (v := .ref has) (C := R_Atoms) (T := F_Atoms) (N := 8) hx hb hts (fun w h => List.mem_cons_of_mem _ (i_Atoms w h)) hown hK hP 2 rfl rfl 5 (by decide) (hts _ (List.mem_cons_of_mem _ kw_133)) (fun _ h9 => h9) rfl d_Pulls_meanDepth_28 ?_
  refine lv_iload_n hx hb d_Pulls_meanDepth_31 rfl (lv_at hl 2 rfl) ?_
  refine gx_iald hx hb hK hP 8 0 rfl rfl (by omega) (by decide) d_Pulls_meanDepth_32 ?_
  refine gx_dald hx hb hK hP 12 1 rfl rfl (hso j (by omega)) (by decide) d_Pulls_meanDepth_33 ?_
  have g_2 := hdI (so j) (hso j (by omega))
  have g_3 := fp_I_add (fp_d 0 0) (fp_d 1 1081) g_1 g_2 (by decide +kernel)
  refine lv_dadd hx hb d_Pulls_meanDepth_34 g_3.n ?_
  refine lv_ldc2d (v := 4602678819172646912) hx hb hown (hts (.constantDouble R_Pulls 140 4602678819172646912) (by decide +kernel)) d_Pulls_meanDepth_35 ?_
  have g_4 := fp_const (a := 4602678819172646912) (T := (fp_d 1 1073)) (by decide +kernel)
  have g_5 := fp_I_mul (fp_d 0 0) (fp_d 1 1080) g_3 g_4 (by decide +kernel)
  refine lv_dmul hx hb d_Pulls_meanDepth_38 g_5.n ?_
  have hP9 := hP.sub (ws' := [(hp, .inr (4, [.ref hq, .ref ha, .ref hso0, .ref hb0, .ref hfx, .ref hfy, .double cut])), (hq, .inr (7, [.double side, .double qa, .double qb, .double qr])), (ha, .inr (0, [.ref hax, .ref hay, .ref hau, .ref hav, .ref ham, .ref has, .ref hak, .int (nI n)])), (hax, .inl (cD, 10, .inr (.inr (.inr (.inl x))))), (hay, .inl (cD, 10, .inr (.inr (.inr (.inl y))))), (hau, .inl (cD, 10, .inr (.inr (.inr (.inl u))))), (hav, .inl (cD, 10, .inr (.inr (.inr (.inl v))))), (ham, .inl (cD, 10, .inr (.inr (.inr (.inl mass))))), (has, .inl (cI, 10, .inl (pb_n so))), (hak, .inl (cZ, 10, .inl stuck)), (hso0, .inr (6, [.ref hsw, .ref hsd, .ref hsc])), (hsw, .inl (cD, 3, .inr (.inr (.inr (.inl width))))), (hsd, .inl (cD, 3, .inr (.inr (.inr (.inl depth))))), (hsc, .inl (cD, 3, .inr (.inr (.inr (.inl charge)))))]) [0, 1, 2, 3, 4, 5, 6, 7, 8, 9, 10, 11, 12, 13] rfl
  have hD9 := hD.sub (ws' := [(hp, .inr (4, [.ref hq, .ref ha, .ref hso0, .ref hb0, .ref hfx, .ref hfy, .double cut])), (hq, .inr (7, [.double side, .double qa, .double qb, .double qr])), (ha, .inr (0, [.ref hax, .ref hay, .ref hau, .ref hav, .ref ham, .ref has, .ref hak, .int (nI n)])), (hax, .inl (cD, 10, .inr (.inr (.inr (.inl x))))), (hay, .inl (cD, 10, .inr (.inr (.inr (.inl y))))), (hau, .inl (cD, 10, .inr (.inr (.inr (.inl u))))), (hav, .inl (cD, 10, .inr (.inr (.inr (.inl v))))), (ham, .inl (cD, 10, .inr (.inr (.inr (.inl mass))))), (has, .inl (cI, 10, .inl (pb_n so))), (hak, .inl (cZ, 10, .inl stuck)), (hso0, .inr (6, [.ref hsw, .ref hsd, .ref hsc])), (hsw, .inl (cD, 3, .inr (.inr (.inr (.inl width))))), (hsd, .inl (cD, 3, .inr (.inr (.inr (.inl depth))))), (hsc, .inl (cD, 3, .inr (.inr (.inr (.inl charge)))))]) [0, 1, 2, 3, 4, 5, 6, 7, 8, 9, 10, 11, 12, 13] (by decide) rfl
  exact W.dret (v := (FP.dmul (FP.dadd (depth (so i)) (depth (so j))) 4602678819172646912)) hx hb hr (fun t ht hW => ⟨⟨(FP.dmul (FP.dadd (depth (so i)) (depth (so j))) 4602678819172646912), (), rfl, rfl, by rw [ht]; exact hP9, va_K.moved hW.alike hK, hD9⟩, hS.F ht⟩) hS.2.2 d_Pulls_meanDepth_39
set_option maxHeartbeats 4000000 in
set_option maxRecDepth 100000 in
/-- nearness -/
theorem c_Pulls_nearness (l : Launch) (dC : Nat → ClassId) (dI : Nat → Nat → Nat) (cI cD cZ : ClassId) (sz : Nat) (hp : Nat) (hso0 : Nat) (hb0 : Nat) (hfx : Nat) (hfy : Nat) (cut : UInt64) (hq : Nat) (side : UInt64) (qa : UInt64) (qb : UInt64) (qr : UInt64) (ha : Nat) (hax : Nat) (hay : Nat) (hau : Nat) (hav : Nat) (ham : Nat) (has : Nat) (hak : Nat) (x : Nat → UInt64) (y : Nat → UInt64) (u : Nat → UInt64) (v : Nat → UInt64) (mass : Nat → UInt64) (so : Nat → Nat) (stuck : Nat → Int32) (n : Nat) (hsw : Nat) (hsd : Nat) (hsc : Nat) (width : Nat → UInt64) (depth : Nat → UInt64) (charge : Nat → UInt64) (i : Nat) (j : Nat) (hn : n ≤ 10) (hi : i < n) (hj : j < n) (hso : ∀ i, i < n → so i < 3) (hwI : ∀ i, i < 3 → pb_Iw (width i)) (hrI : pb_Ir qr) : Met l y_Pulls_nearness w_Pulls_nearness ({ frames := 0, cells := 0, slots := 0, locals := 0 }) (va_Pc [.ref hp, .int (nI i), .int (nI j)] (gx_B (dC, dI) classes (gx_T cI cD cZ) [(hp, .inr (4, [.ref hq, .ref ha, .ref hso0, .ref hb0, .ref hfx, .ref hfy, .double cut])), (hq, .inr (7, [.double side, .double qa, .double qb, .double qr])), (ha, .inr (0, [.ref hax, .ref hay, .ref hau, .ref hav, .ref ham, .ref has, .ref hak, .int (nI n)])), (hax, .inl (cD, 10, .inr (.inr (.inr (.inl x))))), (hay, .inl (cD, 10, .inr (.inr (.inr (.inl y))))), (hau, .inl (cD, 10, .inr (.inr (.inr (.inl u))))), (hav, .inl (cD, 10, .inr (.inr (.inr (.inl v))))), (ham, .inl (cD, 10, .inr (.inr (.inr (.inl mass))))), (has, .inl (cI, 10, .inl (pb_n so))), (hak, .inl (cZ, 10, .inl stuck)), (hso0, .inr (6, [.ref hsw, .ref hsd, .ref hsc])), (hsw, .inl (cD, 3, .inr (.inr (.inr (.inl width))))), (hsd, .inl (cD, 3, .inr (.inr (.inr (.inl depth))))), (hsc, .inl (cD, 3, .inr (.inr (.inr (.inl charge)))))] sz)) (va_Qd (fun (rr : UInt64) (uu : Unit) => rr = pb_six (pb_mid width so i j) qr) (fun (uu : Unit) t => gx_E (dC, dI) classes (gx_T cI cD cZ) (va_A [(hp, .inr (4, [.ref hq, .ref ha, .ref hso0, .ref hb0, .ref hfx, .ref hfy, .double cut])), (hq, .inr (7, [.double side, .double qa, .double qb, .double qr])), (ha, .inr (0, [.ref hax, .ref hay, .ref hau, .ref hav, .ref ham, .ref has, .ref hak, .int (nI n)])), (hax, .inl (cD, 10, .inr (.inr (.inr (.inl x))))), (hay, .inl (cD, 10, .inr (.inr (.inr (.inl y))))), (hau, .inl (cD, 10, .inr (.inr (.inr (.inl u))))), (hav, .inl (cD, 10, .inr (.inr (.inr (.inl v))))), (ham, .inl (cD, 10, .inr (.inr (.inr (.inl mass))))), (has, .inl (cI, 10, .inl (pb_n so))), (hak, .inl (cZ, 10, .inl stuck)), (hso0, .inr (6, [.ref hsw, .ref hsd, .ref hsc])), (hsw, .inl (cD, 3, .inr (.inr (.inr (.inl width))))), (hsd, .inl (cD, 3, .inr (.inr (.inr (.inl depth))))), (hsc, .inl (cD, 3, .inr (.inr (.inr (.inl charge)))))] sz) [(hp, .inr (4, [.ref hq, .ref ha, .ref hso0, .ref hb0, .ref hfx, .ref hfy, .double cut])), (hq, .inr (7, [.double side, .double qa, .double qb, .double qr])), (ha, .inr (0, [.ref hax, .ref hay, .ref hau, .ref hav, .ref ham, .ref has, .ref hak, .int (nI n)])), (hax, .inl (cD, 10, .inr (.inr (.inr (.inl x))))), (hay, .inl (cD, 10, .inr (.inr (.inr (.inl y))))), (hau, .inl (cD, 10, .inr (.inr (.inr (.inl u))))), (hav, .inl (cD, 10, .inr (.inr (.inr (.inl v))))), (ham, .inl (cD, 10, .inr (.inr (.inr (.inl mass))))), (has, .inl (cI, 10, .inl (pb_n so))), (hak, .inl (cZ, 10, .inl stuck)), (hso0, .inr (6, [.ref hsw, .ref hsd, .ref hsc])), (hsw, .inl (cD, 3, .inr (.inr (.inr (.inl width))))), (hsd, .inl (cD, 3, .inr (.inr (.inr (.inl depth))))), (hsc, .inl (cD, 3, .inr (.inr (.inr (.inl charge)))))] t) (va_A [(hp, .inr (4, [.ref hq, .ref ha, .ref hso0, .ref hb0, .ref hfx, .ref hfy, .double cut])), (hq, .inr (7, [.double side, .double qa, .double qb, .double qr])), (ha, .inr (0, [.ref hax, .ref hay, .ref hau, .ref hav, .ref ham, .ref has, .ref hak, .int (nI n)])), (hax, .inl (cD, 10, .inr (.inr (.inr (.inl x))))), (hay, .inl (cD, 10, .inr (.inr (.inr (.inl y))))), (hau, .inl (cD, 10, .inr (.inr (.inr (.inl u))))), (hav, .inl (cD, 10, .inr (.inr (.inr (.inl v))))), (ham, .inl (cD, 10, .inr (.inr (.inr (.inl mass))))), (has, .inl (cI, 10, .inl (pb_n so))), (hak, .inl (cZ, 10, .inl stuck)), (hso0, .inr (6, [.ref hsw, .ref hsd, .ref hsc])), (hsw, .inl (cD, 3, .inr (.inr (.inr (.inl width))))), (hsd, .inl (cD, 3, .inr (.inr (.inr (.inl depth))))), (hsc, .inl (cD, 3, .inr (.inr (.inr (.inl charge)))))] sz)) 0 0 (va_A [(hp, .inr (4, [.ref hq, .ref ha, .ref hso0, .ref hb0, .ref hfx, .ref hfy, .double cut])), (hq, .inr (7, [.double side, .double qa, .double qb, .double qr])), (ha, .inr (0, [.ref hax, .ref hay, .ref hau, .ref hav, .ref ham, .ref has, .ref hak, .int (nI n)])), (hax, .inl (cD, 10, .inr (.inr (.inr (.inl x))))), (hay, .inl (cD, 10, .inr (.inr (.inr (.inl y))))), (hau, .inl (cD, 10, .inr (.inr (.inr (.inl u))))), (hav, .inl (cD, 10, .inr (.inr (.inr (.inl v))))), (ham, .inl (cD, 10, .inr (.inr (.inr (.inl mass))))), (has, .inl (cI, 10, .inl (pb_n so))), (hak, .inl (cZ, 10, .inl stuck)), (hso0, .inr (6, [.ref hsw, .ref hsd, .ref hsc])), (hsw, .inl (cD, 3, .inr (.inr (.inr (.inl width))))), (hsd, .inl (cD, 3, .inr (.inr (.inr (.inl depth))))), (hsc, .inl (cD, 3, .inr (.inr (.inr (.inl charge)))))] sz) := by
  refine Met.ofW (cc := b_Pulls_nearness) (maxL := 7) (ret := (some .double)) (by decide) rfl ?_
  intro p e s m args below meth c s₁ B hml hv
  obtain ⟨rfl, hsz, hP, hK, hD0, hN⟩ := hv
  have hx := B.exec
  have hb := B.bytes
  have hr := B.returns
  have hts := atoms_spec (ws := w_Pulls_nearness) B.pre
  have hown : s.vm.findClass R_Pulls = some m.cls := findClass_of_methodNamed B.named
  have hlocks := B.notSynchronized
  subst hsz
  have hD := hD0.self (sz := s.heap.size)
  generalize hAe : va_A [(hp, .inr (4, [.ref hq, .ref ha, .ref hso0, .ref hb0, .ref hfx, .ref hfy, .double cut])), (hq, .inr (7, [.double side, .double qa, .double qb, .double qr])), (ha, .inr (0, [.ref hax, .ref hay, .ref hau, .ref hav, .ref ham, .ref has, .ref hak, .int (nI n)])), (hax, .inl (cD, 10, .inr (.inr (.inr (.inl x))))), (hay, .inl (cD, 10, .inr (.inr (.inr (.inl y))))), (hau, .inl (cD, 10, .inr (.inr (.inr (.inl u))))), (hav, .inl (cD, 10, .inr (.inr (.inr (.inl v))))), (ham, .inl (cD, 10, .inr (.inr (.inr (.inl mass))))), (has, .inl (cI, 10, .inl (pb_n so))), (hak, .inl (cZ, 10, .inl stuck)), (hso0, .inr (6, [.ref hsw, .ref hsd, .ref hsc])), (hsw, .inl (cD, 3, .inr (.inr (.inr (.inl width))))), (hsd, .inl (cD, 3, .inr (.inr (.inr (.inl depth))))), (hsc, .inl (cD, 3, .inr (.inr (.inr (.inl charge)))))] s.heap.size = A at hD ⊢
  have hA : ∀ q : Nat, s.heap.size ≤ q → A q := fun q h => by rw [← hAe]; exact Or.inr h
  have hS : va_S A s.heap s.heap [] := va_S.rf
  have hl := lv_entry ([.ref hp, .int (nI i), .int (nI j)]) (n := 7) (Nat.le_of_ble_eq_true rfl)
  rw [lg_entry_eq]
  generalize (lg_sl ([.ref hp, .int (nI i), .int (nI j)]) ++ List.replicate (7 - (lg_sl ([.ref hp, .int (nI i), .int (nI j)])).length) Slot.unset).toArray = ls at hl ⊢
  have hl : lv_has ls 7 [(0, .ref hp), (1, .int (nI i)), (2, .int (nI j))] := hl
  obtain ⟨H, hH⟩ : ∃ H, H = s.heap := ⟨_, rfl⟩
  rw [← hH] at hP
  have hS : va_S A s.heap H [] := by rw [hH]; exact hS
  refine gx_start hH ?_
  refine lv_aload_n hx hb d_Pulls_nearness_0 rfl (lv_at hl 0 rfl) ?_
  refine va_get (D := (dC, dI)) (ci := 4) (v := .ref hso0) (C := R_Pulls) (T := F_Pulls) (N := 7) hx hb hts (fun w h => List.mem_cons_of_mem _ (i_Pulls w h)) hown hK hP 0 rfl rfl 2 (by decide) (hts _ (List.mem_cons_of_mem _ kw_226)) (fun _ h9 => h9) rfl d_Pulls_nearness_1 ?_
  refine va_get (D := (dC, dI)) (ci := 6) (v := .ref hsw) (C := R_Sorts) (T := F_Sorts) (N := 3) hx hb hts (fun w h => List.mem_cons_of_mem _ (i_Sorts w h)) hown hK hP 10 rfl rfl 0 (by decide) (hts _ (List.mem_cons_of_mem _ kw_171)) (fun _ h9 => h9) rfl d_Pulls_nearness_4 ?_
  refine lv_aload_n hx hb d_Pulls_nearness_7 rfl (lv_at hl 0 rfl) ?_
  refine va_get (D := (dC, dI)) (ci := 4) (v := .ref ha) (C := R_Pulls) (T := F_Pulls) (N := 7) hx hb hts (fun w h => List.mem_cons_of_mem _ (i_Pulls w h)) hown hK hP 0 rfl rfl 1 (by decide) (hts _ (List.mem_cons_of_mem _ kw_225)) (fun _ h9 => h9) rfl d_Pulls_nearness_8 ?_
  refine va_get (D := (dC, dI)) (ci := 0) (v := .ref has) (C := R_Atoms) (T := F_Atoms) (N := 8) hx hb hts (fun w h => List.mem_cons_of_mem _ (i_Atoms w h)) hown hK hP 2 rfl rfl 5 (by decide) (hts _ (List.mem_cons_of_mem _ kw_133)) (fun _ h9 => h9) rfl d_Pulls_nearness_11 ?_
  refine lv_iload_n hx hb d_Pulls_nearness_14 rfl (lv_at hl 1 rfl) ?_
  refine gx_iald hx hb hK hP 8 0 rfl rfl (by omega) (by decide) d_Pulls_nearness_15 ?_
  refine gx_dald hx hb hK hP 11 1 rfl rfl (hso i (by omega)) (by decide) d_Pulls_nearness_16 ?_
  have g_1 := hwI (so i) (hso i (by omega))
  refine lv_aload_n hx hb d_Pulls_nearness_17 rfl (lv_at hl 0 rfl) ?_
  refine va_get (D := (dC, dI)) (ci := 4) (v := .ref hso0) (C := R_Pulls) (T := F_Pulls) (N := 7) hx hb hts (fun w h => List.mem_cons_of_mem _ (i_Pulls w h)) hown hK hP 0 rfl rfl 2 (by decide) (hts _ (List.mem_cons_of_mem _ kw_226)) (fun _ h9 => h9) rfl d_Pulls_nearness_18 ?_
  refine va_get (D := (dC, dI)) (ci := 6) (v := .ref hsw) (C := R_Sorts) (T := F_Sorts) (N := 3) hx hb hts (fun w h => List.mem_cons_of_mem _ (i_Sorts w h)) hown hK hP 10 rfl rfl 0 (by decide) (hts _ (List.mem_cons_of_mem _ kw_171)) (fun _ h9 => h9) rfl d_Pulls_nearness_21 ?_
  refine lv_aload_n hx hb d_Pulls_nearness_24 rfl (lv_at hl 0 rfl) ?_
  refine va_get (D := (dC, dI)) (ci := 4) (v := .ref ha) (C := R_Pulls) (T := F_Pulls) (N := 7) hx hb hts (fun w h => List.mem_cons_of_mem _ (i_Pulls w h)) hown hK hP 0 rfl rfl 1 (by decide) (hts _ (List.mem_cons_of_mem _ kw_225)) (fun _ h9 => h9) rfl d_Pulls_nearness_25 ?_
  refine va_get (D := (dC, dI)) (ci := 0) (v := .ref has) (C := R_Atoms) (T := F_Atoms) (N := 8) hx hb hts (fun w h => List.mem_cons_of_mem _ (i_Atoms w h)) hown hK hP 2 rfl rfl 5 (by decide) (hts _ (List.mem_cons_of_mem _ kw_133)) (fun _ h9 => h9) rfl d_Pulls_nearness_28 ?_
  refine lv_iload_n hx hb d_Pulls_nearness_31 rfl (lv_at hl 2 rfl) ?_
  refine gx_iald hx hb hK hP 8 0 rfl rfl (by omega) (by decide) d_Pulls_nearness_32 ?_
  refine gx_dald hx hb hK hP 11 1 rfl rfl (hso j (by omega)) (by decide) d_Pulls_nearness_33 ?_
  have g_2 := hwI (so j) (hso j (by omega))
  have g_3 := fp_I_add (fp_d 1 1072) (fp_d 1 1077) g_1 g_2 (by decide +kernel)
  refine lv_dadd hx hb d_Pulls_nearness_34 g_3.n ?_
  refine lv_ldc2d (v := 4602678819172646912) hx hb hown (hts (.constantDouble R_Pulls 140 4602678819172646912) (by decide +kernel)) d_Pulls_nearness_35 ?_
  have g_4 := fp_const (a := 4602678819172646912) (T := (fp_d 1 1073)) (by decide +kernel)
  have g_5 := fp_I_mul (fp_d 1 1071) (fp_d 1 1076) g_3 g_4 (by decide +kernel)
  refine lv_dmul hx hb d_Pulls_nearness_38 g_5.n ?_
  refine lv_dstore_n (lv' := [(3, .double (FP.dmul (FP.dadd (width (so i)) (width (so j))) 4602678819172646912)), (0, .ref hp), (1, .int (nI i)), (2, .int (nI j))]) hx hb d_Pulls_nearness_39 rfl hl (by decide) rfl (fun ls hl => ?_)
  refine lv_dload_n hx hb d_Pulls_nearness_40 rfl (lv_at hl 0 rfl) ?_
  refine lv_dload_n hx hb d_Pulls_nearness_41 rfl (lv_at hl 0 rfl) ?_
  have g_6 := fp_I_mul (fp_d 1 1068) (fp_d 1 1078) g_5 g_5 (by decide +kernel)
  refine lv_dmul hx hb d_Pulls_nearness_42 g_6.n ?_
  refine lv_aload_n hx hb d_Pulls_nearness_43 rfl (lv_at hl 1 rfl) ?_
  refine va_get (D := (dC, dI)) (ci := 4) (v := .ref hq) (C := R_Pulls) (T := F_Pulls) (N := 7) hx hb hts (fun w h => List.mem_cons_of_mem _ (i_Pulls w h)) hown hK hP 0 rfl rfl 0 (by decide) (hts _ (List.mem_cons_of_mem _ kw_224)) (fun _ h9 => h9) rfl d_Pulls_nearness_44 ?_
  refine va_get (D := (dC, dI)) (ci := 7) (v := .double qr) (C := R_Square) (T := F_Square) (N := 4) hx hb hts (fun w h => List.mem_cons_of_mem _ (i_Square w h)) hown hK hP 1 rfl rfl 3 (by decide) (hts _ (List.mem_cons_of_mem _ kw_92)) (fun _ h9 => h9) rfl d_Pulls_nearness_47 ?_
  have g_7 := fp_I_div (fp_d 7430739 1036) (fp_d 1 1090) g_6 hrI (by decide +kernel)
  refine lv_ddiv hx hb d_Pulls_nearness_50 g_7.n ?_
  refine lv_dstore (lv' := [(5, .double (FP.ddiv (FP.dmul (FP.dmul (FP.dadd (width (so i)) (width (so j))) 4602678819172646912) (FP.dmul (FP.dadd (width (so i)) (width (so j))) 4602678819172646912)) qr)), (3, .double (FP.dmul (FP.dadd (width (so i)) (width (so j))) 4602678819172646912)), (0, .ref hp), (1, .int (nI i)), (2, .int (nI j))]) hx hb d_Pulls_nearness_51 hl (by decide) rfl (fun ls hl => ?_)
  refine lv_dload hx hb d_Pulls_nearness_53 (lv_at hl 0 rfl) ?_
  refine lv_dload hx hb d_Pulls_nearness_55 (lv_at hl 0 rfl) ?_
  have g_8 := fp_I_mul (fp_d 3291123 1022) (fp_d 1 1106) g_7 g_7 (by decide +kernel)
  refine lv_dmul hx hb d_Pulls_nearness_57 g_8.n ?_
  refine lv_dload hx hb d_Pulls_nearness_58 (lv_at hl 0 rfl) ?_
  have g_9 := fp_I_mul (fp_d 11661279 1005) (fp_d 1 1122) g_8 g_7 (by decide +kernel)
  refine lv_dmul hx hb d_Pulls_nearness_60 g_9.n ?_
  have hP9 := hP.sub (ws' := [(hp, .inr (4, [.ref hq, .ref ha, .ref hso0, .ref hb0, .ref hfx, .ref hfy, .double cut])), (hq, .inr (7, [.double side, .double qa, .double qb, .double qr])), (ha, .inr (0, [.ref hax, .ref hay, .ref hau, .ref hav, .ref ham, .ref has, .ref hak, .int (nI n)])), (hax, .inl (cD, 10, .inr (.inr (.inr (.inl x))))), (hay, .inl (cD, 10, .inr (.inr (.inr (.inl y))))), (hau, .inl (cD, 10, .inr (.inr (.inr (.inl u))))), (hav, .inl (cD, 10, .inr (.inr (.inr (.inl v))))), (ham, .inl (cD, 10, .inr (.inr (.inr (.inl mass))))), (has, .inl (cI, 10, .inl (pb_n so))), (hak, .inl (cZ, 10, .inl stuck)), (hso0, .inr (6, [.ref hsw, .ref hsd, .ref hsc])), (hsw, .inl (cD, 3, .inr (.inr (.inr (.inl width))))), (hsd, .inl (cD, 3, .inr (.inr (.inr (.inl depth))))), (hsc, .inl (cD, 3, .inr (.inr (.inr (.inl charge)))))]) [0, 1, 2, 3, 4, 5, 6, 7, 8, 9, 10, 11, 12, 13] rfl
  have hD9 := hD.sub (ws' := [(hp, .inr (4, [.ref hq, .ref ha, .ref hso0, .ref hb0, .ref hfx, .ref hfy, .double cut])), (hq, .inr (7, [.double side, .double qa, .double qb, .double qr])), (ha, .inr (0, [.ref hax, .ref hay, .ref hau, .ref hav, .ref ham, .ref has, .ref hak, .int (nI n)])), (hax, .inl (cD, 10, .inr (.inr (.inr (.inl x))))), (hay, .inl (cD, 10, .inr (.inr (.inr (.inl y))))), (hau, .inl (cD, 10, .inr (.inr (.inr (.inl u))))), (hav, .inl (cD, 10, .inr (.inr (.inr (.inl v))))), (ham, .inl (cD, 10, .inr (.inr (.inr (.inl mass))))), (has, .inl (cI, 10, .inl (pb_n so))), (hak, .inl (cZ, 10, .inl stuck)), (hso0, .inr (6, [.ref hsw, .ref hsd, .ref hsc])), (hsw, .inl (cD, 3, .inr (.inr (.inr (.inl width))))), (hsd, .inl (cD, 3, .inr (.inr (.inr (.inl depth))))), (hsc, .inl (cD, 3, .inr (.inr (.inr (.inl charge)))))]) [0, 1, 2, 3, 4, 5, 6, 7, 8, 9, 10, 11, 12, 13] (by decide) rfl
  exact W.dret (v := (FP.dmul (FP.dmul (FP.ddiv (FP.dmul (FP.dmul (FP.dadd (width (so i)) (width (so j))) 4602678819172646912) (FP.dmul (FP.dadd (width (so i)) (width (so j))) 4602678819172646912)) qr) (FP.ddiv (FP.dmul (FP.dmul (FP.dadd (width (so i)) (width (so j))) 4602678819172646912) (FP.dmul (FP.dadd (width (so i)) (width (so j))) 4602678819172646912)) qr)) (FP.ddiv (FP.dmul (FP.dmul (FP.dadd (width (so i)) (width (so j))) 4602678819172646912) (FP.dmul (FP.dadd (width (so i)) (width (so j))) 4602678819172646912)) qr))) hx hb hr (fun t ht hW => ⟨⟨(FP.dmul (FP.dmul (FP.ddiv (FP.dmul (FP.dmul (FP.dadd (width (so i)) (width (so j))) 4602678819172646912) (FP.dmul (FP.dadd (width (so i)) (width (so j))) 4602678819172646912)) qr) (FP.ddiv (FP.dmul (FP.dmul (FP.dadd (width (so i)) (width (so j))) 4602678819172646912) (FP.dmul (FP.dadd (width (so i)) (width (so j))) 4602678819172646912)) qr)) (FP.ddiv (FP.dmul (FP.dmul (FP.dadd (width (so i)) (width (so j))) 4602678819172646912) (FP.dmul (FP.dadd (width (so i)) (width (so j))) 4602678819172646912)) qr)), (), rfl, rfl, by rw [ht]; exact hP9, va_K.moved hW.alike hK, hD9⟩, hS.F ht⟩) hS.2.2 d_Pulls_nearness_61
set_option maxHeartbeats 4000000 in
set_option maxRecDepth 100000 in
/-- charges -/
theorem c_Pulls_charges (l : Launch) (dC : Nat → ClassId) (dI : Nat → Nat → Nat) (cI cD cZ : ClassId) (sz : Nat) (hp : Nat) (hso0 : Nat) (hb0 : Nat) (hfx : Nat) (hfy : Nat) (cut : UInt64) (hq : Nat) (side : UInt64) (qa : UInt64) (qb : UInt64) (qr : UInt64) (ha : Nat) (hax : Nat) (hay : Nat) (hau : Nat) (hav : Nat) (ham : Nat) (has : Nat) (hak : Nat) (x : Nat → UInt64) (y : Nat → UInt64) (u : Nat → UInt64) (v : Nat → UInt64) (mass : Nat → UInt64) (so : Nat → Nat) (stuck : Nat → Int32) (n : Nat) (hsw : Nat) (hsd : Nat) (hsc : Nat) (width : Nat → UInt64) (depth : Nat → UInt64) (charge : Nat → UInt64) (i : Nat) (j : Nat) (hn : n ≤ 10) (hi : i < n) (hj : j < n) (hso : ∀ i, i < n → so i < 3) (hcI : ∀ i, i < 3 → pb_Ic (charge i)) : Met l y_Pulls_charges w_Pulls_charges ({ frames := 0, cells := 0, slots := 0, locals := 0 }) (va_Pc [.ref hp, .int (nI i), .int (nI j)] (gx_B (dC, dI) classes (gx_T cI cD cZ) [(hp, .inr (4, [.ref hq, .ref ha, .ref hso0, .ref hb0, .ref hfx, .ref hfy, .double cut])), (hq, .inr (7, [.double side, .double qa, .double qb, .double qr])), (ha, .inr (0, [.ref hax, .ref hay, .ref hau, .ref hav, .ref ham, .ref has, .ref hak, .int (nI n)])), (hax, .inl (cD, 10, .inr (.inr (.inr (.inl x))))), (hay, .inl (cD, 10, .inr (.inr (.inr (.inl y))))), (hau, .inl (cD, 10, .inr (.inr (.inr (.inl u))))), (hav, .inl (cD, 10, .inr (.inr (.inr (.inl v))))), (ham, .inl (cD, 10, .inr (.inr (.inr (.inl mass))))), (has, .inl (cI, 10, .inl (pb_n so))), (hak, .inl (cZ, 10, .inl stuck)), (hso0, .inr (6, [.ref hsw, .ref hsd, .ref hsc])), (hsw, .inl (cD, 3, .inr (.inr (.inr (.inl width))))), (hsd, .inl (cD, 3, .inr (.inr (.inr (.inl depth))))), (hsc, .inl (cD, 3, .inr (.inr (.inr (.inl charge)))))] sz)) (va_Qd (fun (rr : UInt64) (uu : Unit) => rr = pb_chg charge so i j) (fun (uu : Unit) t => gx_E (dC, dI) classes (gx_T cI cD cZ) (va_A [(hp, .inr (4, [.ref hq, .ref ha, .ref hso0, .ref hb0, .ref hfx, .ref hfy, .double cut])), (hq, .inr (7, [.double side, .double qa, .double qb, .double qr])), (ha, .inr (0, [.ref hax, .ref hay, .ref hau, .ref hav, .ref ham, .ref has, .ref hak, .int (nI n)])), (hax, .inl (cD, 10, .inr (.inr (.inr (.inl x))))), (hay, .inl (cD, 10, .inr (.inr (.inr (.inl y))))), (hau, .inl (cD, 10, .inr (.inr (.inr (.inl u))))), (hav, .inl (cD, 10, .inr (.inr (.inr (.inl v))))), (ham, .inl (cD, 10, .inr (.inr (.inr (.inl mass))))), (has, .inl (cI, 10, .inl (pb_n so))), (hak, .inl (cZ, 10, .inl stuck)), (hso0, .inr (6, [.ref hsw, .ref hsd, .ref hsc])), (hsw, .inl (cD, 3, .inr (.inr (.inr (.inl width))))), (hsd, .inl (cD, 3, .inr (.inr (.inr (.inl depth))))), (hsc, .inl (cD, 3, .inr (.inr (.inr (.inl charge)))))] sz) [(hp, .inr (4, [.ref hq, .ref ha, .ref hso0, .ref hb0, .ref hfx, .ref hfy, .double cut])), (hq, .inr (7, [.double side, .double qa, .double qb, .double qr])), (ha, .inr (0, [.ref hax, .ref hay, .ref hau, .ref hav, .ref ham, .ref has, .ref hak, .int (nI n)])), (hax, .inl (cD, 10, .inr (.inr (.inr (.inl x))))), (hay, .inl (cD, 10, .inr (.inr (.inr (.inl y))))), (hau, .inl (cD, 10, .inr (.inr (.inr (.inl u))))), (hav, .inl (cD, 10, .inr (.inr (.inr (.inl v))))), (ham, .inl (cD, 10, .inr (.inr (.inr (.inl mass))))), (has, .inl (cI, 10, .inl (pb_n so))), (hak, .inl (cZ, 10, .inl stuck)), (hso0, .inr (6, [.ref hsw, .ref hsd, .ref hsc])), (hsw, .inl (cD, 3, .inr (.inr (.inr (.inl width))))), (hsd, .inl (cD, 3, .inr (.inr (.inr (.inl depth))))), (hsc, .inl (cD, 3, .inr (.inr (.inr (.inl charge)))))] t) (va_A [(hp, .inr (4, [.ref hq, .ref ha, .ref hso0, .ref hb0, .ref hfx, .ref hfy, .double cut])), (hq, .inr (7, [.double side, .double qa, .double qb, .double qr])), (ha, .inr (0, [.ref hax, .ref hay, .ref hau, .ref hav, .ref ham, .ref has, .ref hak, .int (nI n)])), (hax, .inl (cD, 10, .inr (.inr (.inr (.inl x))))), (hay, .inl (cD, 10, .inr (.inr (.inr (.inl y))))), (hau, .inl (cD, 10, .inr (.inr (.inr (.inl u))))), (hav, .inl (cD, 10, .inr (.inr (.inr (.inl v))))), (ham, .inl (cD, 10, .inr (.inr (.inr (.inl mass))))), (has, .inl (cI, 10, .inl (pb_n so))), (hak, .inl (cZ, 10, .inl stuck)), (hso0, .inr (6, [.ref hsw, .ref hsd, .ref hsc])), (hsw, .inl (cD, 3, .inr (.inr (.inr (.inl width))))), (hsd, .inl (cD, 3, .inr (.inr (.inr (.inl depth))))), (hsc, .inl (cD, 3, .inr (.inr (.inr (.inl charge)))))] sz)) 0 0 (va_A [(hp, .inr (4, [.ref hq, .ref ha, .ref hso0, .ref hb0, .ref hfx, .ref hfy, .double cut])), (hq, .inr (7, [.double side, .double qa, .double qb, .double qr])), (ha, .inr (0, [.ref hax, .ref hay, .ref hau, .ref hav, .ref ham, .ref has, .ref hak, .int (nI n)])), (hax, .inl (cD, 10, .inr (.inr (.inr (.inl x))))), (hay, .inl (cD, 10, .inr (.inr (.inr (.inl y))))), (hau, .inl (cD, 10, .inr (.inr (.inr (.inl u))))), (hav, .inl (cD, 10, .inr (.inr (.inr (.inl v))))), (ham, .inl (cD, 10, .inr (.inr (.inr (.inl mass))))), (has, .inl (cI, 10, .inl (pb_n so))), (hak, .inl (cZ, 10, .inl stuck)), (hso0, .inr (6, [.ref hsw, .ref hsd, .ref hsc])), (hsw, .inl (cD, 3, .inr (.inr (.inr (.inl width))))), (hsd, .inl (cD, 3, .inr (.inr (.inr (.inl depth))))), (hsc, .inl (cD, 3, .inr (.inr (.inr (.inl charge)))))] sz) := by
  refine Met.ofW (cc := b_Pulls_charges) (maxL := 3) (ret := (some .double)) (by decide) rfl ?_
  intro p e s m args below meth c s₁ B hml hv
  obtain ⟨rfl, hsz, hP, hK, hD0, hN⟩ := hv
  have hx := B.exec
  have hb := B.bytes
  have hr := B.returns
  have hts := atoms_spec (ws := w_Pulls_charges) B.pre
  have hown : s.vm.findClass R_Pulls = some m.cls := findClass_of_methodNamed B.named
  have hlocks := B.notSynchronized
  subst hsz
  have hD := hD0.self (sz := s.heap.size)
  generalize hAe : va_A [(hp, .inr (4, [.ref hq, .ref ha, .ref hso0, .ref hb0, .ref hfx, .ref hfy, .double cut])), (hq, .inr (7, [.double side, .double qa, .double qb, .double qr])), (ha, .inr (0, [.ref hax, .ref hay, .ref hau, .ref hav, .ref ham, .ref has, .ref hak, .int (nI n)])), (hax, .inl (cD, 10, .inr (.inr (.inr (.inl x))))), (hay, .inl (cD, 10, .inr (.inr (.inr (.inl y))))), (hau, .inl (cD, 10, .inr (.inr (.inr (.inl u))))), (hav, .inl (cD, 10, .inr (.inr (.inr (.inl v))))), (ham, .inl (cD, 10, .inr (.inr (.inr (.inl mass))))), (has, .inl (cI, 10, .inl (pb_n so))), (hak, .inl (cZ, 10, .inl stuck)), (hso0, .inr (6, [.ref hsw, .ref hsd, .ref hsc])), (hsw, .inl (cD, 3, .inr (.inr (.inr (.inl width))))), (hsd, .inl (cD, 3, .inr (.inr (.inr (.inl depth))))), (hsc, .inl (cD, 3, .inr (.inr (.inr (.inl charge)))))] s.heap.size = A at hD ⊢
  have hA : ∀ q : Nat, s.heap.size ≤ q → A q := fun q h => by rw [← hAe]; exact Or.inr h
  have hS : va_S A s.heap s.heap [] := va_S.rf
  have hl := lv_entry ([.ref hp, .int (nI i), .int (nI j)]) (n := 3) (Nat.le_of_ble_eq_true rfl)
  rw [lg_entry_eq]
  generalize (lg_sl ([.ref hp, .int (nI i), .int (nI j)]) ++ List.replicate (3 - (lg_sl ([.ref hp, .int (nI i), .int (nI j)])).length) Slot.unset).toArray = ls at hl ⊢
  have hl : lv_has ls 3 [(0, .ref hp), (1, .int (nI i)), (2, .int (nI j))] := hl
  obtain ⟨H, hH⟩ : ∃ H, H = s.heap := ⟨_, rfl⟩
  rw [← hH] at hP
  have hS : va_S A s.heap H [] := by rw [hH]; exact hS
  refine gx_start hH ?_
  refine lv_aload_n hx hb d_Pulls_charges_0 rfl (lv_at hl 0 rfl) ?_
  refine va_get (D := (dC, dI)) (ci := 4) (v := .ref hso0) (C := R_Pulls) (T := F_Pulls) (N := 7) hx hb hts (fun w h => List.mem_cons_of_mem _ (i_Pulls w h)) hown hK hP 0 rfl rfl 2 (by decide) (hts _ (List.mem_cons_of_mem _ kw_226)) (fun _ h9 => h9) rfl d_Pulls_charges_1 ?_
  refine va_get (D := (dC, dI)) (ci := 6) (v := .ref hsc) (C := R_Sorts) (T := F_Sorts) (N := 3) hx hb hts (fun w h => List.mem_cons_of_mem _ (i_Sorts w h)) hown hK hP 10 rfl rfl 2 (by decide) (hts _ (List.mem_cons_of_mem _ kw_177)) (fun _ h9 => h9) rfl d_Pulls_charges_4 ?_
  refine lv_aload_n hx hb d_Pulls_charges_7 rfl (lv_at hl 0 rfl) ?_
  refine va_get (D := (dC, dI)) (ci := 4) (v := .ref ha) (C := R_Pulls) (T := F_Pulls) (N := 7) hx hb hts (fun w h => List.mem_cons_of_mem _ (i_Pulls w h)) hown hK hP 0 rfl rfl 1 (by decide) (hts _ (List.mem_cons_of_mem _ kw_225)) (fun _ h9 => h9) rfl d_Pulls_charges_8 ?_
  refine va_get (D := (dC, dI)) (ci := 0) (v := .ref has) (C := R_Atoms) (T := F_Atoms) (N := 8) hx hb hts (fun w h => List.mem_cons_of_mem _ (i_Atoms w h)) hown hK hP 2 rfl rfl 5 (by decide) (hts _ (List.mem_cons_of_mem _ kw_133)) (fun _ h9 => h9) rfl d_Pulls_charges_11 ?_
  refine lv_iload_n hx hb d_Pulls_charges_14 rfl (lv_at hl 1 rfl) ?_
  refine gx_iald hx hb hK hP 8 0 rfl rfl (by omega) (by decide) d_Pulls_charges_15 ?_
  refine gx_dald hx hb hK hP 13 1 rfl rfl (hso i (by omega)) (by decide) d_Pulls_charges_16 ?_
  have g_1 := hcI (so i) (hso i (by omega))
  refine lv_aload_n hx hb d_Pulls_charges_17 rfl (lv_at hl 0 rfl) ?_
  refine va_get (D := (dC, dI)) (ci := 4) (v := .ref hso0) (C := R_Pulls) (T := F_Pulls) (N := 7) hx hb hts (fun w h => List.mem_cons_of_mem _ (i_Pulls w h)) hown hK hP 0 rfl rfl 2 (by decide) (hts _ (List.mem_cons_of_mem _ kw_226)) (fun _ h9 => h9) rfl d_Pulls_charges_18 ?_
  refine va_get (D := (dC, dI)) (ci := 6) (v := .ref hsc) (C := R_Sorts) (T := F_Sorts) (N := 3) hx hb hts (fun w h => List.mem_cons_of_mem _ (i_Sorts w h)) hown hK hP 10 rfl rfl 2 (by decide) (hts _ (List.mem_cons_of_mem _ kw_177)) (fun _ h9 => h9) rfl d_Pulls_charges_21 ?_
  refine lv_aload_n hx hb d_Pulls_charges_24 rfl (lv_at hl 0 rfl) ?_
  refine va_get (D := (dC, dI)) (ci := 4) (v := .ref ha) (C := R_Pulls) (T := F_Pulls) (N := 7) hx hb hts (fun w h => List.mem_cons_of_mem _ (i_Pulls w h)) hown hK hP 0 rfl rfl 1 (by decide) (hts _ (List.mem_cons_of_mem _ kw_225)) (fun _ h9 => h9) rfl d_Pulls_charges_25 ?_
  refine va_get (D := (dC, dI)) (ci := 0) (v := .ref has) (C := R_Atoms) (T := F_Atoms) (N := 8) hx hb hts (fun w h => List.mem_cons_of_mem _ (i_Atoms w h)) hown hK hP 2 rfl rfl 5 (by decide) (hts _ (List.mem_cons_of_mem _ kw_133)) (fun _ h9 => h9) rfl d_Pulls_charges_28 ?_
  refine lv_iload_n hx hb d_Pulls_charges_31 rfl (lv_at hl 2 rfl) ?_
  refine gx_iald hx hb hK hP 8 0 rfl rfl (by omega) (by decide) d_Pulls_charges_32 ?_
  refine gx_dald hx hb hK hP 13 1 rfl rfl (hso j (by omega)) (by decide) d_Pulls_charges_33 ?_
  have g_2 := hcI (so j) (hso j (by omega))
  have g_3 := fp_I_mul (fp_d (-1) 1080) (fp_d 1 1080) g_1 g_2 (by decide +kernel)
  refine lv_dmul hx hb d_Pulls_charges_34 g_3.n ?_
  have hP9 := hP.sub (ws' := [(hp, .inr (4, [.ref hq, .ref ha, .ref hso0, .ref hb0, .ref hfx, .ref hfy, .double cut])), (hq, .inr (7, [.double side, .double qa, .double qb, .double qr])), (ha, .inr (0, [.ref hax, .ref hay, .ref hau, .ref hav, .ref ham, .ref has, .ref hak, .int (nI n)])), (hax, .inl (cD, 10, .inr (.inr (.inr (.inl x))))), (hay, .inl (cD, 10, .inr (.inr (.inr (.inl y))))), (hau, .inl (cD, 10, .inr (.inr (.inr (.inl u))))), (hav, .inl (cD, 10, .inr (.inr (.inr (.inl v))))), (ham, .inl (cD, 10, .inr (.inr (.inr (.inl mass))))), (has, .inl (cI, 10, .inl (pb_n so))), (hak, .inl (cZ, 10, .inl stuck)), (hso0, .inr (6, [.ref hsw, .ref hsd, .ref hsc])), (hsw, .inl (cD, 3, .inr (.inr (.inr (.inl width))))), (hsd, .inl (cD, 3, .inr (.inr (.inr (.inl depth))))), (hsc, .inl (cD, 3, .inr (.inr (.inr (.inl charge)))))]) [0, 1, 2, 3, 4, 5, 6, 7, 8, 9, 10, 11, 12, 13] rfl
  have hD9 := hD.sub (ws' := [(hp, .inr (4, [.ref hq, .ref ha, .ref hso0, .ref hb0, .ref hfx, .ref hfy, .double cut])), (hq, .inr (7, [.double side, .double qa, .double qb, .double qr])), (ha, .inr (0, [.ref hax, .ref hay, .ref hau, .ref hav, .ref ham, .ref has, .ref hak, .int (nI n)])), (hax, .inl (cD, 10, .inr (.inr (.inr (.inl x))))), (hay, .inl (cD, 10, .inr (.inr (.inr (.inl y))))), (hau, .inl (cD, 10, .inr (.inr (.inr (.inl u))))), (hav, .inl (cD, 10, .inr (.inr (.inr (.inl v))))), (ham, .inl (cD, 10, .inr (.inr (.inr (.inl mass))))), (has, .inl (cI, 10, .inl (pb_n so))), (hak, .inl (cZ, 10, .inl stuck)), (hso0, .inr (6, [.ref hsw, .ref hsd, .ref hsc])), (hsw, .inl (cD, 3, .inr (.inr (.inr (.inl width))))), (hsd, .inl (cD, 3, .inr (.inr (.inr (.inl depth))))), (hsc, .inl (cD, 3, .inr (.inr (.inr (.inl charge)))))]) [0, 1, 2, 3, 4, 5, 6, 7, 8, 9, 10, 11, 12, 13] (by decide) rfl
  exact W.dret (v := (FP.dmul (charge (so i)) (charge (so j)))) hx hb hr (fun t ht hW => ⟨⟨(FP.dmul (charge (so i)) (charge (so j))), (), rfl, rfl, by rw [ht]; exact hP9, va_K.moved hW.alike hK, hD9⟩, hS.F ht⟩) hS.2.2 d_Pulls_charges_35
