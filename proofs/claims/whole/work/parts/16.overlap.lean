theorem d_Pulls_isOverlap_0 : decode b_Pulls_isOverlap 0 = .ok (.iconst 0, 1) := by decide +kernel
theorem d_Pulls_isOverlap_1 : decode b_Pulls_isOverlap 1 = .ok (.istore_n 1, 1) := by decide +kernel
theorem d_Pulls_isOverlap_2 : decode b_Pulls_isOverlap 2 = .ok (.iload_n 1, 1) := by decide +kernel
theorem d_Pulls_isOverlap_3 : decode b_Pulls_isOverlap 3 = .ok (.aload_n 0, 1) := by decide +kernel
theorem d_Pulls_isOverlap_4 : decode b_Pulls_isOverlap 4 = .ok (.getfield 22, 3) := by decide +kernel
theorem d_Pulls_isOverlap_7 : decode b_Pulls_isOverlap 7 = .ok (.getfield 45, 3) := by decide +kernel
theorem d_Pulls_isOverlap_10 : decode b_Pulls_isOverlap 10 = .ok (.if_icmp .ge 52, 3) := by decide +kernel
theorem d_Pulls_isOverlap_13 : decode b_Pulls_isOverlap 13 = .ok (.iload_n 1, 1) := by decide +kernel
theorem d_Pulls_isOverlap_14 : decode b_Pulls_isOverlap 14 = .ok (.iconst 1, 1) := by decide +kernel
theorem d_Pulls_isOverlap_15 : decode b_Pulls_isOverlap 15 = .ok (.iadd, 1) := by decide +kernel
theorem d_Pulls_isOverlap_16 : decode b_Pulls_isOverlap 16 = .ok (.istore_n 2, 1) := by decide +kernel
theorem d_Pulls_isOverlap_17 : decode b_Pulls_isOverlap 17 = .ok (.iload_n 2, 1) := by decide +kernel
theorem d_Pulls_isOverlap_18 : decode b_Pulls_isOverlap 18 = .ok (.aload_n 0, 1) := by decide +kernel
theorem d_Pulls_isOverlap_19 : decode b_Pulls_isOverlap 19 = .ok (.getfield 22, 3) := by decide +kernel
theorem d_Pulls_isOverlap_22 : decode b_Pulls_isOverlap 22 = .ok (.getfield 45, 3) := by decide +kernel
theorem d_Pulls_isOverlap_25 : decode b_Pulls_isOverlap 25 = .ok (.if_icmp .ge 31, 3) := by decide +kernel
theorem d_Pulls_isOverlap_28 : decode b_Pulls_isOverlap 28 = .ok (.aload_n 0, 1) := by decide +kernel
theorem d_Pulls_isOverlap_29 : decode b_Pulls_isOverlap 29 = .ok (.iload_n 1, 1) := by decide +kernel
theorem d_Pulls_isOverlap_30 : decode b_Pulls_isOverlap 30 = .ok (.iload_n 2, 1) := by decide +kernel
theorem d_Pulls_isOverlap_31 : decode b_Pulls_isOverlap 31 = .ok (.invokevirtual 51, 3) := by decide +kernel
theorem d_Pulls_isOverlap_34 : decode b_Pulls_isOverlap 34 = .ok (.aload_n 0, 1) := by decide +kernel
theorem d_Pulls_isOverlap_35 : decode b_Pulls_isOverlap 35 = .ok (.getfield 18, 3) := by decide +kernel
theorem d_Pulls_isOverlap_38 : decode b_Pulls_isOverlap 38 = .ok (.getfield 55, 3) := by decide +kernel
theorem d_Pulls_isOverlap_41 : decode b_Pulls_isOverlap 41 = .ok (.ldc2_w 58, 3) := by decide +kernel
theorem d_Pulls_isOverlap_44 : decode b_Pulls_isOverlap 44 = .ok (.dcmp .g, 1) := by decide +kernel
theorem d_Pulls_isOverlap_45 : decode b_Pulls_isOverlap 45 = .ok (.ifCond .ge 5, 3) := by decide +kernel
theorem d_Pulls_isOverlap_48 : decode b_Pulls_isOverlap 48 = .ok (.iconst 1, 1) := by decide +kernel
theorem d_Pulls_isOverlap_49 : decode b_Pulls_isOverlap 49 = .ok (.ireturn, 1) := by decide +kernel
theorem d_Pulls_isOverlap_50 : decode b_Pulls_isOverlap 50 = .ok (.iinc 2 1, 3) := by decide +kernel
theorem d_Pulls_isOverlap_53 : decode b_Pulls_isOverlap 53 = .ok (.goto (-36), 3) := by decide +kernel
theorem d_Pulls_isOverlap_56 : decode b_Pulls_isOverlap 56 = .ok (.iinc 1 1, 3) := by decide +kernel
theorem d_Pulls_isOverlap_59 : decode b_Pulls_isOverlap 59 = .ok (.goto (-57), 3) := by decide +kernel
theorem d_Pulls_isOverlap_62 : decode b_Pulls_isOverlap 62 = .ok (.iconst 0, 1) := by decide +kernel
theorem d_Pulls_isOverlap_63 : decode b_Pulls_isOverlap 63 = .ok (.ireturn, 1) := by decide +kernel
set_option maxHeartbeats 4000000 in
set_option maxRecDepth 100000 in
/-- OVERLAP -/
theorem c_Pulls_isOverlap (l : Launch) (dC : Nat → ClassId) (dI : Nat → Nat → Nat) (cI cD cZ : ClassId) (sz : Nat) (hp : Nat) (hso0 : Nat) (hb0 : Nat) (hfx : Nat) (hfy : Nat) (cut : UInt64) (hq : Nat) (side : UInt64) (qa : UInt64) (qb : UInt64) (qr : UInt64) (ha : Nat) (hax : Nat) (hay : Nat) (hau : Nat) (hav : Nat) (ham : Nat) (has : Nat) (hak : Nat) (x : Nat → UInt64) (y : Nat → UInt64) (u : Nat → UInt64) (v : Nat → UInt64) (mass : Nat → UInt64) (sort : Nat → Int32) (stuck : Nat → Int32) (n : Nat) (k : Int) (hs : pb_S side k) (hn : n ≤ 10) (hX : ∀ i, i < n → pb_Ip (x i)) (hY : ∀ i, i < n → pb_Ip (y i)) : Met l y_Pulls_isOverlap w_Pulls_isOverlap ({ frames := 3, cells := 0, slots := 0, locals := 77 }) (va_Pc [.ref hp] (gx_B (dC, dI) classes (gx_T cI cD cZ) [(hp, .inr (4, [.ref hq, .ref ha, .ref hso0, .ref hb0, .ref hfx, .ref hfy, .double cut])), (hq, .inr (7, [.double side, .double qa, .double qb, .double qr])), (ha, .inr (0, [.ref hax, .ref hay, .ref hau, .ref hav, .ref ham, .ref has, .ref hak, .int (nI n)])), (hax, .inl (cD, 10, .inr (.inr (.inr (.inl x))))), (hay, .inl (cD, 10, .inr (.inr (.inr (.inl y))))), (hau, .inl (cD, 10, .inr (.inr (.inr (.inl u))))), (hav, .inl (cD, 10, .inr (.inr (.inr (.inl v))))), (ham, .inl (cD, 10, .inr (.inr (.inr (.inl mass))))), (has, .inl (cI, 10, .inl sort)), (hak, .inl (cZ, 10, .inl stuck))] sz)) (va_Qi (fun (rr : Int32) (uu : UInt64 × UInt64 × UInt64) => match uu with | (oqa, oqb, oqr) => rr = pb_b (pb_ovl side x y n)) (fun (uu : UInt64 × UInt64 × UInt64) t => gx_E (dC, dI) classes (gx_T cI cD cZ) (va_A [(hp, .inr (4, [.ref hq, .ref ha, .ref hso0, .ref hb0, .ref hfx, .ref hfy, .double cut])), (hq, .inr (7, [.double side, .double qa, .double qb, .double qr])), (ha, .inr (0, [.ref hax, .ref hay, .ref hau, .ref hav, .ref ham, .ref has, .ref hak, .int (nI n)])), (hax, .inl (cD, 10, .inr (.inr (.inr (.inl x))))), (hay, .inl (cD, 10, .inr (.inr (.inr (.inl y))))), (hau, .inl (cD, 10, .inr (.inr (.inr (.inl u))))), (hav, .inl (cD, 10, .inr (.inr (.inr (.inl v))))), (ham, .inl (cD, 10, .inr (.inr (.inr (.inl mass))))), (has, .inl (cI, 10, .inl sort)), (hak, .inl (cZ, 10, .inl stuck))] sz) (match uu with | (oqa, oqb, oqr) => [(hp, .inr (4, [.ref hq, .ref ha, .ref hso0, .ref hb0, .ref hfx, .ref hfy, .double cut])), (hq, .inr (7, [.double side, .double oqa, .double oqb, .double oqr])), (ha, .inr (0, [.ref hax, .ref hay, .ref hau, .ref hav, .ref ham, .ref has, .ref hak, .int (nI n)])), (hax, .inl (cD, 10, .inr (.inr (.inr (.inl x))))), (hay, .inl (cD, 10, .inr (.inr (.inr (.inl y))))), (hau, .inl (cD, 10, .inr (.inr (.inr (.inl u))))), (hav, .inl (cD, 10, .inr (.inr (.inr (.inl v))))), (ham, .inl (cD, 10, .inr (.inr (.inr (.inl mass))))), (has, .inl (cI, 10, .inl sort)), (hak, .inl (cZ, 10, .inl stuck))]) t) (va_A [(hp, .inr (4, [.ref hq, .ref ha, .ref hso0, .ref hb0, .ref hfx, .ref hfy, .double cut])), (hq, .inr (7, [.double side, .double qa, .double qb, .double qr])), (ha, .inr (0, [.ref hax, .ref hay, .ref hau, .ref hav, .ref ham, .ref has, .ref hak, .int (nI n)])), (hax, .inl (cD, 10, .inr (.inr (.inr (.inl x))))), (hay, .inl (cD, 10, .inr (.inr (.inr (.inl y))))), (hau, .inl (cD, 10, .inr (.inr (.inr (.inl u))))), (hav, .inl (cD, 10, .inr (.inr (.inr (.inl v))))), (ham, .inl (cD, 10, .inr (.inr (.inr (.inl mass))))), (has, .inl (cI, 10, .inl sort)), (hak, .inl (cZ, 10, .inl stuck))] sz)) 0 0 (va_A [(hp, .inr (4, [.ref hq, .ref ha, .ref hso0, .ref hb0, .ref hfx, .ref hfy, .double cut])), (hq, .inr (7, [.double side, .double qa, .double qb, .double qr])), (ha, .inr (0, [.ref hax, .ref hay, .ref hau, .ref hav, .ref ham, .ref has, .ref hak, .int (nI n)])), (hax, .inl (cD, 10, .inr (.inr (.inr (.inl x))))), (hay, .inl (cD, 10, .inr (.inr (.inr (.inl y))))), (hau, .inl (cD, 10, .inr (.inr (.inr (.inl u))))), (hav, .inl (cD, 10, .inr (.inr (.inr (.inl v))))), (ham, .inl (cD, 10, .inr (.inr (.inr (.inl mass))))), (has, .inl (cI, 10, .inl sort)), (hak, .inl (cZ, 10, .inl stuck))] sz) := by
  refine Met.ofW (cc := b_Pulls_isOverlap) (maxL := 3) (ret := (some .boolean)) (by decide) rfl ?_
  intro p e s m args below meth c s₁ B hml hv
  obtain ⟨rfl, hsz, hP, hK, hD0, hN⟩ := hv
  have hx := B.exec
  have hb := B.bytes
  have hr := B.returns
  have hts := atoms_spec (ws := w_Pulls_isOverlap) B.pre
  have hown : s.vm.findClass R_Pulls = some m.cls := findClass_of_methodNamed B.named
  have hlocks := B.notSynchronized
  subst hsz
  have hD := hD0.self (sz := s.heap.size)
  generalize hAe : va_A [(hp, .inr (4, [.ref hq, .ref ha, .ref hso0, .ref hb0, .ref hfx, .ref hfy, .double cut])), (hq, .inr (7, [.double side, .double qa, .double qb, .double qr])), (ha, .inr (0, [.ref hax, .ref hay, .ref hau, .ref hav, .ref ham, .ref has, .ref hak, .int (nI n)])), (hax, .inl (cD, 10, .inr (.inr (.inr (.inl x))))), (hay, .inl (cD, 10, .inr (.inr (.inr (.inl y))))), (hau, .inl (cD, 10, .inr (.inr (.inr (.inl u))))), (hav, .inl (cD, 10, .inr (.inr (.inr (.inl v))))), (ham, .inl (cD, 10, .inr (.inr (.inr (.inl mass))))), (has, .inl (cI, 10, .inl sort)), (hak, .inl (cZ, 10, .inl stuck))] s.heap.size = A at hD ⊢
  have hA : ∀ q : Nat, s.heap.size ≤ q → A q := fun q h => by rw [← hAe]; exact Or.inr h
  have hS : va_S A s.heap s.heap [] := va_S.rf
  have hl := lv_entry ([.ref hp]) (n := 3) (Nat.le_of_ble_eq_true rfl)
  rw [lg_entry_eq]
  generalize (lg_sl ([.ref hp]) ++ List.replicate (3 - (lg_sl ([.ref hp])).length) Slot.unset).toArray = ls at hl ⊢
  have hl : lv_has ls 3 [(0, .ref hp)] := hl
  obtain ⟨H, hH⟩ : ∃ H, H = s.heap := ⟨_, rfl⟩
  rw [← hH] at hP
  have hS : va_S A s.heap H [] := by rw [hH]; exact hS
  refine gx_start hH ?_
  refine lv_iconst (v := nI 0) hx hb d_Pulls_isOverlap_0 (by decide) ?_
  refine lv_istore_n (lv' := [(1, .int (nI 0)), (0, .ref hp)]) hx hb d_Pulls_isOverlap_1 rfl hl (by decide) rfl (fun ls hl => ?_)
  refine gx_loop (fun (xx : Nat × UInt64 × UInt64 × UInt64) (H : Heap) (locs : List Loc) (ls : Array Slot) => match xx with | (i, a1, b1, r1) => va_P (dC, dI) classes [(hp, .inr (4, [.ref hq, .ref ha, .ref hso0, .ref hb0, .ref hfx, .ref hfy, .double cut])), (hq, .inr (7, [.double side, .double a1, .double b1, .double r1])), (ha, .inr (0, [.ref hax, .ref hay, .ref hau, .ref hav, .ref ham, .ref has, .ref hak, .int (nI n)])), (hax, .inl (cD, 10, .inr (.inr (.inr (.inl x))))), (hay, .inl (cD, 10, .inr (.inr (.inr (.inl y))))), (hau, .inl (cD, 10, .inr (.inr (.inr (.inl u))))), (hav, .inl (cD, 10, .inr (.inr (.inr (.inl v))))), (ham, .inl (cD, 10, .inr (.inr (.inr (.inl mass))))), (has, .inl (cI, 10, .inl sort)), (hak, .inl (cZ, 10, .inl stuck))] H ∧ va_D A [(hp, .inr (4, [.ref hq, .ref ha, .ref hso0, .ref hb0, .ref hfx, .ref hfy, .double cut])), (hq, .inr (7, [.double side, .double a1, .double b1, .double r1])), (ha, .inr (0, [.ref hax, .ref hay, .ref hau, .ref hav, .ref ham, .ref has, .ref hak, .int (nI n)])), (hax, .inl (cD, 10, .inr (.inr (.inr (.inl x))))), (hay, .inl (cD, 10, .inr (.inr (.inr (.inl y))))), (hau, .inl (cD, 10, .inr (.inr (.inr (.inl u))))), (hav, .inl (cD, 10, .inr (.inr (.inr (.inl v))))), (ham, .inl (cD, 10, .inr (.inr (.inr (.inl mass))))), (has, .inl (cI, 10, .inl sort)), (hak, .inl (cZ, 10, .inl stuck))] ∧ va_S A s.heap H locs ∧ lv_has ls 3 [(1, .int (nI i)), (0, .ref hp)] ∧ (i ≤ n) ∧ (∀ i2 j2, i2 < i → i2 < j2 → j2 < n → ¬ pb_small side x y i2 j2)) (fun xx => match xx with | (i, a1, b1, r1) => n - i) (fun N K2 xx H locs ls hI hmu => ?_) (0, qa, qb, qr) ?_
  rotate_left
  · skip
    refine ⟨hP.sub [0, 1, 2, 3, 4, 5, 6, 7, 8, 9] rfl, hD.sub [0, 1, 2, 3, 4, 5, 6, 7, 8, 9] (by decide) rfl, hS, lv_sub hl [0, 1] rfl, (by omega), (fun _ _ h => absurd h (Nat.not_lt_zero _))⟩
  obtain ⟨i, a1, b1, r1⟩ := xx
  obtain ⟨hP, hD, hS, hl, hi, hq1⟩ := hI
  try dsimp only at hmu
  refine lv_iload_n hx hb d_Pulls_isOverlap_2 rfl (lv_at hl 0 rfl) ?_
  refine lv_aload_n hx hb d_Pulls_isOverlap_3 rfl (lv_at hl 1 rfl) ?_
  refine va_get (D := (dC, dI)) (ci := 4) (v := .ref ha) (C := R_Pulls) (T := F_Pulls) (N := 7) hx hb hts (fun w h => List.mem_cons_of_mem _ (i_Pulls w h)) hown hK hP 0 rfl rfl 1 (by decide) (hts _ (List.mem_cons_of_mem _ kw_225)) (fun _ h9 => h9) rfl d_Pulls_isOverlap_4 ?_
  refine va_get (D := (dC, dI)) (ci := 0) (v := .int (nI n)) (C := R_Atoms) (T := F_Atoms) (N := 8) hx hb hts (fun w h => List.mem_cons_of_mem _ (i_Atoms w h)) hown hK hP 2 rfl rfl 7 (by decide) (hts _ (List.mem_cons_of_mem _ kw_138)) (fun _ h9 => h9) rfl d_Pulls_isOverlap_7 ?_
  refine lv_icmp_ge (tgt := 62) hx hb d_Pulls_isOverlap_10 (by decide) (fun c10 => ?_) (fun c10 => ?_)
  · skip
    have c10 : n ≤ i := (nI_leI (a := n) (b := i) (by omega) (by omega)).mp c10
    refine lv_iconst (v := 0) hx hb d_Pulls_isOverlap_62 (by decide) ?_
    have hP9 := hP.sub (ws' := [(hp, .inr (4, [.ref hq, .ref ha, .ref hso0, .ref hb0, .ref hfx, .ref hfy, .double cut])), (hq, .inr (7, [.double side, .double a1, .double b1, .double r1])), (ha, .inr (0, [.ref hax, .ref hay, .ref hau, .ref hav, .ref ham, .ref has, .ref hak, .int (nI n)])), (hax, .inl (cD, 10, .inr (.inr (.inr (.inl x))))), (hay, .inl (cD, 10, .inr (.inr (.inr (.inl y))))), (hau, .inl (cD, 10, .inr (.inr (.inr (.inl u))))), (hav, .inl (cD, 10, .inr (.inr (.inr (.inl v))))), (ham, .inl (cD, 10, .inr (.inr (.inr (.inl mass))))), (has, .inl (cI, 10, .inl sort)), (hak, .inl (cZ, 10, .inl stuck))]) [0, 1, 2, 3, 4, 5, 6, 7, 8, 9] rfl
    have hD9 := hD.sub (ws' := [(hp, .inr (4, [.ref hq, .ref ha, .ref hso0, .ref hb0, .ref hfx, .ref hfy, .double cut])), (hq, .inr (7, [.double side, .double a1, .double b1, .double r1])), (ha, .inr (0, [.ref hax, .ref hay, .ref hau, .ref hav, .ref ham, .ref has, .ref hak, .int (nI n)])), (hax, .inl (cD, 10, .inr (.inr (.inr (.inl x))))), (hay, .inl (cD, 10, .inr (.inr (.inr (.inl y))))), (hau, .inl (cD, 10, .inr (.inr (.inr (.inl u))))), (hav, .inl (cD, 10, .inr (.inr (.inr (.inl v))))), (ham, .inl (cD, 10, .inr (.inr (.inr (.inl mass))))), (has, .inl (cI, 10, .inl sort)), (hak, .inl (cZ, 10, .inl stuck))]) [0, 1, 2, 3, 4, 5, 6, 7, 8, 9] (by decide) rfl
    exact W.zret (v := 0) hx hb hr rfl (fun t ht hW => ⟨⟨0, (a1, b1, r1), rfl, (pb_b_f (fun h => by obtain ⟨i2, j2, h1, h2, h3⟩ := h; exact hq1 i2 j2 (by omega) h1 h2 h3)).symm, by rw [ht]; exact hP9, va_K.moved hW.alike hK, hD9⟩, hS.F ht⟩) hS.2.2 d_Pulls_isOverlap_63
  · skip
    have c10 : ¬ n ≤ i := fun h => c10 ((nI_leI (a := n) (b := i) (by omega) (by omega)).mpr h)
    refine lv_iload_n hx hb d_Pulls_isOverlap_13 rfl (lv_at hl 0 rfl) ?_
    refine lv_iconst (v := 1) hx hb d_Pulls_isOverlap_14 (by decide) ?_
    refine lv_iadd hx hb d_Pulls_isOverlap_15 ?_
    rw [nI_1 i]
    refine lv_istore_n (lv' := [(2, .int (nI (i + 1))), (1, .int (nI i)), (0, .ref hp)]) hx hb d_Pulls_isOverlap_16 rfl hl (by decide) rfl (fun ls hl => ?_)
    refine gx_loop (fun (xx : Nat × UInt64 × UInt64 × UInt64) (H : Heap) (locs : List Loc) (ls : Array Slot) => match xx with | (j, a2, b2, r2) => va_P (dC, dI) classes [(hp, .inr (4, [.ref hq, .ref ha, .ref hso0, .ref hb0, .ref hfx, .ref hfy, .double cut])), (hq, .inr (7, [.double side, .double a2, .double b2, .double r2])), (ha, .inr (0, [.ref hax, .ref hay, .ref hau, .ref hav, .ref ham, .ref has, .ref hak, .int (nI n)])), (hax, .inl (cD, 10, .inr (.inr (.inr (.inl x))))), (hay, .inl (cD, 10, .inr (.inr (.inr (.inl y))))), (hau, .inl (cD, 10, .inr (.inr (.inr (.inl u))))), (hav, .inl (cD, 10, .inr (.inr (.inr (.inl v))))), (ham, .inl (cD, 10, .inr (.inr (.inr (.inl mass))))), (has, .inl (cI, 10, .inl sort)), (hak, .inl (cZ, 10, .inl stuck))] H ∧ va_D A [(hp, .inr (4, [.ref hq, .ref ha, .ref hso0, .ref hb0, .ref hfx, .ref hfy, .double cut])), (hq, .inr (7, [.double side, .double a2, .double b2, .double r2])), (ha, .inr (0, [.ref hax, .ref hay, .ref hau, .ref hav, .ref ham, .ref has, .ref hak, .int (nI n)])), (hax, .inl (cD, 10, .inr (.inr (.inr (.inl x))))), (hay, .inl (cD, 10, .inr (.inr (.inr (.inl y))))), (hau, .inl (cD, 10, .inr (.inr (.inr (.inl u))))), (hav, .inl (cD, 10, .inr (.inr (.inr (.inl v))))), (ham, .inl (cD, 10, .inr (.inr (.inr (.inl mass))))), (has, .inl (cI, 10, .inl sort)), (hak, .inl (cZ, 10, .inl stuck))] ∧ va_S A s.heap H locs ∧ lv_has ls 3 [(2, .int (nI j)), (1, .int (nI i)), (0, .ref hp)] ∧ (j ≤ n) ∧ (i < j) ∧ (∀ j2, i < j2 → j2 < j → ¬ pb_small side x y i j2)) (fun xx => match xx with | (j, a2, b2, r2) => n - j) (fun N K17 xx H locs ls hI hmu => ?_) (i + 1, a1, b1, r1) ?_
    rotate_left
    · skip
      refine ⟨hP.sub [0, 1, 2, 3, 4, 5, 6, 7, 8, 9] rfl, hD.sub [0, 1, 2, 3, 4, 5, 6, 7, 8, 9] (by decide) rfl, hS, lv_sub hl [0, 1, 2] rfl, (by omega), (by omega), (fun j2 h h2 => absurd h (by omega))⟩
    obtain ⟨j, a2, b2, r2⟩ := xx
    obtain ⟨hP, hD, hS, hl, hj, hij, hq2⟩ := hI
    try dsimp only at hmu
    refine lv_iload_n hx hb d_Pulls_isOverlap_17 rfl (lv_at hl 0 rfl) ?_
    refine lv_aload_n hx hb d_Pulls_isOverlap_18 rfl (lv_at hl 2 rfl) ?_
    refine va_get (D := (dC, dI)) (ci := 4) (v := .ref ha) (C := R_Pulls) (T := F_Pulls) (N := 7) hx hb hts (fun w h => List.mem_cons_of_mem _ (i_Pulls w h)) hown hK hP 0 rfl rfl 1 (by decide) (hts _ (List.mem_cons_of_mem _ kw_225)) (fun _ h9 => h9) rfl d_Pulls_isOverlap_19 ?_
    refine va_get (D := (dC, dI)) (ci := 0) (v := .int (nI n)) (C := R_Atoms) (T := F_Atoms) (N := 8) hx hb hts (fun w h => List.mem_cons_of_mem _ (i_Atoms w h)) hown hK hP 2 rfl rfl 7 (by decide) (hts _ (List.mem_cons_of_mem _ kw_138)) (fun _ h9 => h9) rfl d_Pulls_isOverlap_22 ?_
    refine lv_icmp_ge (tgt := 56) hx hb d_Pulls_isOverlap_25 (by decide) (fun c25 => ?_) (fun c25 => ?_)
    · skip
      have c25 : n ≤ j := (nI_leI (a := n) (b := j) (by omega) (by omega)).mp c25
      refine lv_iinc (v := nI (i + 1)) (lv' := [(1, .int (nI (i + 1))), (2, .int (nI j)), (0, .ref hp)]) hx hb d_Pulls_isOverlap_56 hl (k := 1) rfl (nI_1 i) (by decide) rfl (fun ls hl => ?_)
      refine lv_goto (tgt := 2) hx hb d_Pulls_isOverlap_59 (by decide) ?_
      exact K2 (i + 1, a2, b2, r2) _ _ _ ⟨hP.sub [0, 1, 2, 3, 4, 5, 6, 7, 8, 9] rfl, hD.sub [0, 1, 2, 3, 4, 5, 6, 7, 8, 9] (by decide) rfl, hS, lv_sub hl [0, 2] rfl, (by omega), (fun i2 j2 h h2 h3 => (Nat.lt_or_eq_of_le (Nat.lt_succ_iff.mp h)).elim (fun q => hq1 i2 j2 q h2 h3) (fun e => by rw [e]; exact hq2 j2 (by omega) (by omega)))⟩ (by dsimp only; omega)
    · skip
      have c25 : ¬ n ≤ j := fun h => c25 ((nI_leI (a := n) (b := j) (by omega) (by omega)).mpr h)
      refine lv_aload_n hx hb d_Pulls_isOverlap_28 rfl (lv_at hl 2 rfl) ?_
      refine lv_iload_n hx hb d_Pulls_isOverlap_29 rfl (lv_at hl 1 rfl) ?_
      refine lv_iload_n hx hb d_Pulls_isOverlap_30 rfl (lv_at hl 0 rfl) ?_
      refine gx_Vv (st0 := [.int (nI j), .int (nI i), .ref hp]) (As := [.int (nI i), .int (nI j)]) (rest := []) (wr := []) ⟨hx, hb, hml, hown, hts⟩ hN hK hP hD hS hA [0, 1, 2, 3, 4, 5, 6, 7, 8, 9] [] rfl rfl (by decide) (c_Pulls_measure l dC dI cI cD cZ H.size hp hso0 hb0 hfx hfy cut hq side a2 b2 r2 ha hax hay hau hav ham has hak x y u v mass sort stuck n i j k hs (by omega) (by omega) (by omega) hX hY) (cwV 2 hts (gx_gV kw_655 kw_389 kw_390 kw_50 kw_391) rfl rfl rfl (by decide +kernel) ⟨Nat.le_of_ble_eq_true rfl, Nat.le_of_ble_eq_true rfl⟩) 0 4 rfl rfl rfl hl.1 rfl (Nat.le_of_ble_eq_true rfl) d_Pulls_isOverlap_31 ⟨Nat.le_of_ble_eq_true rfl, Nat.le_of_ble_eq_true rfl⟩ (fun  u_1 H locs hw31 hP hD hS => ?_)
      try dsimp only at hw31 hP hD
      have hP : va_P (dC, dI) classes [(hp, .inr (4, [.ref hq, .ref ha, .ref hso0, .ref hb0, .ref hfx, .ref hfy, .double cut])), (hq, .inr (7, [.double side, .double (pb_near side (FP.dsub (x j) (x i))), .double (pb_near side (FP.dsub (y j) (y i))), .double (pb_rij side x y i j)])), (ha, .inr (0, [.ref hax, .ref hay, .ref hau, .ref hav, .ref ham, .ref has, .ref hak, .int (nI n)])), (hax, .inl (cD, 10, .inr (.inr (.inr (.inl x))))), (hay, .inl (cD, 10, .inr (.inr (.inr (.inl y))))), (hau, .inl (cD, 10, .inr (.inr (.inr (.inl u))))), (hav, .inl (cD, 10, .inr (.inr (.inr (.inl v))))), (ham, .inl (cD, 10, .inr (.inr (.inr (.inl mass))))), (has, .inl (cI, 10, .inl sort)), (hak, .inl (cZ, 10, .inl stuck))] H := hP
      have hD : va_D A [(hp, .inr (4, [.ref hq, .ref ha, .ref hso0, .ref hb0, .ref hfx, .ref hfy, .double cut])), (hq, .inr (7, [.double side, .double (pb_near side (FP.dsub (x j) (x i))), .double (pb_near side (FP.dsub (y j) (y i))), .double (pb_rij side x y i j)])), (ha, .inr (0, [.ref hax, .ref hay, .ref hau, .ref hav, .ref ham, .ref has, .ref hak, .int (nI n)])), (hax, .inl (cD, 10, .inr (.inr (.inr (.inl x))))), (hay, .inl (cD, 10, .inr (.inr (.inr (.inl y))))), (hau, .inl (cD, 10, .inr (.inr (.inr (.inl u))))), (hav, .inl (cD, 10, .inr (.inr (.inr (.inl v))))), (ham, .inl (cD, 10, .inr (.inr (.inr (.inl mass))))), (has, .inl (cI, 10, .inl sort)), (hak, .inl (cZ, 10, .inl stuck))] := hD
      have g_2 := pb_rij_I hs hX hY i j (by omega) (by omega)
      have g_3 := pb_near_I hs (pb_sub_p (hX j (by omega)) (hX i (by omega)))
      have g_4 := pb_near_I hs (pb_sub_p (hY j (by omega)) (hY i (by omega)))
      refine lv_aload_n hx hb d_Pulls_isOverlap_34 rfl (lv_at hl 2 rfl) ?_
      refine va_get (D := (dC, dI)) (ci := 4) (v := .ref hq) (C := R_Pulls) (T := F_Pulls) (N := 7) hx hb hts (fun w h => List.mem_cons_of_mem _ (i_Pulls w h)) hown hK hP 0 rfl rfl 0 (by decide) (hts _ (List.mem_cons_of_mem _ kw_224)) (fun _ h9 => h9) rfl d_Pulls_isOverlap_35 ?_
      refine va_get (D := (dC, dI)) (ci := 7) (v := .double (pb_rij side x y i j)) (C := R_Square) (T := F_Square) (N := 4) hx hb hts (fun w h => List.mem_cons_of_mem _ (i_Square w h)) hown hK hP 1 rfl rfl 3 (by decide) (hts _ (List.mem_cons_of_mem _ kw_92)) (fun _ h9 => h9) rfl d_Pulls_isOverlap_38 ?_
      refine lv_ldc2d (v := 4562146422526312448) hx hb hown (hts (.constantDouble R_Pulls 58 4562146422526312448) (by decide +kernel)) d_Pulls_isOverlap_41 ?_
      refine gx_lt (tgt := 50) hx hb d_Pulls_isOverlap_44 d_Pulls_isOverlap_45 (by decide) (fun c44 => ?_) (fun c44 => ?_)
      · skip
        refine lv_iinc (v := nI (j + 1)) (lv' := [(2, .int (nI (j + 1))), (1, .int (nI i)), (0, .ref hp)]) hx hb d_Pulls_isOverlap_50 hl (k := 0) rfl (nI_1 j) (by decide) rfl (fun ls hl => ?_)
        refine lv_goto (tgt := 17) hx hb d_Pulls_isOverlap_53 (by decide) ?_
        exact K17 (j + 1, (pb_near side (FP.dsub (x j) (x i))), (pb_near side (FP.dsub (y j) (y i))), (pb_rij side x y i j)) _ _ _ ⟨hP.sub [0, 1, 2, 3, 4, 5, 6, 7, 8, 9] rfl, hD.sub [0, 1, 2, 3, 4, 5, 6, 7, 8, 9] (by decide) rfl, hS, lv_sub hl [0, 1, 2] rfl, (by omega), (by omega), (fun j2 h h2 => (Nat.lt_or_eq_of_le (Nat.lt_succ_iff.mp h2)).elim (fun q => hq2 j2 h q) (fun e => by rw [e]; exact c44))⟩ (by dsimp only; omega)
      · skip
        refine lv_iconst (v := 1) hx hb d_Pulls_isOverlap_48 (by decide) ?_
        have hP9 := hP.sub (ws' := [(hp, .inr (4, [.ref hq, .ref ha, .ref hso0, .ref hb0, .ref hfx, .ref hfy, .double cut])), (hq, .inr (7, [.double side, .double (pb_near side (FP.dsub (x j) (x i))), .double (pb_near side (FP.dsub (y j) (y i))), .double (pb_rij side x y i j)])), (ha, .inr (0, [.ref hax, .ref hay, .ref hau, .ref hav, .ref ham, .ref has, .ref hak, .int (nI n)])), (hax, .inl (cD, 10, .inr (.inr (.inr (.inl x))))), (hay, .inl (cD, 10, .inr (.inr (.inr (.inl y))))), (hau, .inl (cD, 10, .inr (.inr (.inr (.inl u))))), (hav, .inl (cD, 10, .inr (.inr (.inr (.inl v))))), (ham, .inl (cD, 10, .inr (.inr (.inr (.inl mass))))), (has, .inl (cI, 10, .inl sort)), (hak, .inl (cZ, 10, .inl stuck))]) [0, 1, 2, 3, 4, 5, 6, 7, 8, 9] rfl
        have hD9 := hD.sub (ws' := [(hp, .inr (4, [.ref hq, .ref ha, .ref hso0, .ref hb0, .ref hfx, .ref hfy, .double cut])), (hq, .inr (7, [.double side, .double (pb_near side (FP.dsub (x j) (x i))), .double (pb_near side (FP.dsub (y j) (y i))), .double (pb_rij side x y i j)])), (ha, .inr (0, [.ref hax, .ref hay, .ref hau, .ref hav, .ref ham, .ref has, .ref hak, .int (nI n)])), (hax, .inl (cD, 10, .inr (.inr (.inr (.inl x))))), (hay, .inl (cD, 10, .inr (.inr (.inr (.inl y))))), (hau, .inl (cD, 10, .inr (.inr (.inr (.inl u))))), (hav, .inl (cD, 10, .inr (.inr (.inr (.inl v))))), (ham, .inl (cD, 10, .inr (.inr (.inr (.inl mass))))), (has, .inl (cI, 10, .inl sort)), (hak, .inl (cZ, 10, .inl stuck))]) [0, 1, 2, 3, 4, 5, 6, 7, 8, 9] (by decide) rfl
        exact W.zret (v := 1) hx hb hr rfl (fun t ht hW => ⟨⟨1, (pb_near side (FP.dsub (x j) (x i)), pb_near side (FP.dsub (y j) (y i)), pb_rij side x y i j), rfl, (pb_b_t ⟨i, j, by omega, by omega, c44⟩).symm, by rw [ht]; exact hP9, va_K.moved hW.alike hK, hD9⟩, hS.F ht⟩) hS.2.2 d_Pulls_isOverlap_49
