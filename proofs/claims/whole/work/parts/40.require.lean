theorem d_Box_require_0 : decode b_Box_require 0 = .ok (.iload_n 0, 1) := by decide +kernel
theorem d_Box_require_1 : decode b_Box_require 1 = .ok (.ifCond .ne 14, 3) := by decide +kernel
theorem d_Box_require_4 : decode b_Box_require 4 = .ok (.new 275, 3) := by decide +kernel
theorem d_Box_require_7 : decode b_Box_require 7 = .ok (.dup, 1) := by decide +kernel
theorem d_Box_require_8 : decode b_Box_require 8 = .ok (.ldc_w 277, 3) := by decide +kernel
theorem d_Box_require_11 : decode b_Box_require 11 = .ok (.invokespecial 279, 3) := by decide +kernel
theorem d_Box_require_14 : decode b_Box_require 14 = .ok (.athrow, 1) := by decide +kernel
theorem d_Box_require_15 : decode b_Box_require 15 = .ok (.return_, 1) := by decide +kernel
def pb_2at (n : Nat) (p q : Int32) : Prop := pb_has n p ∧ pb_has n q ∧ ¬ p = q
theorem pb_has_k {n : Nat} {q : Int32} (hn : n ≤ 10) (h : pb_has n q) : ∃ i : Nat, i < n ∧ q = nI i := by
  obtain ⟨j, h1, h2⟩ := nI_of h.1
  refine ⟨j, ?_, h2⟩
  by_cases hj : j < n
  · exact hj
  · exact absurd (by rw [h2]; exact (nI_leI (by omega) h1).mpr (by omega)) h.2
theorem pb_in_I {z lo hi : UInt64} {L U : Int} (hl : fp_I lo L L) (hh : fp_I hi U U) (h : pb_in z lo hi) : fp_I z L U := by
  have h1 := FP.Core.dcmp_ge.mp h.1
  have h2 := FP.Core.dcmp_le.mp h.2
  have e1 : fp_Z lo = L := Int.le_antisymm hl.2.2 hl.2.1
  have e2 : fp_Z hi = U := Int.le_antisymm hh.2.2 hh.2.1
  have h5 : fp_Z lo ≤ fp_Z z := h1.2.2
  have h6 : fp_Z z ≤ fp_Z hi := h2.2.2
  exact fp_mk h1.1 (e1 ▸ fp_R_of hl.1) (e2 ▸ fp_R_of hh.1) (by omega) (by omega)
theorem pb_sw3 (x : Int32) : (x.toInt < 0 ∨ 3 < x.toInt) ∨ x = 0 ∨ x = 1 ∨ x = 2 ∨ x = 3 := by
  by_cases h : x.toInt < 0 ∨ 3 < x.toInt
  · exact Or.inl h
  · have h2 : x.toInt = 0 ∨ x.toInt = 1 ∨ x.toInt = 2 ∨ x.toInt = 3 := by omega
    refine Or.inr ?_
    rcases h2 with h2 | h2 | h2 | h2
    · exact Or.inl (Int32.toInt_inj.mp (h2.trans (by decide +kernel)))
    · exact Or.inr (Or.inl (Int32.toInt_inj.mp (h2.trans (by decide +kernel))))
    · exact Or.inr (Or.inr (Or.inl (Int32.toInt_inj.mp (h2.trans (by decide +kernel)))))
    · exact Or.inr (Or.inr (Or.inr ((Int32.toInt_inj.mp (h2.trans (by decide +kernel))))))
theorem pb_sw9 (x : Int32) : (x.toInt < 0 ∨ 9 < x.toInt) ∨ x = 0 ∨ x = 1 ∨ x = 2 ∨ x = 3 ∨ x = 4 ∨ x = 5 ∨ x = 6 ∨ x = 7 ∨ x = 8 ∨ x = 9 := by
  by_cases h : x.toInt < 0 ∨ 9 < x.toInt
  · exact Or.inl h
  · have h2 : x.toInt = 0 ∨ x.toInt = 1 ∨ x.toInt = 2 ∨ x.toInt = 3 ∨ x.toInt = 4 ∨ x.toInt = 5 ∨ x.toInt = 6 ∨ x.toInt = 7 ∨ x.toInt = 8 ∨ x.toInt = 9 := by omega
    refine Or.inr ?_
    rcases h2 with h2 | h2 | h2 | h2 | h2 | h2 | h2 | h2 | h2 | h2
    · exact Or.inl (Int32.toInt_inj.mp (h2.trans (by decide +kernel)))
    · exact Or.inr (Or.inl (Int32.toInt_inj.mp (h2.trans (by decide +kernel))))
    · exact Or.inr (Or.inr (Or.inl (Int32.toInt_inj.mp (h2.trans (by decide +kernel)))))
    · exact Or.inr (Or.inr (Or.inr (Or.inl (Int32.toInt_inj.mp (h2.trans (by decide +kernel))))))
    · exact Or.inr (Or.inr (Or.inr (Or.inr (Or.inl (Int32.toInt_inj.mp (h2.trans (by decide +kernel)))))))
    · exact Or.inr (Or.inr (Or.inr (Or.inr (Or.inr (Or.inl (Int32.toInt_inj.mp (h2.trans (by decide +kernel))))))))
    · exact Or.inr (Or.inr (Or.inr (Or.inr (Or.inr (Or.inr (Or.inl (Int32.toInt_inj.mp (h2.trans (by decide +kernel)))))))))
    · exact Or.inr (Or.inr (Or.inr (Or.inr (Or.inr (Or.inr (Or.inr (Or.inl (Int32.toInt_inj.mp (h2.trans (by decide +kernel))))))))))
    · exact Or.inr (Or.inr (Or.inr (Or.inr (Or.inr (Or.inr (Or.inr (Or.inr (Or.inl (Int32.toInt_inj.mp (h2.trans (by decide +kernel)))))))))))
    · exact Or.inr (Or.inr (Or.inr (Or.inr (Or.inr (Or.inr (Or.inr (Or.inr (Or.inr ((Int32.toInt_inj.mp (h2.trans (by decide +kernel))))))))))))
def pb_told (w : Int32) (x y u v mass : Nat → UInt64) (i : Nat) : UInt64 := if w = 0 then x i else if w = 1 then y i else if w = 2 then u i else if w = 3 then v i else mass i
theorem pb_told_d {w : Int32} {x y u v mass : Nat → UInt64} {i : Nat} (h : w.toInt < 0 ∨ 3 < w.toInt) : pb_told w x y u v mass i = mass i := by
  have e : ∀ j : Int32, 0 ≤ j.toInt → j.toInt ≤ 3 → ¬ w = j := fun j h1 h2 e => by rw [e] at h; omega
  unfold pb_told
  rw [if_neg (e 0 (by decide +kernel) (by decide +kernel)), if_neg (e 1 (by decide +kernel) (by decide +kernel)), if_neg (e 2 (by decide +kernel) (by decide +kernel)), if_neg (e 3 (by decide +kernel) (by decide +kernel))]
def pb_cnt (w : Int32) (a b c d e f g h i j : Int32) : Int32 := if w = 0 then a else if w = 1 then b else if w = 2 then c else if w = 3 then d else if w = 4 then e else if w = 5 then f else if w = 6 then g else if w = 7 then h else if w = 8 then i else if w = 9 then j else -1
theorem pb_cnt_d {w a b c d e f g h i j : Int32} (hw : w.toInt < 0 ∨ 9 < w.toInt) : pb_cnt w a b c d e f g h i j = -1 := by
  have e9 : ∀ j : Int32, 0 ≤ j.toInt → j.toInt ≤ 9 → ¬ w = j := fun j h1 h2 e => by rw [e] at hw; omega
  unfold pb_cnt
  rw [if_neg (e9 0 (by decide +kernel) (by decide +kernel)), if_neg (e9 1 (by decide +kernel) (by decide +kernel)), if_neg (e9 2 (by decide +kernel) (by decide +kernel)), if_neg (e9 3 (by decide +kernel) (by decide +kernel)), if_neg (e9 4 (by decide +kernel) (by decide +kernel)), if_neg (e9 5 (by decide +kernel) (by decide +kernel)), if_neg (e9 6 (by decide +kernel) (by decide +kernel)), if_neg (e9 7 (by decide +kernel) (by decide +kernel)), if_neg (e9 8 (by decide +kernel) (by decide +kernel)), if_neg (e9 9 (by decide +kernel) (by decide +kernel))]
theorem pb_lt_k {N : Nat} {q : Int32} (hN : N < 100) (h0 : ¬ q < 0) (h : ¬ nI N ≤ q) : ∃ k : Nat, k < N ∧ q = nI k := by
  obtain ⟨j, h1, h2⟩ := nI_of h0
  refine ⟨j, ?_, h2⟩
  by_cases hj : j < N
  · exact hj
  · exact absurd (by rw [h2]; exact (nI_leI (by omega) h1).mpr (by omega)) h
set_option maxHeartbeats 4000000 in
set_option maxRecDepth 100000 in
/-- require -/
theorem c_Box_require (l : Launch) (hlt : l.stackTraces = false) (dC : Nat → ClassId) (dI : Nat → Nat → Nat) (cI cD cZ : ClassId) (sz : Nat) (z : Int32) : th_Met l y_Box_require w_Box_require ({ frames := 6, cells := 1, slots := 6, locals := 90 }) (va_Pc [.int z] (th_B (dC, dI) classes (gx_T cI cD cZ) [] sz)) (th_Qo (fun (_ : Unit) => (none : Option Value)) (fun (_ : Unit) (uu : Unit) => z ≠ 0) (fun (uu : Unit) t => gx_E (dC, dI) classes (gx_T cI cD cZ) (va_A [] sz) [] t) (fun (E : String) (uu : Unit) => E = E_I ∧ z = 0) (fun (uu : Unit) t => gx_E (dC, dI) classes (gx_T cI cD cZ) (va_A [] sz) [] t) (va_A [] sz)) 1 6 (va_A [] sz) := by
  refine th_ofW (cc := b_Box_require) (maxL := 1) (ret := none) (by decide) th_spec ?_
  intro p e s m args below meth c s₁ B hml hv
  obtain ⟨rfl, ⟨hsz, hP, hK, hD0, hN⟩, hG⟩ := hv
  have hx := B.exec
  have hb := B.bytes
  have hr := B.returns
  have hts := atoms_spec (ws := w_Box_require) B.pre
  have hown : s.vm.findClass R_Box = some m.cls := findClass_of_methodNamed B.named
  have hlocks := B.notSynchronized
  have hno : c.exceptionTable.isEmpty = true := B.noHandlers (hts _ List.mem_cons_self)
  have hgx : ∀ w ∈ gx_G, w.before _ s = true := fun w h => hts w (List.mem_cons_of_mem _ h)
  subst hsz
  have hD := hD0.self (sz := s.heap.size)
  generalize hAe : va_A [] s.heap.size = A at hD hG ⊢
  have hA : ∀ q : Nat, s.heap.size ≤ q → A q := fun q h => by rw [← hAe]; exact Or.inr h
  have hS : va_S A s.heap s.heap [] := va_S.rf
  have hl := lv_entry ([.int z]) (n := 1) (Nat.le_of_ble_eq_true rfl)
  rw [lg_entry_eq]
  generalize (lg_sl ([.int z]) ++ List.replicate (1 - (lg_sl ([.int z])).length) Slot.unset).toArray = ls at hl ⊢
  have hl : lv_has ls 1 [(0, .int z)] := hl
  obtain ⟨H, hH⟩ : ∃ H, H = s.heap := ⟨_, rfl⟩
  rw [← hH] at hP
  have hS : va_S A s.heap H [] := by rw [hH]; exact hS
  refine gx_start hH ?_
  refine lv_iload_n hx hb d_Box_require_0 rfl (lv_at hl 0 rfl) ?_
  refine lv_if_ne (tgt := 15) hx hb d_Box_require_1 (by decide) (fun c1 => ?_) (fun c1 => ?_)
  · skip
    have hP9 := hP.sub (ws' := []) [] rfl
    have hD9 := hD.sub (ws' := []) [] (by decide) rfl
    refine th_ret ?_
    refine W.widen (k := 1) (n := 6) (by omega) (by omega) ?_
    exact W.vret hx hb hr (fun tt9 ht9 hW9 => ⟨⟨(), (), rfl, c1, by rw [ht9]; exact hP9, va_K.moved hW9.alike hK, hD9⟩, hS.F ht9⟩) hS.2.2 d_Box_require_15
  · skip
    have hP9 := hP.sub (ws' := []) [] rfl
    have hD9 := hD.sub (ws' := []) [] (by decide) rfl
    exact th_thI (si := 277) (tx := "a number is out of range or an atom is not there") (n := 3) hx hb hlt hown hG hS hgx (by decide +kernel) hno d_Box_require_4 d_Box_require_7 (Or.inr ⟨rfl, d_Box_require_8⟩) d_Box_require_11 d_Box_require_14 (hl.1.trans hml.symm) hlocks (Nat.le_of_ble_eq_true rfl) (Nat.le_of_ble_eq_true rfl) (Nat.le_of_ble_eq_true rfl) (Nat.le_of_ble_eq_true rfl) (Nat.le_of_ble_eq_true rfl) (Nat.le_of_ble_eq_true rfl) (Nat.le_of_ble_eq_true rfl) hS.2.2 (fun tt9 ce9 hce9 hcv9 hcl9 hsz9 hold9 hW9 => ⟨⟨E_I, (), ce9, ⟨rfl, c1⟩, hce9, hcv9, hcl9, hP9.kept (fun kk9 xx9 hxx9 => hold9 xx9.1 ((hP9 kk9 xx9 hxx9).lt)), va_K.moved hW9.alike hK, hD9⟩, Nat.le_trans hS.1 hsz9, fun q9 a9 b9 => (hold9 q9 (Nat.lt_of_lt_of_le a9 hS.1)).trans (hS.2.1 q9 a9 b9)⟩)
