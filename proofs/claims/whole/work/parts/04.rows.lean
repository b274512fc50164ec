/-! rows of ours over the kit's: calls with the frame in one row, arrays by numbers, comparisons of doubles, loops. gx_N (the links across the nest) stands in 01x -/
section GXD
variable (D : va_G) (cl : List vw_C) (tys : List (ClassId × FieldType))
/-- what a contract takes: the cells ws in a heap of sz cells, the classes, the links -/
abbrev gx_B (ws : va_W) (sz : Nat) (U : State) : Prop := U.heap.size = sz ∧ va_P D cl ws U.heap ∧ va_K D cl tys U ∧ va_D (fun _ => True) ws ∧ gx_N U
/-- what it leaves: the cells w1, all among ws or new -/
abbrev gx_E (A : Nat → Prop) (w1 : va_W) (t : State) : Prop := va_P D cl w1 t.heap ∧ va_K D cl tys t ∧ va_D A w1
end GXD
theorem gx_blind {D : va_G} {cl : List vw_C} {tys : List (ClassId × FieldType)} {ws : va_W} {sz : Nat} {As : List Value} : FrameBlind (va_Pc As (gx_B D cl tys ws sz)) := fun a U g mk q => by
  obtain ⟨q0, q1, qP, qK, qD, qN⟩ := q
  exact ⟨q0, q1, qP, va_K.moved (u := U) (U := U.calling g mk a) (Vm.Alike.refl U.vm) qK, qD, gx_N.same (u := U) (U := U.calling g mk a) rfl qN⟩
section GXC
variable {p : Program} {l : Launch} {e : Env} {R : Room} {s : State} {m : MethodId} {args : Array Value} {below : List Frame} {meth : Method} {c : Code} {H : Heap} {locs : List Loc} {cells slots : Nat} {Q : State → Prop}
variable {cc bytes : ByteArray} {pc nL maxL index n mc ms : Nat} {ls : Array Slot} {rest st0 As : List Value} {A : Nat → Prop} {Ts w : List Cond} {own C : String} {y : MethodName} {rm : Room} {ret : Option FieldType} {b : Nat}
variable {D : va_G} {cl : List vw_C} {tys : List (ClassId × FieldType)} {ws wc wr : va_W}
/-- the callee's start -/
theorem gx_pre (hN : gx_N s) (hK : va_K D cl tys s) (hP : va_P D cl ws H) (hD : va_D A ws) {isC : List Nat} (hC : isC.map (fun i => ws[i]?) = wc.map some) (hnc : va_nd isC = true) : ∀ U : State, U.heap = H → s.WarmedH U.vm → va_Pc As (gx_B D cl tys wc H.size) As.toArray U := fun U hU hW =>
  ⟨rfl, by rw [hU], by rw [hU]; exact (fun k q hk => by
    have h1 : (isC.map (fun i => ws[i]?))[k]? = some (some q) := by rw [hC, List.getElem?_map, hk]; rfl
    rw [List.getElem?_map] at h1
    cases hi : isC[k]? with
    | none => rw [hi] at h1; cases h1
    | some i => rw [hi] at h1; exact hP i q (Option.some.inj h1)), va_K.moved hW.alike hK, (hD.sub isC hnc hC).weaken (fun _ _ _ _ => trivial), gx_N.warm hW hN⟩
/-- behind the callee: what came back beside the rest -/
theorem gx_post {S : Type} {w1 : S → va_W} {u : S} {t : State} {H1 : Heap} (hP : va_P D cl ws H) (hD : va_D A ws) (hS : va_S A s.heap H locs) (hA : ∀ q, s.heap.size ≤ q → A q) {isC isR : List Nat} (hC : isC.map (fun i => ws[i]?) = wc.map some) (hR : isR.map (fun i => ws[i]?) = wr.map some) (hn : va_nd isR = true) (hdis : ∀ i ∈ isR, i ∉ isC)
    (hk1 : ∀ q : Nat, q < H.size → ¬ va_A wc H.size q → H1[q]? = H[q]?) (ht : t.heap = H1) (hE : gx_E D cl tys (va_A wc H.size) (w1 u) t) : va_P D cl (wr ++ w1 u) H1 ∧ va_D A (wr ++ w1 u) := by
  obtain ⟨hP1, -, hD1⟩ := hE
  rw [ht] at hP1
  exact va_join hP hD isC isR hC hR hn hdis hk1 (va_free hD hS hA isC hC) hP1 hD1
theorem gx_Vd {S : Type} {post : UInt64 → S → Prop} {w1 : S → va_W} (F : CallFix p m c cc nL s args Ts own) (hN : gx_N s) (hK : va_K D cl tys s) (hP : va_P D cl ws H) (hD : va_D A ws) (hS : va_S A s.heap H locs) (hA : ∀ q, s.heap.size ≤ q → A q)
    (isC isR : List Nat) (hC : isC.map (fun i => ws[i]?) = wc.map some) (hR : isR.map (fun i => ws[i]?) = wr.map some) (hnd : (va_nd isR && va_nd isC && isR.all (fun i => !isC.contains i)) = true)
    (hM : Met l y w rm (va_Pc (.ref b :: As) (gx_B D cl tys wc H.size)) (va_Qd post (fun u t => gx_E D cl tys (va_A wc H.size) (w1 u) t) (va_A wc H.size)) mc ms (va_A wc H.size))
    (cw : CallW R s args own C index y bytes maxL ret w rm mc ms n) (q0 ci : Nat) {fs : List Value} {T : u_T} {N : Nat} (hq : ws[q0]? = some (b, .inr (ci, fs))) (hci : cl[ci]? = some (C, T, N))
    (hlen : As.length = n) (hsize : ls.size = nL) (hst : st0 = As.reverse ++ .ref b :: rest) (hW : (rest.map fun v => v.category).sum ≤ 8) (hdg : decode cc pc = .ok (.invokevirtual index, 3)) (hf : cells + mc ≤ R.cells ∧ slots + ms ≤ R.slots)
    (k : ∀ (r : UInt64) (u : S) (H1 : Heap) (locs1 : List Loc), post r u → va_P D cl (wr ++ w1 u) H1 → va_D A (wr ++ w1 u) → va_S A s.heap H1 locs1 → W p l e R s m args below meth c H1 locs1 (cells + mc) (slots + ms) Q (F0 m (pc + 3) ls (.double r :: rest))) :
    W p l e R s m args below meth c H locs cells slots Q (F0 m pc ls st0) := by
  simp only [Bool.and_eq_true, List.all_eq_true] at hnd
  obtain ⟨⟨h1, h2⟩, h3⟩ := hnd
  have hdis : ∀ i ∈ isR, i ∉ isC := fun i hi hc => by have := h3 i hi; simp [hc] at this
  refine va_calld (va_runV (As := As) (rest := rest) F hM cw ⟨gx_blind, va_recv hK hP hci hq, gx_pre hN hK hP hD hC h2⟩ rfl hlen hsize hst (lv_room hW) hdg hf) hS (fun q _ h => va_free hD hS hA isC hC q h) (va_free hD hS hA isC hC) (fun r u t H1 locs1 ht hvm hw hB hz1 hk1 hS1 => ?_)
  obtain ⟨hP1, hD1⟩ := gx_post hP hD hS hA hC hR h1 hdis hk1 ht hB
  exact k r u H1 locs1 hw hP1 hD1 hS1
theorem gx_Vi {S : Type} {post : Int32 → S → Prop} {w1 : S → va_W} (F : CallFix p m c cc nL s args Ts own) (hN : gx_N s) (hK : va_K D cl tys s) (hP : va_P D cl ws H) (hD : va_D A ws) (hS : va_S A s.heap H locs) (hA : ∀ q, s.heap.size ≤ q → A q)
    (isC isR : List Nat) (hC : isC.map (fun i => ws[i]?) = wc.map some) (hR : isR.map (fun i => ws[i]?) = wr.map some) (hnd : (va_nd isR && va_nd isC && isR.all (fun i => !isC.contains i)) = true)
    (hM : Met l y w rm (va_Pc (.ref b :: As) (gx_B D cl tys wc H.size)) (va_Qi post (fun u t => gx_E D cl tys (va_A wc H.size) (w1 u) t) (va_A wc H.size)) mc ms (va_A wc H.size))
    (cw : CallW R s args own C index y bytes maxL ret w rm mc ms n) (q0 ci : Nat) {fs : List Value} {T : u_T} {N : Nat} (hq : ws[q0]? = some (b, .inr (ci, fs))) (hci : cl[ci]? = some (C, T, N))
    (hlen : As.length = n) (hsize : ls.size = nL) (hst : st0 = As.reverse ++ .ref b :: rest) (hW : (rest.map fun v => v.category).sum ≤ 8) (hdg : decode cc pc = .ok (.invokevirtual index, 3)) (hf : cells + mc ≤ R.cells ∧ slots + ms ≤ R.slots)
    (k : ∀ (r : Int32) (u : S) (H1 : Heap) (locs1 : List Loc), post r u → va_P D cl (wr ++ w1 u) H1 → va_D A (wr ++ w1 u) → va_S A s.heap H1 locs1 → W p l e R s m args below meth c H1 locs1 (cells + mc) (slots + ms) Q (F0 m (pc + 3) ls (.int r :: rest))) :
    W p l e R s m args below meth c H locs cells slots Q (F0 m pc ls st0) := by
  simp only [Bool.and_eq_true, List.all_eq_true] at hnd
  obtain ⟨⟨h1, h2⟩, h3⟩ := hnd
  have hdis : ∀ i ∈ isR, i ∉ isC := fun i hi hc => by have := h3 i hi; simp [hc] at this
  refine va_calli (va_runV (As := As) (rest := rest) F hM cw ⟨gx_blind, va_recv hK hP hci hq, gx_pre hN hK hP hD hC h2⟩ rfl hlen hsize hst (lv_room hW) hdg hf) hS (fun q _ h => va_free hD hS hA isC hC q h) (va_free hD hS hA isC hC) (fun r u t H1 locs1 ht hvm hw hB hz1 hk1 hS1 => ?_)
  obtain ⟨hP1, hD1⟩ := gx_post hP hD hS hA hC hR h1 hdis hk1 ht hB
  exact k r u H1 locs1 hw hP1 hD1 hS1
theorem gx_Vv {S : Type} {post : S → Prop} {w1 : S → va_W} (F : CallFix p m c cc nL s args Ts own) (hN : gx_N s) (hK : va_K D cl tys s) (hP : va_P D cl ws H) (hD : va_D A ws) (hS : va_S A s.heap H locs) (hA : ∀ q, s.heap.size ≤ q → A q)
    (isC isR : List Nat) (hC : isC.map (fun i => ws[i]?) = wc.map some) (hR : isR.map (fun i => ws[i]?) = wr.map some) (hnd : (va_nd isR && va_nd isC && isR.all (fun i => !isC.contains i)) = true)
    (hM : Met l y w rm (va_Pc (.ref b :: As) (gx_B D cl tys wc H.size)) (va_Qv post (fun u t => gx_E D cl tys (va_A wc H.size) (w1 u) t) (va_A wc H.size)) mc ms (va_A wc H.size))
    (cw : CallW R s args own C index y bytes maxL ret w rm mc ms n) (q0 ci : Nat) {fs : List Value} {T : u_T} {N : Nat} (hq : ws[q0]? = some (b, .inr (ci, fs))) (hci : cl[ci]? = some (C, T, N))
    (hlen : As.length = n) (hsize : ls.size = nL) (hst : st0 = As.reverse ++ .ref b :: rest) (hW : (rest.map fun v => v.category).sum ≤ 8) (hdg : decode cc pc = .ok (.invokevirtual index, 3)) (hf : cells + mc ≤ R.cells ∧ slots + ms ≤ R.slots)
    (k : ∀ (u : S) (H1 : Heap) (locs1 : List Loc), post u → va_P D cl (wr ++ w1 u) H1 → va_D A (wr ++ w1 u) → va_S A s.heap H1 locs1 → W p l e R s m args below meth c H1 locs1 (cells + mc) (slots + ms) Q (F0 m (pc + 3) ls (rest))) :
    W p l e R s m args below meth c H locs cells slots Q (F0 m pc ls st0) := by
  simp only [Bool.and_eq_true, List.all_eq_true] at hnd
  obtain ⟨⟨h1, h2⟩, h3⟩ := hnd
  have hdis : ∀ i ∈ isR, i ∉ isC := fun i hi hc => by have := h3 i hi; simp [hc] at this
  refine va_callv (va_runV (As := As) (rest := rest) F hM cw ⟨gx_blind, va_recv hK hP hci hq, gx_pre hN hK hP hD hC h2⟩ rfl hlen hsize hst (lv_room hW) hdg hf) hS (fun q _ h => va_free hD hS hA isC hC q h) (va_free hD hS hA isC hC) (fun u t H1 locs1 ht hvm hw hB hz1 hk1 hS1 => ?_)
  obtain ⟨hP1, hD1⟩ := gx_post hP hD hS hA hC hR h1 hdis hk1 ht hB
  exact k u H1 locs1 hw hP1 hD1 hS1
theorem gx_Sd {S : Type} {post : UInt64 → S → Prop} {w1 : S → va_W} (F : CallFix p m c cc nL s args Ts own) (hN : gx_N s) (hK : va_K D cl tys s) (hP : va_P D cl ws H) (hD : va_D A ws) (hS : va_S A s.heap H locs) (hA : ∀ q, s.heap.size ≤ q → A q)
    (isC isR : List Nat) (hC : isC.map (fun i => ws[i]?) = wc.map some) (hR : isR.map (fun i => ws[i]?) = wr.map some) (hnd : (va_nd isR && va_nd isC && isR.all (fun i => !isC.contains i)) = true)
    (hM : Met l y w rm (va_Pc As (gx_B D cl tys wc H.size)) (va_Qd post (fun u t => gx_E D cl tys (va_A wc H.size) (w1 u) t) (va_A wc H.size)) mc ms (va_A wc H.size))
    (cw : CallB R s args own index y bytes maxL ret w rm mc ms n ∧ (Cond.static y).before args s = true) 
    (hlen : As.length = n) (hsize : ls.size = nL) (hst : st0 = As.reverse ++ rest) (hW : (rest.map fun v => v.category).sum ≤ 8) (hdg : decode cc pc = .ok (.invokestatic index, 3)) (hf : cells + mc ≤ R.cells ∧ slots + ms ≤ R.slots)
    (k : ∀ (r : UInt64) (u : S) (H1 : Heap) (locs1 : List Loc), post r u → va_P D cl (wr ++ w1 u) H1 → va_D A (wr ++ w1 u) → va_S A s.heap H1 locs1 → W p l e R s m args below meth c H1 locs1 (cells + mc) (slots + ms) Q (F0 m (pc + 3) ls (.double r :: rest))) :
    W p l e R s m args below meth c H locs cells slots Q (F0 m pc ls st0) := by
  simp only [Bool.and_eq_true, List.all_eq_true] at hnd
  obtain ⟨⟨h1, h2⟩, h3⟩ := hnd
  have hdis : ∀ i ∈ isR, i ∉ isC := fun i hi hc => by have := h3 i hi; simp [hc] at this
  refine va_calld (va_runS (As := As) (rest := rest) F hM cw ⟨gx_blind, gx_pre hN hK hP hD hC h2⟩ rfl hlen hsize hst (lv_room hW) hdg hf) hS (fun q _ h => va_free hD hS hA isC hC q h) (va_free hD hS hA isC hC) (fun r u t H1 locs1 ht hvm hw hB hz1 hk1 hS1 => ?_)
  obtain ⟨hP1, hD1⟩ := gx_post hP hD hS hA hC hR h1 hdis hk1 ht hB
  exact k r u H1 locs1 hw hP1 hD1 hS1
theorem gx_Si {S : Type} {post : Int32 → S → Prop} {w1 : S → va_W} (F : CallFix p m c cc nL s args Ts own) (hN : gx_N s) (hK : va_K D cl tys s) (hP : va_P D cl ws H) (hD : va_D A ws) (hS : va_S A s.heap H locs) (hA : ∀ q, s.heap.size ≤ q → A q)
    (isC isR : List Nat) (hC : isC.map (fun i => ws[i]?) = wc.map some) (hR : isR.map (fun i => ws[i]?) = wr.map some) (hnd : (va_nd isR && va_nd isC && isR.all (fun i => !isC.contains i)) = true)
    (hM : Met l y w rm (va_Pc As (gx_B D cl tys wc H.size)) (va_Qi post (fun u t => gx_E D cl tys (va_A wc H.size) (w1 u) t) (va_A wc H.size)) mc ms (va_A wc H.size))
    (cw : CallB R s args own index y bytes maxL ret w rm mc ms n ∧ (Cond.static y).before args s = true) 
    (hlen : As.length = n) (hsize : ls.size = nL) (hst : st0 = As.reverse ++ rest) (hW : (rest.map fun v => v.category).sum ≤ 8) (hdg : decode cc pc = .ok (.invokestatic index, 3)) (hf : cells + mc ≤ R.cells ∧ slots + ms ≤ R.slots)
    (k : ∀ (r : Int32) (u : S) (H1 : Heap) (locs1 : List Loc), post r u → va_P D cl (wr ++ w1 u) H1 → va_D A (wr ++ w1 u) → va_S A s.heap H1 locs1 → W p l e R s m args below meth c H1 locs1 (cells + mc) (slots + ms) Q (F0 m (pc + 3) ls (.int r :: rest))) :
    W p l e R s m args below meth c H locs cells slots Q (F0 m pc ls st0) := by
  simp only [Bool.and_eq_true, List.all_eq_true] at hnd
  obtain ⟨⟨h1, h2⟩, h3⟩ := hnd
  have hdis : ∀ i ∈ isR, i ∉ isC := fun i hi hc => by have := h3 i hi; simp [hc] at this
  refine va_calli (va_runS (As := As) (rest := rest) F hM cw ⟨gx_blind, gx_pre hN hK hP hD hC h2⟩ rfl hlen hsize hst (lv_room hW) hdg hf) hS (fun q _ h => va_free hD hS hA isC hC q h) (va_free hD hS hA isC hC) (fun r u t H1 locs1 ht hvm hw hB hz1 hk1 hS1 => ?_)
  obtain ⟨hP1, hD1⟩ := gx_post hP hD hS hA hC hR h1 hdis hk1 ht hB
  exact k r u H1 locs1 hw hP1 hD1 hS1
theorem gx_Sv {S : Type} {post : S → Prop} {w1 : S → va_W} (F : CallFix p m c cc nL s args Ts own) (hN : gx_N s) (hK : va_K D cl tys s) (hP : va_P D cl ws H) (hD : va_D A ws) (hS : va_S A s.heap H locs) (hA : ∀ q, s.heap.size ≤ q → A q)
    (isC isR : List Nat) (hC : isC.map (fun i => ws[i]?) = wc.map some) (hR : isR.map (fun i => ws[i]?) = wr.map some) (hnd : (va_nd isR && va_nd isC && isR.all (fun i => !isC.contains i)) = true)
    (hM : Met l y w rm (va_Pc As (gx_B D cl tys wc H.size)) (va_Qv post (fun u t => gx_E D cl tys (va_A wc H.size) (w1 u) t) (va_A wc H.size)) mc ms (va_A wc H.size))
    (cw : CallB R s args own index y bytes maxL ret w rm mc ms n ∧ (Cond.static y).before args s = true) 
    (hlen : As.length = n) (hsize : ls.size = nL) (hst : st0 = As.reverse ++ rest) (hW : (rest.map fun v => v.category).sum ≤ 8) (hdg : decode cc pc = .ok (.invokestatic index, 3)) (hf : cells + mc ≤ R.cells ∧ slots + ms ≤ R.slots)
    (k : ∀ (u : S) (H1 : Heap) (locs1 : List Loc), post u → va_P D cl (wr ++ w1 u) H1 → va_D A (wr ++ w1 u) → va_S A s.heap H1 locs1 → W p l e R s m args below meth c H1 locs1 (cells + mc) (slots + ms) Q (F0 m (pc + 3) ls (rest))) :
    W p l e R s m args below meth c H locs cells slots Q (F0 m pc ls st0) := by
  simp only [Bool.and_eq_true, List.all_eq_true] at hnd
  obtain ⟨⟨h1, h2⟩, h3⟩ := hnd
  have hdis : ∀ i ∈ isR, i ∉ isC := fun i hi hc => by have := h3 i hi; simp [hc] at this
  refine va_callv (va_runS (As := As) (rest := rest) F hM cw ⟨gx_blind, gx_pre hN hK hP hD hC h2⟩ rfl hlen hsize hst (lv_room hW) hdg hf) hS (fun q _ h => va_free hD hS hA isC hC q h) (va_free hD hS hA isC hC) (fun u t H1 locs1 ht hvm hw hB hz1 hk1 hS1 => ?_)
  obtain ⟨hP1, hD1⟩ := gx_post hP hD hS hA hC hR h1 hdis hk1 ht hB
  exact k u H1 locs1 hw hP1 hD1 hS1
theorem gx_SNd {S : Type} {host : String} {post : UInt64 → S → Prop} {w1 : S → va_W} (F : CallFix p m c cc nL s args Ts own) (hN : gx_N s) (hK : va_K D cl tys s) (hP : va_P D cl ws H) (hD : va_D A ws) (hS : va_S A s.heap H locs) (hA : ∀ q, s.heap.size ≤ q → A q)
    (isC isR : List Nat) (hC : isC.map (fun i => ws[i]?) = wc.map some) (hR : isR.map (fun i => ws[i]?) = wr.map some) (hnd : (va_nd isR && va_nd isC && isR.all (fun i => !isC.contains i)) = true)
    (hM : Met l y w rm (va_Pc As (gx_B D cl tys wc H.size)) (va_Qd post (fun u t => gx_E D cl tys (va_A wc H.size) (w1 u) t) (va_A wc H.size)) mc ms (va_A wc H.size))
    (cw : va_CN R s args own index y host bytes maxL ret w rm mc ms n ∧ (Cond.static y).before args s = true ∧ True) 
    (hlen : As.length = n) (hsize : ls.size = nL) (hst : st0 = As.reverse ++ rest) (hW : (rest.map fun v => v.category).sum ≤ 8) (hdg : decode cc pc = .ok (.invokestatic index, 3)) (hf : cells + mc ≤ R.cells ∧ slots + ms ≤ R.slots)
    (k : ∀ (r : UInt64) (u : S) (H1 : Heap) (locs1 : List Loc), post r u → va_P D cl (wr ++ w1 u) H1 → va_D A (wr ++ w1 u) → va_S A s.heap H1 locs1 → W p l e R s m args below meth c H1 locs1 (cells + mc) (slots + ms) Q (F0 m (pc + 3) ls (.double r :: rest))) :
    W p l e R s m args below meth c H locs cells slots Q (F0 m pc ls st0) := by
  simp only [Bool.and_eq_true, List.all_eq_true] at hnd
  obtain ⟨⟨h1, h2⟩, h3⟩ := hnd
  have hdis : ∀ i ∈ isR, i ∉ isC := fun i hi hc => by have := h3 i hi; simp [hc] at this
  refine va_calld (va_runSN (As := As) (rest := rest) F hM cw ⟨gx_blind, gx_pre hN hK hP hD hC h2⟩ rfl hlen hsize hst (lv_room hW) hdg hf) hS (fun q _ h => va_free hD hS hA isC hC q h) (va_free hD hS hA isC hC) (fun r u t H1 locs1 ht hvm hw hB hz1 hk1 hS1 => ?_)
  obtain ⟨hP1, hD1⟩ := gx_post hP hD hS hA hC hR h1 hdis hk1 ht hB
  exact k r u H1 locs1 hw hP1 hD1 hS1
theorem gx_SNi {S : Type} {host : String} {post : Int32 → S → Prop} {w1 : S → va_W} (F : CallFix p m c cc nL s args Ts own) (hN : gx_N s) (hK : va_K D cl tys s) (hP : va_P D cl ws H) (hD : va_D A ws) (hS : va_S A s.heap H locs) (hA : ∀ q, s.heap.size ≤ q → A q)
    (isC isR : List Nat) (hC : isC.map (fun i => ws[i]?) = wc.map some) (hR : isR.map (fun i => ws[i]?) = wr.map some) (hnd : (va_nd isR && va_nd isC && isR.all (fun i => !isC.contains i)) = true)
    (hM : Met l y w rm (va_Pc As (gx_B D cl tys wc H.size)) (va_Qi post (fun u t => gx_E D cl tys (va_A wc H.size) (w1 u) t) (va_A wc H.size)) mc ms (va_A wc H.size))
    (cw : va_CN R s args own index y host bytes maxL ret w rm mc ms n ∧ (Cond.static y).before args s = true ∧ True) 
    (hlen : As.length = n) (hsize : ls.size = nL) (hst : st0 = As.reverse ++ rest) (hW : (rest.map fun v => v.category).sum ≤ 8) (hdg : decode cc pc = .ok (.invokestatic index, 3)) (hf : cells + mc ≤ R.cells ∧ slots + ms ≤ R.slots)
    (k : ∀ (r : Int32) (u : S) (H1 : Heap) (locs1 : List Loc), post r u → va_P D cl (wr ++ w1 u) H1 → va_D A (wr ++ w1 u) → va_S A s.heap H1 locs1 → W p l e R s m args below meth c H1 locs1 (cells + mc) (slots + ms) Q (F0 m (pc + 3) ls (.int r :: rest))) :
    W p l e R s m args below meth c H locs cells slots Q (F0 m pc ls st0) := by
  simp only [Bool.and_eq_true, List.all_eq_true] at hnd
  obtain ⟨⟨h1, h2⟩, h3⟩ := hnd
  have hdis : ∀ i ∈ isR, i ∉ isC := fun i hi hc => by have := h3 i hi; simp [hc] at this
  refine va_calli (va_runSN (As := As) (rest := rest) F hM cw ⟨gx_blind, gx_pre hN hK hP hD hC h2⟩ rfl hlen hsize hst (lv_room hW) hdg hf) hS (fun q _ h => va_free hD hS hA isC hC q h) (va_free hD hS hA isC hC) (fun r u t H1 locs1 ht hvm hw hB hz1 hk1 hS1 => ?_)
  obtain ⟨hP1, hD1⟩ := gx_post hP hD hS hA hC hR h1 hdis hk1 ht hB
  exact k r u H1 locs1 hw hP1 hD1 hS1
theorem gx_Iv {S : Type} {post : S → Prop} {w1 : S → va_W} (F : CallFix p m c cc nL s args Ts own) (hN : gx_N s) (hK : va_K D cl tys s) (hP : va_P D cl ws H) (hD : va_D A ws) (hS : va_S A s.heap H locs) (hA : ∀ q, s.heap.size ≤ q → A q)
    (isC isR : List Nat) (hC : isC.map (fun i => ws[i]?) = wc.map some) (hR : isR.map (fun i => ws[i]?) = wr.map some) (hnd : (va_nd isR && va_nd isC && isR.all (fun i => !isC.contains i)) = true)
    (hM : Met l y w rm (va_Pc (.ref b :: As) (gx_B D cl tys wc H.size)) (va_Qv post (fun u t => gx_E D cl tys (va_A wc H.size) (w1 u) t) (va_A wc H.size)) mc ms (va_A wc H.size))
    (cw : CallB R s args own index y bytes maxL none w rm mc ms n ∧ y.name = "<init>" ∧ (Cond.instanceMethod y).before args s = true) 
    (hlen : As.length = n) (hsize : ls.size = nL) (hst : st0 = As.reverse ++ .ref b :: rest) (hW : (rest.map fun v => v.category).sum ≤ 8) (hdg : decode cc pc = .ok (.invokespecial index, 3)) (hf : cells + mc ≤ R.cells ∧ slots + ms ≤ R.slots)
    (k : ∀ (u : S) (H1 : Heap) (locs1 : List Loc), post u → va_P D cl (wr ++ w1 u) H1 → va_D A (wr ++ w1 u) → va_S A s.heap H1 locs1 → W p l e R s m args below meth c H1 locs1 (cells + mc) (slots + ms) Q (F0 m (pc + 3) ls (rest))) :
    W p l e R s m args below meth c H locs cells slots Q (F0 m pc ls st0) := by
  simp only [Bool.and_eq_true, List.all_eq_true] at hnd
  obtain ⟨⟨h1, h2⟩, h3⟩ := hnd
  have hdis : ∀ i ∈ isR, i ∉ isC := fun i hi hc => by have := h3 i hi; simp [hc] at this
  refine va_callv (va_runI (As := As) (rest := rest) F hM cw ⟨gx_blind, gx_pre hN hK hP hD hC h2⟩ rfl hlen hsize hst (lv_room hW) hdg hf) hS (fun q _ h => va_free hD hS hA isC hC q h) (va_free hD hS hA isC hC) (fun u t H1 locs1 ht hvm hw hB hz1 hk1 hS1 => ?_)
  obtain ⟨hP1, hD1⟩ := gx_post hP hD hS hA hC hR h1 hdis hk1 ht hB
  exact k u H1 locs1 hw hP1 hD1 hS1
end GXC
section GXA
variable {p : Program} {l : Launch} {e : Env} {R : Room} {s : State} {m : MethodId} {args : Array Value} {below : List Frame} {meth : Method} {c : Code} {H H0 : Heap} {locs : List Loc} {cells slots : Nat} {Q : State → Prop}
variable {cc : ByteArray} {pc : Nat} {ls : Array Slot} {rest : List Value} {A : Nat → Prop} {a : Nat} {D : va_G} {cl : List vw_C} {tys : List (ClassId × FieldType)} {ws : va_W}
/-- arrays of at most 2^31 - 1 places, the index a number -/
theorem gx_dald (hexec : p.tables.exec = Jvm.exec) (hb : c.code = cc) (hK : va_K D cl tys s) (hP : va_P D cl ws H) (q0 t0 : Nat) {cA : ClassId} {n i : Nat} {f : Nat → UInt64} (ha : ws[q0]? = some (a, .inl (cA, n, .inr (.inr (.inr (.inl f)))))) (ht : tys[t0]? = some (cA, .double)) (hi : i < n) (hn : n < 2 ^ 31) (hdg : decode cc pc = .ok (.daload, 1))
    (kk : W p l e R s m args below meth c H locs cells slots Q (F0 m (pc + 1) ls (.double (f i) :: rest))) : W p l e R s m args below meth c H locs cells slots Q (F0 m pc ls (.int (nI i) :: .ref a :: rest)) := by
  refine va_dald hexec hb hK hP q0 t0 ha ht (vp_in_nI hi hn) hdg ?_
  rw [nI_clamp (by omega)]
  exact kk
theorem gx_iald (hexec : p.tables.exec = Jvm.exec) (hb : c.code = cc) (hK : va_K D cl tys s) (hP : va_P D cl ws H) (q0 t0 : Nat) {cA : ClassId} {n i : Nat} {f : Nat → Int32} (ha : ws[q0]? = some (a, .inl (cA, n, .inl f))) (ht : tys[t0]? = some (cA, .int)) (hi : i < n) (hn : n < 2 ^ 31) (hdg : decode cc pc = .ok (.iaload, 1))
    (kk : W p l e R s m args below meth c H locs cells slots Q (F0 m (pc + 1) ls (.int (f i) :: rest))) : W p l e R s m args below meth c H locs cells slots Q (F0 m pc ls (.int (nI i) :: .ref a :: rest)) := by
  refine va_iald hexec hb hK hP q0 t0 ha ht (vp_in_nI hi hn) hdg ?_
  rw [nI_clamp (by omega)]
  exact kk
theorem gx_zald (hexec : p.tables.exec = Jvm.exec) (hb : c.code = cc) (hK : va_K D cl tys s) (hP : va_P D cl ws H) (q0 t0 : Nat) {cA : ClassId} {n i : Nat} {f : Nat → Int32} (ha : ws[q0]? = some (a, .inl (cA, n, .inl f))) (ht : tys[t0]? = some (cA, .boolean)) (hi : i < n) (hn : n < 2 ^ 31) (hdg : decode cc pc = .ok (.baload, 1))
    (kk : W p l e R s m args below meth c H locs cells slots Q (F0 m (pc + 1) ls (.int (f i) :: rest))) : W p l e R s m args below meth c H locs cells slots Q (F0 m pc ls (.int (nI i) :: .ref a :: rest)) := by
  refine va_zald hexec hb hK hP q0 t0 ha ht (vp_in_nI hi hn) hdg ?_
  rw [nI_clamp (by omega)]
  exact kk
theorem gx_dast (hexec : p.tables.exec = Jvm.exec) (hb : c.code = cc) (hK : va_K D cl tys s) (hP : va_P D cl ws H) (hD : va_D A ws) (hS : va_S A H0 H locs) (q0 t0 : Nat) {cA : ClassId} {n i : Nat} {f : Nat → UInt64} (ha : ws[q0]? = some (a, .inl (cA, n, .inr (.inr (.inr (.inl f)))))) (ht : tys[t0]? = some (cA, .double)) {x : UInt64} (hi : i < n) (hn : n < 2 ^ 31) (hdg : decode cc pc = .ok (.dastore, 1))
    (kk : ∀ (H1 : Heap) (locs1 : List Loc), va_P D cl (ws.set q0 (a, .inl (cA, n, .inr (.inr (.inr (.inl (vf_upd f i x))))))) H1 → va_D A (ws.set q0 (a, .inl (cA, n, .inr (.inr (.inr (.inl (vf_upd f i x))))))) → va_S A H0 H1 locs1 → W p l e R s m args below meth c H1 locs1 cells slots Q (F0 m (pc + 1) ls rest)) : W p l e R s m args below meth c H locs cells slots Q (F0 m pc ls (.double x :: .int (nI i) :: .ref a :: rest)) := by
  refine va_dast hexec hb hK hP hD hS q0 t0 ha ht (vp_in_nI hi hn) hdg ?_
  rw [nI_clamp (by omega)]
  exact kk
theorem gx_iast (hexec : p.tables.exec = Jvm.exec) (hb : c.code = cc) (hK : va_K D cl tys s) (hP : va_P D cl ws H) (hD : va_D A ws) (hS : va_S A H0 H locs) (q0 t0 : Nat) {cA : ClassId} {n i : Nat} {f : Nat → Int32} (ha : ws[q0]? = some (a, .inl (cA, n, .inl f))) (ht : tys[t0]? = some (cA, .int)) {x : Int32} (hi : i < n) (hn : n < 2 ^ 31) (hdg : decode cc pc = .ok (.iastore, 1))
    (kk : ∀ (H1 : Heap) (locs1 : List Loc), va_P D cl (ws.set q0 (a, .inl (cA, n, .inl (upd f i x)))) H1 → va_D A (ws.set q0 (a, .inl (cA, n, .inl (upd f i x)))) → va_S A H0 H1 locs1 → W p l e R s m args below meth c H1 locs1 cells slots Q (F0 m (pc + 1) ls rest)) : W p l e R s m args below meth c H locs cells slots Q (F0 m pc ls (.int x :: .int (nI i) :: .ref a :: rest)) := by
  refine va_iast hexec hb hK hP hD hS q0 t0 ha ht (vp_in_nI hi hn) hdg ?_
  rw [nI_clamp (by omega)]
  exact kk
/-- a comparison of doubles and the branch behind it -/
theorem gx_cmpv (o : Option Ordering) (op : CmpOp) : Op.cmpValue o op = match o with | some .lt => -1 | some .eq => 0 | some .gt => 1 | none => (if op = .g then 1 else -1) := by
  cases o with
  | none => cases op <;> rfl
  | some q => cases q <;> rfl
/-- a < b: dcmpg, ifge -/
theorem gx_lt (hexec : p.tables.exec = Jvm.exec) (hb : c.code = cc) {x y : UInt64} {off : Int} {tgt : Nat} (hd1 : decode cc pc = .ok (.dcmp .g, 1)) (hd2 : decode cc (pc + 1) = .ok (.ifCond .ge off, 3)) (ht : ((pc + 1 : Nat) : Int) + off = (tgt : Int))
    (kf : ¬ FP.dcmp x y = some .lt → W p l e R s m args below meth c H locs cells slots Q (F0 m tgt ls rest)) (kt : FP.dcmp x y = some .lt → W p l e R s m args below meth c H locs cells slots Q (F0 m (pc + 1 + 3) ls rest)) : W p l e R s m args below meth c H locs cells slots Q (F0 m pc ls (.double y :: .double x :: rest)) := by
  refine lv_dcmp hexec hb hd1 ?_
  refine lv_if_ge hexec hb hd2 ht (fun h => kf (fun q => ?_)) (fun h => kt ?_)
  · rw [q, gx_cmpv] at h; exact absurd h (by decide)
  · rw [gx_cmpv] at h
    cases ho : FP.dcmp x y with
    | none => rw [ho] at h; exact absurd (by decide) h
    | some o => rw [ho] at h; cases o <;> first | rfl | exact absurd (by decide) h
/-- a <= b: dcmpg, ifgt -/
theorem gx_le (hexec : p.tables.exec = Jvm.exec) (hb : c.code = cc) {x y : UInt64} {off : Int} {tgt : Nat} (hd1 : decode cc pc = .ok (.dcmp .g, 1)) (hd2 : decode cc (pc + 1) = .ok (.ifCond .gt off, 3)) (ht : ((pc + 1 : Nat) : Int) + off = (tgt : Int))
    (kf : ¬ (FP.dcmp x y = some .lt ∨ FP.dcmp x y = some .eq) → W p l e R s m args below meth c H locs cells slots Q (F0 m tgt ls rest)) (kt : (FP.dcmp x y = some .lt ∨ FP.dcmp x y = some .eq) → W p l e R s m args below meth c H locs cells slots Q (F0 m (pc + 1 + 3) ls rest)) : W p l e R s m args below meth c H locs cells slots Q (F0 m pc ls (.double y :: .double x :: rest)) := by
  refine lv_dcmp hexec hb hd1 ?_
  refine lv_if_gt hexec hb hd2 ht (fun h => kf (fun q => ?_)) (fun h => kt ?_)
  · rcases q with q | q <;> (rw [q, gx_cmpv] at h; exact absurd h (by decide))
  · rw [gx_cmpv] at h
    cases ho : FP.dcmp x y with
    | none => rw [ho] at h; exact absurd (by decide) h
    | some o => rw [ho] at h; cases o <;> first | exact Or.inl rfl | exact Or.inr rfl | exact absurd (by decide) h
/-- a > b: dcmpl, ifle -/
theorem gx_gt (hexec : p.tables.exec = Jvm.exec) (hb : c.code = cc) {x y : UInt64} {off : Int} {tgt : Nat} (hd1 : decode cc pc = .ok (.dcmp .l, 1)) (hd2 : decode cc (pc + 1) = .ok (.ifCond .le off, 3)) (ht : ((pc + 1 : Nat) : Int) + off = (tgt : Int))
    (kf : ¬ FP.dcmp x y = some .gt → W p l e R s m args below meth c H locs cells slots Q (F0 m tgt ls rest)) (kt : FP.dcmp x y = some .gt → W p l e R s m args below meth c H locs cells slots Q (F0 m (pc + 1 + 3) ls rest)) : W p l e R s m args below meth c H locs cells slots Q (F0 m pc ls (.double y :: .double x :: rest)) := by
  refine lv_dcmp hexec hb hd1 ?_
  refine lv_if_le hexec hb hd2 ht (fun h => kf (fun q => ?_)) (fun h => kt ?_)
  · rw [q, gx_cmpv] at h; exact absurd h (by decide)
  · rw [gx_cmpv] at h
    cases ho : FP.dcmp x y with
    | none => rw [ho] at h; exact absurd (by decide) h
    | some o => rw [ho] at h; cases o <;> first | rfl | exact absurd (by decide) h
/-- a >= b: dcmpl, iflt -/
theorem gx_ge (hexec : p.tables.exec = Jvm.exec) (hb : c.code = cc) {x y : UInt64} {off : Int} {tgt : Nat} (hd1 : decode cc pc = .ok (.dcmp .l, 1)) (hd2 : decode cc (pc + 1) = .ok (.ifCond .lt off, 3)) (ht : ((pc + 1 : Nat) : Int) + off = (tgt : Int))
    (kf : ¬ (FP.dcmp x y = some .gt ∨ FP.dcmp x y = some .eq) → W p l e R s m args below meth c H locs cells slots Q (F0 m tgt ls rest)) (kt : (FP.dcmp x y = some .gt ∨ FP.dcmp x y = some .eq) → W p l e R s m args below meth c H locs cells slots Q (F0 m (pc + 1 + 3) ls rest)) : W p l e R s m args below meth c H locs cells slots Q (F0 m pc ls (.double y :: .double x :: rest)) := by
  refine lv_dcmp hexec hb hd1 ?_
  refine lv_if_lt hexec hb hd2 ht (fun h => kf (fun q => ?_)) (fun h => kt ?_)
  · rcases q with q | q <;> (rw [q, gx_cmpv] at h; exact absurd h (by decide))
  · rw [gx_cmpv] at h
    cases ho : FP.dcmp x y with
    | none => rw [ho] at h; exact absurd (by decide) h
    | some o => rw [ho] at h; cases o <;> first | exact Or.inl rfl | exact Or.inr rfl | exact absurd (by decide) h
/-- a == b: dcmpl, ifne -/
theorem gx_eq (hexec : p.tables.exec = Jvm.exec) (hb : c.code = cc) {x y : UInt64} {off : Int} {tgt : Nat} {op : CmpOp} (hd1 : decode cc pc = .ok (.dcmp op, 1)) (hd2 : decode cc (pc + 1) = .ok (.ifCond .ne off, 3)) (ht : ((pc + 1 : Nat) : Int) + off = (tgt : Int))
    (kf : ¬ FP.dcmp x y = some .eq → W p l e R s m args below meth c H locs cells slots Q (F0 m tgt ls rest)) (kt : FP.dcmp x y = some .eq → W p l e R s m args below meth c H locs cells slots Q (F0 m (pc + 1 + 3) ls rest)) : W p l e R s m args below meth c H locs cells slots Q (F0 m pc ls (.double y :: .double x :: rest)) := by
  refine lv_dcmp hexec hb hd1 ?_
  refine lv_if_ne hexec hb hd2 ht (fun h => kf (fun q => ?_)) (fun h => kt ?_)
  · rw [q, gx_cmpv] at h; exact absurd rfl h
  · rw [gx_cmpv] at h
    cases ho : FP.dcmp x y with
    | none => rw [ho] at h; exact absurd h (by cases op <;> decide)
    | some o => rw [ho] at h; cases o <;> first | rfl | exact absurd h (by cases op <;> decide)
theorem gx_gtT (hexec : p.tables.exec = Jvm.exec) (hb : c.code = cc) {x y : UInt64} {off : Int} {tgt : Nat} (hd1 : decode cc pc = .ok (.dcmp .l, 1)) (hd2 : decode cc (pc + 1) = .ok (.ifCond .gt off, 3)) (ht : ((pc + 1 : Nat) : Int) + off = (tgt : Int))
    (kt : FP.dcmp x y = some .gt → W p l e R s m args below meth c H locs cells slots Q (F0 m tgt ls rest)) (kf : ¬ FP.dcmp x y = some .gt → W p l e R s m args below meth c H locs cells slots Q (F0 m (pc + 1 + 3) ls rest)) : W p l e R s m args below meth c H locs cells slots Q (F0 m pc ls (.double y :: .double x :: rest)) := by
  refine lv_dcmp hexec hb hd1 ?_
  refine lv_if_gt hexec hb hd2 ht (fun h => kt ?_) (fun h => kf (fun q => ?_))
  · rw [gx_cmpv] at h
    cases ho : FP.dcmp x y with
    | none => rw [ho] at h; exact absurd h (by decide)
    | some o => rw [ho] at h; cases o <;> first | rfl | exact Or.inl rfl | exact Or.inr rfl | exact absurd h (by decide)
  · rw [q, gx_cmpv] at h; exact h (by decide)
theorem gx_ltT (hexec : p.tables.exec = Jvm.exec) (hb : c.code = cc) {x y : UInt64} {off : Int} {tgt : Nat} (hd1 : decode cc pc = .ok (.dcmp .g, 1)) (hd2 : decode cc (pc + 1) = .ok (.ifCond .lt off, 3)) (ht : ((pc + 1 : Nat) : Int) + off = (tgt : Int))
    (kt : FP.dcmp x y = some .lt → W p l e R s m args below meth c H locs cells slots Q (F0 m tgt ls rest)) (kf : ¬ FP.dcmp x y = some .lt → W p l e R s m args below meth c H locs cells slots Q (F0 m (pc + 1 + 3) ls rest)) : W p l e R s m args below meth c H locs cells slots Q (F0 m pc ls (.double y :: .double x :: rest)) := by
  refine lv_dcmp hexec hb hd1 ?_
  refine lv_if_lt hexec hb hd2 ht (fun h => kt ?_) (fun h => kf (fun q => ?_))
  · rw [gx_cmpv] at h
    cases ho : FP.dcmp x y with
    | none => rw [ho] at h; exact absurd h (by decide)
    | some o => rw [ho] at h; cases o <;> first | rfl | exact Or.inl rfl | exact Or.inr rfl | exact absurd h (by decide)
  · rw [q, gx_cmpv] at h; exact h (by decide)
theorem gx_geT (hexec : p.tables.exec = Jvm.exec) (hb : c.code = cc) {x y : UInt64} {off : Int} {tgt : Nat} (hd1 : decode cc pc = .ok (.dcmp .l, 1)) (hd2 : decode cc (pc + 1) = .ok (.ifCond .ge off, 3)) (ht : ((pc + 1 : Nat) : Int) + off = (tgt : Int))
    (kt : (FP.dcmp x y = some .gt ∨ FP.dcmp x y = some .eq) → W p l e R s m args below meth c H locs cells slots Q (F0 m tgt ls rest)) (kf : ¬ (FP.dcmp x y = some .gt ∨ FP.dcmp x y = some .eq) → W p l e R s m args below meth c H locs cells slots Q (F0 m (pc + 1 + 3) ls rest)) : W p l e R s m args below meth c H locs cells slots Q (F0 m pc ls (.double y :: .double x :: rest)) := by
  refine lv_dcmp hexec hb hd1 ?_
  refine lv_if_ge hexec hb hd2 ht (fun h => kt ?_) (fun h => kf (fun q => ?_))
  · rw [gx_cmpv] at h
    cases ho : FP.dcmp x y with
    | none => rw [ho] at h; exact absurd h (by decide)
    | some o => rw [ho] at h; cases o <;> first | rfl | exact Or.inl rfl | exact Or.inr rfl | exact absurd h (by decide)
  · rcases q with q | q <;> (rw [q, gx_cmpv] at h; exact h (by decide))
theorem gx_leT (hexec : p.tables.exec = Jvm.exec) (hb : c.code = cc) {x y : UInt64} {off : Int} {tgt : Nat} (hd1 : decode cc pc = .ok (.dcmp .g, 1)) (hd2 : decode cc (pc + 1) = .ok (.ifCond .le off, 3)) (ht : ((pc + 1 : Nat) : Int) + off = (tgt : Int))
    (kt : (FP.dcmp x y = some .lt ∨ FP.dcmp x y = some .eq) → W p l e R s m args below meth c H locs cells slots Q (F0 m tgt ls rest)) (kf : ¬ (FP.dcmp x y = some .lt ∨ FP.dcmp x y = some .eq) → W p l e R s m args below meth c H locs cells slots Q (F0 m (pc + 1 + 3) ls rest)) : W p l e R s m args below meth c H locs cells slots Q (F0 m pc ls (.double y :: .double x :: rest)) := by
  refine lv_dcmp hexec hb hd1 ?_
  refine lv_if_le hexec hb hd2 ht (fun h => kt ?_) (fun h => kf (fun q => ?_))
  · rw [gx_cmpv] at h
    cases ho : FP.dcmp x y with
    | none => rw [ho] at h; exact absurd h (by decide)
    | some o => rw [ho] at h; cases o <;> first | rfl | exact Or.inl rfl | exact Or.inr rfl | exact absurd h (by decide)
  · rcases q with q | q <;> (rw [q, gx_cmpv] at h; exact h (by decide))
theorem gx_eqT (hexec : p.tables.exec = Jvm.exec) (hb : c.code = cc) {x y : UInt64} {off : Int} {tgt : Nat} {op : CmpOp} (hd1 : decode cc pc = .ok (.dcmp op, 1)) (hd2 : decode cc (pc + 1) = .ok (.ifCond .eq off, 3)) (ht : ((pc + 1 : Nat) : Int) + off = (tgt : Int))
    (kt : FP.dcmp x y = some .eq → W p l e R s m args below meth c H locs cells slots Q (F0 m tgt ls rest)) (kf : ¬ FP.dcmp x y = some .eq → W p l e R s m args below meth c H locs cells slots Q (F0 m (pc + 1 + 3) ls rest)) : W p l e R s m args below meth c H locs cells slots Q (F0 m pc ls (.double y :: .double x :: rest)) := by
  refine lv_dcmp hexec hb hd1 ?_
  refine lv_if_eq hexec hb hd2 ht (fun h => kt ?_) (fun h => kf (fun q => ?_))
  · rw [gx_cmpv] at h
    cases ho : FP.dcmp x y with
    | none => rw [ho] at h; exact absurd h (by cases op <;> decide)
    | some o => rw [ho] at h; cases o <;> first | rfl | exact absurd h (by cases op <;> decide)
  · rw [q, gx_cmpv] at h; exact h (by cases op <;> decide)
theorem gx_zast (hexec : p.tables.exec = Jvm.exec) (hb : c.code = cc) (hK : va_K D cl tys s) (hP : va_P D cl ws H) (hD : va_D A ws) (hS : va_S A H0 H locs) (q0 t0 : Nat) {cA : ClassId} {n i : Nat} {f : Nat → Int32} (ha : ws[q0]? = some (a, .inl (cA, n, .inl f))) (ht : tys[t0]? = some (cA, .boolean)) {x : Int32} (hi : i < n) (hn : n < 2 ^ 31) (hx1 : vp_nar .boolean x = x) (hdg : decode cc pc = .ok (.bastore, 1))
    (kk : ∀ (H1 : Heap) (locs1 : List Loc), va_P D cl (ws.set q0 (a, .inl (cA, n, .inl (upd f i x)))) H1 → va_D A (ws.set q0 (a, .inl (cA, n, .inl (upd f i x)))) → va_S A H0 H1 locs1 → W p l e R s m args below meth c H1 locs1 cells slots Q (F0 m (pc + 1) ls rest)) : W p l e R s m args below meth c H locs cells slots Q (F0 m pc ls (.int x :: .int (nI i) :: .ref a :: rest)) := by
  refine va_zast hexec hb hK hP hD hS q0 t0 ha ht (vp_in_nI hi hn) hdg ?_
  rw [nI_clamp (by omega), hx1]
  exact kk
/-- a boolean -/
noncomputable def pb_b (q : Prop) : Int32 := @ite _ q (Classical.propDecidable q) 1 0
theorem pb_b_t {q : Prop} (h : q) : pb_b q = 1 := by unfold pb_b; rw [if_pos h]
theorem pb_b_f {q : Prop} (h : ¬ q) : pb_b q = 0 := by unfold pb_b; rw [if_neg h]
theorem pb_b_0 {q : Prop} : pb_b q = 0 ↔ ¬ q := ⟨fun h hq => by rw [pb_b_t hq] at h; exact absurd h (by decide), pb_b_f⟩
theorem pb_b_1 {q : Prop} : pb_b q = 1 ↔ q := ⟨fun h => Classical.byContradiction fun hq => by rw [pb_b_f hq] at h; exact absurd h (by decide), pb_b_t⟩
theorem pb_b_n0 {q : Prop} (h : ¬ pb_b q = 0) : q := Classical.byContradiction fun hq => h (pb_b_f hq)
theorem pb_b_nar (q : Prop) : narrow .boolean (.int (pb_b q)) = .int (pb_b q) := by
  by_cases h : q
  · rw [pb_b_t h]; rfl
  · rw [pb_b_f h]; rfl
theorem gx_start {g : JFrame} {H2 : Heap} (h : H2 = s.heap) (k : W p l e R s m args below meth c H2 locs cells slots Q g) : W p l e R s m args below meth c s.heap locs cells slots Q g := by
  rw [← h]
  exact k
/-- a loop: its state x, its invariant I, what falls -/
theorem gx_loop {σ : Type} (I : σ → Heap → List Loc → Array Slot → Prop) (mu : σ → Nat) {st : List Value}
    (hs : ∀ N : Nat, (∀ (x : σ) (H : Heap) (locs : List Loc) (ls : Array Slot), I x H locs ls → mu x < N → W p l e R s m args below meth c H locs cells slots Q (F0 m pc ls st)) → ∀ (x : σ) (H : Heap) (locs : List Loc) (ls : Array Slot), I x H locs ls → mu x < N + 1 → W p l e R s m args below meth c H locs cells slots Q (F0 m pc ls st))
    (x : σ) (h : I x H locs ls) : W p l e R s m args below meth c H locs cells slots Q (F0 m pc ls st) := by
  have key : ∀ (N : Nat) (x : σ) (H : Heap) (locs : List Loc) (ls : Array Slot), I x H locs ls → mu x < N → W p l e R s m args below meth c H locs cells slots Q (F0 m pc ls st) := by
    intro N
    induction N with
    | zero => intro x H locs ls _ h; exact absurd h (Nat.not_lt_zero _)
    | succ N ih => intro x H locs ls h1 h2; exact hs N ih x H locs ls h1 h2
  exact key (mu x + 1) x H locs ls h (Nat.lt_succ_self _)
/-- a place where roads meet -/
theorem gx_cut {σ : Type} (I : σ → Heap → List Loc → Array Slot → Prop) (pc2 : Nat) (st2 : σ → List Value)
    (hm : (∀ (x : σ) (H : Heap) (locs : List Loc) (ls : Array Slot), I x H locs ls → W p l e R s m args below meth c H locs cells slots Q (F0 m pc2 ls (st2 x))) → W p l e R s m args below meth c H locs cells slots Q (F0 m pc ls rest))
    (hk : ∀ (x : σ) (H : Heap) (locs : List Loc) (ls : Array Slot), I x H locs ls → W p l e R s m args below meth c H locs cells slots Q (F0 m pc2 ls (st2 x))) : W p l e R s m args below meth c H locs cells slots Q (F0 m pc ls rest) := hm hk
end GXA
theorem pb_us {f : Nat → UInt64} {k : Nat} {x : UInt64} : vf_upd f k x k = x := by simp [vf_upd]
theorem pb_uu {f : Nat → UInt64} {k : Nat} {x y : UInt64} : vf_upd (vf_upd f k x) k y = vf_upd f k y := by
  funext j
  unfold vf_upd
  by_cases h : j = k <;> simp [h]
theorem pb_un {f : Nat → UInt64} {k j : Nat} {x : UInt64} (h : j ≠ k) : vf_upd f k x j = f j := by simp [vf_upd, h]
theorem pb_ius {f : Nat → Int32} {k : Nat} {x : Int32} : upd f k x k = x := by simp [upd]
theorem pb_iun {f : Nat → Int32} {k j : Nat} {x : Int32} (h : j ≠ k) : upd f k x j = f j := by simp [upd, h]
/-- whole numbers in an array of ints -/
abbrev pb_n (f : Nat → Nat) : Nat → Int32 := fun i => nI (f i)
theorem pb_n_upd (f : Nat → Nat) (k v : Nat) : upd (pb_n f) k (nI v) = pb_n (fun j => if j = k then v else f j) := by
  funext j
  unfold upd pb_n
  by_cases h : j = k <;> simp [h]
