/-! rows for the law: longs, its loop, the reading of the script in a callee -/
abbrev gx_TL (cI cD cZ cJ : ClassId) : List (ClassId × FieldType) := [(cI, .int), (cD, .double), (cZ, .boolean), (cJ, .long)]
section GXL
variable {p : Program} {l : Launch} {e : Env} {R : Room} {s : State} {m : MethodId} {args : Array Value} {below : List Frame} {meth : Method} {c : Code} {H H0 : Heap} {locs : List Loc} {cells slots : Nat} {Q : State → Prop}
variable {cc bytes : ByteArray} {pc nL maxL index n mc ms : Nat} {ls : Array Slot} {rest st0 As : List Value} {A : Nat → Prop} {Ts w : List Cond} {own C : String} {y : MethodName} {rm : Room} {ret : Option FieldType} {b a : Nat}
variable {D : va_G} {cl : List vw_C} {tys : List (ClassId × FieldType)} {ws wc wr : va_W}
theorem gx_lald (hexec : p.tables.exec = Jvm.exec) (hb : c.code = cc) (hK : va_K D cl tys s) (hP : va_P D cl ws H) (q0 t0 : Nat) {cA : ClassId} {n i : Nat} {f : Nat → Int64} (ha : ws[q0]? = some (a, .inl (cA, n, .inr (.inl f)))) (ht : tys[t0]? = some (cA, .long)) (hi : i < n) (hn : n < 2 ^ 31) (hdg : decode cc pc = .ok (.laload, 1))
    (kk : W p l e R s m args below meth c H locs cells slots Q (F0 m (pc + 1) ls (.long (f i) :: rest))) : W p l e R s m args below meth c H locs cells slots Q (F0 m pc ls (.int (nI i) :: .ref a :: rest)) := by
  refine va_lald hexec hb hK hP q0 t0 ha ht (vp_in_nI hi hn) hdg ?_
  rw [nI_clamp (by omega)]
  exact kk
theorem gx_last (hexec : p.tables.exec = Jvm.exec) (hb : c.code = cc) (hK : va_K D cl tys s) (hP : va_P D cl ws H) (hD : va_D A ws) (hS : va_S A H0 H locs) (q0 t0 : Nat) {cA : ClassId} {n i : Nat} {f : Nat → Int64} (ha : ws[q0]? = some (a, .inl (cA, n, .inr (.inl f)))) (ht : tys[t0]? = some (cA, .long)) {x : Int64} (hi : i < n) (hn : n < 2 ^ 31) (hdg : decode cc pc = .ok (.lastore, 1))
    (kk : ∀ (H1 : Heap) (locs1 : List Loc), va_P D cl (ws.set q0 (a, .inl (cA, n, .inr (.inl (vp_updL f i x))))) H1 → va_D A (ws.set q0 (a, .inl (cA, n, .inr (.inl (vp_updL f i x))))) → va_S A H0 H1 locs1 → W p l e R s m args below meth c H1 locs1 cells slots Q (F0 m (pc + 1) ls rest)) : W p l e R s m args below meth c H locs cells slots Q (F0 m pc ls (.long x :: .int (nI i) :: .ref a :: rest)) := by
  refine va_last hexec hb hK hP hD hS q0 t0 ha ht (vp_in_nI hi hn) hdg ?_
  rw [nI_clamp (by omega)]
  exact kk
/-- a loop whose room grows -/
theorem gx_loopc {σ : Type} (I : σ → Heap → List Loc → Array Slot → Prop) (mu cf sf : σ → Nat) {st : List Value}
    (hs : ∀ N : Nat, (∀ (x : σ) (H : Heap) (locs : List Loc) (ls : Array Slot), I x H locs ls → mu x < N → W p l e R s m args below meth c H locs (cf x) (sf x) Q (F0 m pc ls st)) → ∀ (x : σ) (H : Heap) (locs : List Loc) (ls : Array Slot), I x H locs ls → mu x < N + 1 → W p l e R s m args below meth c H locs (cf x) (sf x) Q (F0 m pc ls st))
    (x : σ) (h : I x H locs ls) (hc : cells ≤ cf x) (hsl : slots ≤ sf x) : W p l e R s m args below meth c H locs cells slots Q (F0 m pc ls st) := by
  have key : ∀ (N : Nat) (x : σ) (H : Heap) (locs : List Loc) (ls : Array Slot), I x H locs ls → mu x < N → W p l e R s m args below meth c H locs (cf x) (sf x) Q (F0 m pc ls st) := by
    intro N
    induction N with
    | zero => intro x H locs ls _ h; exact absurd h (Nat.not_lt_zero _)
    | succ N ih => intro x H locs ls h1 h2; exact hs N ih x H locs ls h1 h2
  exact W.widen hc hsl (key (mu x + 1) x H locs ls h (Nat.lt_succ_self _))
/-- what the law's cell takes -/
abbrev lw_Bc (D : va_G) (cl : List vw_C) (tys : List (ClassId × FieldType)) (b L : Nat) (xs : Nat → Int32) (sz : Nat) (U : State) : Prop := gx_B D cl tys [] sz U ∧ va_X b L xs U U.heap ∧ b < sz
theorem lw_blind {b L : Nat} {xs : Nat → Int32} {sz : Nat} : FrameBlind (va_Pc As (lw_Bc D cl tys b L xs sz)) := fun a U g mk q => by
  obtain ⟨q0, q1, q2, q3⟩ := q
  have h := gx_blind (D := D) (cl := cl) (tys := tys) (ws := []) (sz := sz) (As := As) a U g mk ⟨q0, q1⟩
  exact ⟨h.1, h.2, va_X.moved (u := U) (U := U.calling g mk a) (Vm.Alike.refl U.vm) q2, q3⟩
theorem gx_cell {S : Type} {post : Int32 → S → Prop} {b L : Nat} {xs : Nat → Int32} (F : CallFix p m c cc nL s args Ts own) (hN : gx_N s) (hK : va_K D cl tys s) (hP : va_P D cl ws H) (hD : va_D A ws) (hS : va_S A s.heap H locs) (hA : ∀ q, s.heap.size ≤ q → A q) (hX : va_X b L xs s s.heap) (hbl : b < s.heap.size) (hbA : ¬ A b)
    (isR : List Nat) (hR : isR.map (fun i => ws[i]?) = wr.map some) (hnd : va_nd isR = true)
    (hM : Met l y w rm (va_Pc As (lw_Bc D cl tys b L xs H.size)) (va_Qi post (fun _ t => gx_E D cl tys (va_A [] H.size) [] t) (va_A [] H.size)) mc ms (va_A [] H.size))
    (cw : CallB R s args own index y bytes maxL ret w rm mc ms n ∧ (Cond.static y).before args s = true)
    (hlen : As.length = n) (hsize : ls.size = nL) (hst : st0 = As.reverse ++ rest) (hW : (rest.map fun v => v.category).sum ≤ 8) (hdg : decode cc pc = .ok (.invokestatic index, 3)) (hf : cells + mc ≤ R.cells ∧ slots + ms ≤ R.slots)
    (k : ∀ (r : Int32) (u : S) (H1 : Heap) (locs1 : List Loc), post r u → va_P D cl (wr ++ []) H1 → va_D A (wr ++ []) → va_S A s.heap H1 locs1 → W p l e R s m args below meth c H1 locs1 (cells + mc) (slots + ms) Q (F0 m (pc + 3) ls (.int r :: rest))) :
    W p l e R s m args below meth c H locs cells slots Q (F0 m pc ls st0) := by
  have hdis : ∀ i ∈ isR, i ∉ ([] : List Nat) := fun i _ h => by cases h
  refine va_calli (va_runS (As := As) (rest := rest) F hM cw ⟨lw_blind, fun U hU hW => ?_⟩ rfl hlen hsize hst (lv_room hW) hdg hf) hS (fun q _ h => va_free hD hS hA [] rfl q h) (va_free hD hS hA [] rfl) (fun r u t H1 locs1 ht hvm hw hB hz1 hk1 hS1 => ?_)
  · obtain ⟨z1, z2⟩ := gx_pre (As := As) (isC := []) (wc := []) hN hK hP hD rfl rfl U hU hW
    exact ⟨z1, z2, va_X.moved hW.alike (hX.kept (by rw [hU]; exact hS.2.1 b hbl hbA)), Nat.lt_of_lt_of_le hbl hS.1⟩
  · obtain ⟨hP1, hD1⟩ := gx_post (isC := []) (wc := []) (S := S) (w1 := fun _ => []) (u := u) hP hD hS hA rfl hR hnd hdis hk1 ht hB
    exact k r u H1 locs1 hw hP1 hD1 hS1
end GXL
theorem pb_Lus {f : Nat → Int64} {k : Nat} {x : Int64} : vp_updL f k x k = x := by simp [vp_updL]
