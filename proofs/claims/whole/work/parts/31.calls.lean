/-! contracts of methods that may throw, their calls and their catches -/
section TC
variable {p : Program} {l : Launch} {e : Env} {R : Room} {s : State} {m : MethodId} {args : Array Value} {below : List Frame} {meth : Method} {c : Code} {T : State} {H : Heap} {locs : List Loc} {cells slots : Nat} {Q : State → Prop}
variable {cc bytes : ByteArray} {pc nL maxL index n mc ms : Nat} {ls : Array Slot} {rest st0 As : List Value} {A : Nat → Prop} {Ts w : List Cond} {own C : String} {y : MethodName} {rm : Room} {ret : Option FieldType} {b : Nat}
variable {D : va_G} {cl : List vw_C} {tys : List (ClassId × FieldType)} {ws wc wr : va_W}
def th_Met (l : Launch) (y : MethodName) (ws : List Cond) (rm : Room) (Pc : Array Value → State → Prop) (Qo : Array Value → State → Outcome → State → Prop) (mc ms : Nat) (free : Addr → Prop) : Prop :=
  MetFree l y (headSpec ws rm) Pc (fun _ _ _ _ _ => True) (fun a st o t => Qo a st o t ∧ ∃ L, st.WarmedH t.vm ∧ st.sameButNew ({ t with vm := st.vm } : State) L mc ms ∧ ∀ q ∈ L, free q.base)
theorem th_ofW {wl : List Cond} {Pc : Array Value → State → Prop} {Qo : Array Value → State → Outcome → State → Prop} {free : Addr → Prop} (hy : plainName y.cls = true)
    (hspec : ∀ (args : Array Value) (s : State) (m : MethodId), (allAtoms wl).before args s = true → s.methodNamed? y = some m → ∃ meth c, s.vm.method? m = some meth ∧ meth.code = some c ∧ c.code = cc ∧ c.maxLocals = maxL ∧ meth.sig.returnType = ret ∧ meth.locks = false)
    (body : ∀ p e s m args below meth c s₁, BodyLoose p l y (headSpec wl rm) cc maxL ret e s m args below meth c s₁ → c.maxLocals = maxL → Pc args s →
      W p l e (headSpec wl rm).room s m args below meth c s.heap [] 0 0 (th_MQ below Qo args s mc ms free) (entryFrame m args maxL)) : th_Met l y wl rm Pc Qo mc ms free := by
  refine MetFree.of_bodyS (code := cc) (maxLocals := maxL) (ret := ret) hy hspec ?_
  intro p e s m args below meth c s₁ B hml hP _
  have hh0 : s₁.heap = s.heap := by rw [B.state]; rfl
  obtain ⟨t, a1, o, b1, b2, b3, b4⟩ := body p e s m args below meth c s₁ B hml hP s₁ hh0 (Stand.of_body B)
  exact ⟨t, o, a1, b1, b2, b3, b4⟩
theorem th_spec {ws' : List Cond} (args : Array Value) (s : State) (m : MethodId) (h : (allAtoms (Cond.code y cc maxL ret :: ws')).before args s = true) (hn : s.methodNamed? y = some m) :
    ∃ meth c, s.vm.method? m = some meth ∧ meth.code = some c ∧ c.code = cc ∧ c.maxLocals = maxL ∧ meth.sig.returnType = ret ∧ meth.locks = false := by
  obtain ⟨meth, c, h1, h2, h3, h4, h5, h6, -, -⟩ := Cond.code_spec hn (atoms_spec (ws := Cond.code y cc maxL ret :: ws') h _ List.mem_cons_self)
  exact ⟨meth, c, h1, h2, h3, h4, h5, h6⟩
theorem th_specH {ws' : List Cond} {hh : List (Nat × Nat × Nat × Nat)} (args : Array Value) (s : State) (m : MethodId) (h : (allAtoms (Cond.codeWith y cc maxL ret hh :: ws')).before args s = true) (hn : s.methodNamed? y = some m) :
    ∃ meth c, s.vm.method? m = some meth ∧ meth.code = some c ∧ c.code = cc ∧ c.maxLocals = maxL ∧ meth.sig.returnType = ret ∧ meth.locks = false := by
  obtain ⟨m', meth, c, hn', h1, h2, h3, h4, -, h5, h6, -⟩ := Cond.codeWith_spec (atoms_spec (ws := Cond.codeWith y cc maxL ret hh :: ws') h _ List.mem_cons_self)
  cases hn.symm.trans hn'
  exact ⟨meth, c, h1, h2, h3, h4, h5, h6⟩
/-- a method with handlers: its table -/
theorem th_table {S : Spec} {s₁ : State} {hh : List (Nat × Nat × Nat × Nat)} (B : BodyLoose p l y S cc maxL ret e s m args below meth c s₁) (h : (Cond.codeWith y cc maxL ret hh).before args s = true) :
    c.exceptionTable.toList.map (fun h => (h.startPc, h.endPc, h.handlerPc, h.catchType)) = hh := by
  obtain ⟨m', meth', c', hn', hm', hc', -, -, ht, -, -, -⟩ := Cond.codeWith_spec h
  cases B.named.symm.trans hn'
  cases B.method.symm.trans hm'
  cases (Stand.of_body B).code.symm.trans hc'
  exact ht
abbrev th_B (D : va_G) (cl : List vw_C) (tys : List (ClassId × FieldType)) (ws : va_W) (sz : Nat) (U : State) : Prop := gx_B D cl tys ws sz U ∧ th_G (va_A ws sz) U
theorem th_blind {sz : Nat} : FrameBlind (va_Pc As (th_B D cl tys ws sz)) := fun a U g mk q => by
  obtain ⟨q0, q1, q2⟩ := q
  have h := gx_blind (D := D) (cl := cl) (tys := tys) (ws := ws) (sz := sz) (As := As) a U g mk ⟨q0, q1⟩
  exact ⟨h.1, h.2, q2⟩
def th_X {S : Type} (px : String → S → Prop) (B : S → State → Prop) (A : Nat → Prop) (st : State) (x : Addr) (t : State) : Prop := (∃ (E : String) (u : S) (ce : Cell), px E u ∧ t.heap[x]? = some ce ∧ ce.vm = .none ∧ st.vm.findClass E = some ce.cls ∧ B u t) ∧ va_F A st t
/-- what comes back: an answer (f: how it lies on the stack), or a throw -/
def th_Qo {α S SX : Type} (f : α → Option Value) (post : α → S → Prop) (B : S → State → Prop) (px : String → SX → Prop) (BX : SX → State → Prop) (A : Nat → Prop) : Array Value → State → Outcome → State → Prop := fun _ st o t =>
  match o with
  | .returned v => (∃ (r : α) (u : S), v = f r ∧ post r u ∧ B u t) ∧ va_F A st t
  | .threw x => th_X px BX A st x t
/-- the call itself -/
theorem th_call (X : Stand p l e R s m args below meth c T locs cells slots) {g : JFrame} (hg : g.method = m) (hsize : g.locals.size = c.maxLocals) {ig : Instr} {len : Nat} (hdg : decode c.code g.pc = .ok (ig, len))
    {wl : List Cond} {Pc : Array Value → State → Prop} {Qo : Array Value → State → Outcome → State → Prop} {free : Addr → Prop} (hM : th_Met l y wl rm Pc Qo mc ms free) (hrc : rm.cells = mc) (hrs : rm.slots = ms)
    {mk : MethodId} {methY : Method} {cY : Code} (hn : T.methodNamed? y = some mk) (hmY : T.vm.method? mk = some methY) (hcY : methY.code = some cY) {a : Array Value} (hini : (Cond.initialized y.cls).before a T = true)
    (hframes : rm.frames + 1 ≤ R.frames) (hloc : 2 * g.monitorRoom + (g.stack.map fun v => v.category).sum + (cY.maxLocals + 11) + rm.locals ≤ R.locals) (h3 : cells + mc ≤ R.cells) (h4 : slots + ms ≤ R.slots)
    (hws : ∀ w ∈ wl, w.before a T = true) (hP : Pc a (T.calling g mk a)) :
    ∃ (o : Outcome) (t T' : State) (L : List Loc), Qo a (T.calling g mk a) o t ∧ (∀ q ∈ L, free q.base) ∧ Stand p l e R s m args below meth c T' (locs ++ L) (cells + mc) (slots + ms) ∧ T'.heap = t.heap ∧ T'.vm = t.vm ∧
      (∀ v, o = .returned v → Steps p.tables e below (doInvoke e (T.setTop g) [] mk a).1 (T'.setTop { g with pc := g.pc + len, stack := v.toList ++ g.stack })) ∧
      (∀ x, o = .threw x → Steps p.tables e below (doInvoke e (T.setTop g) [] mk a).1 ((T'.setTop g).pushFrame (.throwing x))) := by
  obtain ⟨kY, hkY, -⟩ := className_of_methodNamed hn
  have hinitY : kY.init = .initialized := Cond.initialized_spec (findClass_of_methodNamed hn) hkY hini
  have h : At T g.method c below := by rw [hg]; exact X.here
  have happ : (headSpec wl rm).appliesLoose y e.platform (T.calling g mk a) = true :=
    Spec.appliesLoose_calling (g := g) h hdg hn hkY hinitY (X.room_calling (g := g) (R' := rm) hsize hmY hcY hframes hloc (by rw [hrc]; exact h3) (by rw [hrs]; exact h4)) (atoms_intro hws)
  obtain ⟨mid, hmid⟩ := h.above
  have hfr : (T.setTop g).frames = (.java g :: mid) ++ below := by rw [State.frames_setTop' g h.top, hmid]; rfl
  obtain ⟨o, s₂, hsteps, -, hend, hq, L, hW, hsame, hL⟩ := Steps.callFree hM p X.admits X.cas X.clock (acts := []) hfr happ hP trivial
  rw [State.frames_setTop' g h.top, X.tail] at hend
  cases o with
  | returned v =>
    obtain ⟨T', X', hW', -, ht⟩ := X.outOf hg hdg hend hW hsame
    refine ⟨_, s₂, T', L, hq, hL, X', ?_, ?_, fun v' hv => ?_, fun x hx => by cases hx⟩
    · rw [ht]; simp [State.setTop, State.modifyTopJava, State.setFrames]
    · rw [ht]; simp [State.setTop, State.modifyTopJava, State.setFrames]
    · cases hv
      rw [← ht]
      exact hsteps
  | threw x =>
    obtain ⟨T', X', hW', -, ht⟩ := X.outOfThrown hg hend hW hsame
    refine ⟨_, s₂, T', L, hq, hL, X', ?_, ?_, fun v' hv => (by cases hv), fun x' hx => ?_⟩
    · rw [ht, throwing_heap]
    · rw [ht, throwing_vm]
    · cases hx
      rw [← ht]
      exact hsteps
/-- behind the link: the frame rule over both ends -/
theorem th_go {α S SX : Type} {f : α → Option Value} {post : α → S → Prop} {w1 : S → va_W} {px : String → SX → Prop} {wx : SX → va_W} {vm₁ : Vm} {ig : Instr} {mk : MethodId} {methY : Method} {cY : Code}
    (hT : T.heap = H) (hb : c.code = cc) (X : Stand p l e R s m args below meth c (T.setVm vm₁) locs cells slots) (hN : gx_N s) (hG : th_G A s) (hK : va_K D cl tys s) (hP : va_P D cl ws H) (hD : va_D A ws) (hS : va_S A s.heap H locs) (hA : ∀ q, s.heap.size ≤ q → A q)
    (isC isR : List Nat) (hC : isC.map (fun i => ws[i]?) = wc.map some) (hR : isR.map (fun i => ws[i]?) = wr.map some) (hnd : (va_nd isR && va_nd isC && isR.all (fun i => !isC.contains i)) = true)
    (hM : th_Met l y w rm (va_Pc As (th_B D cl tys wc H.size)) (th_Qo f post (fun u t => gx_E D cl tys (va_A wc H.size) (w1 u) t) px (fun u t => gx_E D cl tys (va_A wc H.size) (wx u) t) (va_A wc H.size)) mc ms (va_A wc H.size))
    (hrc : rm.cells = mc) (hrs : rm.slots = ms) (hfr : rm.frames + 1 ≤ R.frames) (hlo : 8 + (maxL + 11) + rm.locals ≤ R.locals) (hws : ∀ z ∈ w, ∀ (a' : Array Value) (U : State), s.WarmedH U.vm → z.before a' U = true) (hini : (Cond.initialized y.cls).before args s = true)
    (hnamed : s.methodNamed? y = some mk) (hmY : s.vm.method? mk = some methY) (hcY : methY.code = some cY) (hloc : cY.maxLocals = maxL) (hsize : ls.size = c.maxLocals) (hW : (rest.map fun v => v.category).sum ≤ 8) (hdg : decode cc pc = .ok (ig, 3)) (hf : cells + mc ≤ R.cells ∧ slots + ms ≤ R.slots)
    (hst : ∀ target, Steps p.tables e below (doInvoke e ((T.setVm vm₁).setTop (F0 m pc ls rest)) [] mk As.toArray).1 target → Steps p.tables e below (T.setTop (F0 m pc ls st0)) target)
    (k : ∀ (r : α) (u : S) (H1 : Heap) (locs1 : List Loc), post r u → va_P D cl (wr ++ w1 u) H1 → va_D A (wr ++ w1 u) → va_S A s.heap H1 locs1 → W p l e R s m args below meth c H1 locs1 (cells + mc) (slots + ms) Q (F0 m (pc + 3) ls ((f r).toList ++ rest)))
    (kx : ∀ (E : String) (u : SX) (x : Nat) (ce : Cell) (H1 : Heap) (locs1 : List Loc), px E u → va_P D cl (wr ++ wx u) H1 → va_D A (wr ++ wx u) → va_S A s.heap H1 locs1 → H1[x]? = some ce → ce.vm = .none → s.vm.findClass E = some ce.cls → th_W p l e R s m args below meth c H1 locs1 (cells + mc) (slots + ms) Q (F0 m pc ls rest) x) :
    ∃ t, Steps p.tables e below (T.setTop (F0 m pc ls st0)) t ∧ Q t := by
  simp only [Bool.and_eq_true, List.all_eq_true] at hnd
  obtain ⟨⟨h1, h2⟩, h3⟩ := hnd
  have hdis : ∀ i ∈ isR, i ∉ isC := fun i hi hc => by have := h3 i hi; simp [hc] at this
  have hfree := va_free hD hS hA isC hC
  have hTv : (T.setVm vm₁).heap = H := hT
  have hpre : va_Pc As (th_B D cl tys wc H.size) As.toArray (T.setVm vm₁) := by
    obtain ⟨z1, z2⟩ := gx_pre (As := As) hN hK hP hD hC h2 (T.setVm vm₁) hTv X.warmed
    exact ⟨z1, z2, hG.sub X.warmed hTv hS hfree⟩
  obtain ⟨o, t, T', L, hq, hL, X', e1, e2, g1, g2⟩ := th_call X (g := F0 m pc ls rest) rfl hsize (by rw [hb]; exact hdg) hM hrc hrs (X.named hnamed) (by rw [X.warmed.alike.method?]; exact hmY) hcY (a := As.toArray)
    (word_at X.warmed (Or.inl (by first | rfl | simp [Cond.onTables, Cond.keeps, Cond.steady])) hini) hfr (by
      have h0 := lv_room (m := m) (pc := pc) (ls := ls) (rest := rest) hW
      rw [hloc]
      have h9 : 2 * (F0 m pc ls rest).monitorRoom + ((F0 m pc ls rest).stack.map fun v => v.category).sum ≤ 8 := h0
      omega) hf.1 hf.2 (fun z hz => hws z hz _ _ X.warmed) (th_blind _ _ _ _ hpre)
  have step : ∀ (hF : va_F (va_A wc H.size) ((T.setVm vm₁).calling (F0 m pc ls rest) mk As.toArray) t), H.size ≤ T'.heap.size ∧ (∀ q : Nat, q < H.size → ¬ va_A wc H.size q → T'.heap[q]? = H[q]?) ∧ va_S A s.heap T'.heap (locs ++ L) := fun hF => by
    have z1 : H.size ≤ T'.heap.size := by rw [e1, ← hT]; exact hF.1
    have z2 : ∀ q : Nat, q < H.size → ¬ va_A wc H.size q → T'.heap[q]? = H[q]? := fun q a1 a2 => by
      rw [e1, ← hT]
      exact hF.2 q (by show q < T.heap.size; rw [hT]; exact a1) a2
    refine ⟨z1, z2, Nat.le_trans hS.1 z1, fun q a1 a2 => ?_, fun q hq => ?_⟩
    · rw [z2 q (Nat.lt_of_lt_of_le a1 hS.1) (fun z => a2 (hfree q z))]
      exact hS.2.1 q a1 a2
    · rcases List.mem_append.mp hq with h | h
      · exact hS.2.2 q h
      · exact hfree _ (hL q h)
  cases o with
  | returned v =>
    obtain ⟨⟨r, u, rfl, hpo, hE⟩, hF⟩ := hq
    obtain ⟨z1, z2, z3⟩ := step hF
    obtain ⟨hP1, hD1⟩ := gx_post hP hD hS hA hC hR h1 hdis z2 e1.symm hE
    obtain ⟨t2, a1, b1⟩ := k r u T'.heap _ hpo hP1 hD1 z3 T' rfl X'
    exact ⟨t2, hst _ ((g1 _ rfl).trans a1), b1⟩
  | threw x =>
    obtain ⟨⟨E, u, ce, hpo, hce, hcv, hcl, hE⟩, hF⟩ := hq
    obtain ⟨z1, z2, z3⟩ := step hF
    obtain ⟨hP1, hD1⟩ := gx_post hP hD hS hA hC hR h1 hdis z2 e1.symm hE
    have hcl' : (T.setVm vm₁).vm.findClass E = some ce.cls := hcl
    rw [X.warmed.alike.findClass] at hcl'
    obtain ⟨t2, a1, b1⟩ := kx E u x ce T'.heap _ hpo hP1 hD1 z3 (by rw [e1]; exact hce) hcv hcl' T' rfl X'
    exact ⟨t2, hst _ ((g2 _ rfl).trans a1), b1⟩
theorem th_V {α S SX : Type} {f : α → Option Value} {post : α → S → Prop} {w1 : S → va_W} {px : String → SX → Prop} {wx : SX → va_W} (F : CallFix p m c cc nL s args Ts own) (hN : gx_N s) (hG : th_G A s) (hK : va_K D cl tys s) (hP : va_P D cl ws H) (hD : va_D A ws) (hS : va_S A s.heap H locs) (hA : ∀ q, s.heap.size ≤ q → A q)
    (isC isR : List Nat) (hC : isC.map (fun i => ws[i]?) = wc.map some) (hR : isR.map (fun i => ws[i]?) = wr.map some) (hnd : (va_nd isR && va_nd isC && isR.all (fun i => !isC.contains i)) = true)
    (hM : th_Met l y w rm (va_Pc (.ref b :: As) (th_B D cl tys wc H.size)) (th_Qo f post (fun u t => gx_E D cl tys (va_A wc H.size) (w1 u) t) px (fun u t => gx_E D cl tys (va_A wc H.size) (wx u) t) (va_A wc H.size)) mc ms (va_A wc H.size))
    (cw : CallW R s args own C index y bytes maxL ret w rm mc ms n) (q0 ci : Nat) {fs : List Value} {TT : u_T} {N : Nat} (hq : ws[q0]? = some (b, .inr (ci, fs))) (hci : cl[ci]? = some (C, TT, N))
    (hlen : As.length = n) (hsize : ls.size = nL) (hst : st0 = As.reverse ++ .ref b :: rest) (hW : (rest.map fun v => v.category).sum ≤ 8) (hdg : decode cc pc = .ok (.invokevirtual index, 3)) (hf : cells + mc ≤ R.cells ∧ slots + ms ≤ R.slots)
    (k : ∀ (r : α) (u : S) (H1 : Heap) (locs1 : List Loc), post r u → va_P D cl (wr ++ w1 u) H1 → va_D A (wr ++ w1 u) → va_S A s.heap H1 locs1 → W p l e R s m args below meth c H1 locs1 (cells + mc) (slots + ms) Q (F0 m (pc + 3) ls ((f r).toList ++ rest)))
    (kx : ∀ (E : String) (u : SX) (x : Nat) (ce : Cell) (H1 : Heap) (locs1 : List Loc), px E u → va_P D cl (wr ++ wx u) H1 → va_D A (wr ++ wx u) → va_S A s.heap H1 locs1 → H1[x]? = some ce → ce.vm = .none → s.vm.findClass E = some ce.cls → th_W p l e R s m args below meth c H1 locs1 (cells + mc) (slots + ms) Q (F0 m pc ls rest) x) :
    W p l e R s m args below meth c H locs cells slots Q (F0 m pc ls st0) := by
  intro T hT X
  obtain ⟨⟨hrc, hrs, hfr, hlo, hws, -, hcode, hini, hy, hln, hl⟩, hin, hse⟩ := cw
  obtain ⟨hx, hb, hml, ho, -⟩ := F
  obtain ⟨cellB, hcB, hoB, hclB⟩ := va_recv hK hP hci hq
  obtain ⟨mk, methM, hnamed, hmethM, hstM, habM⟩ := Cond.instanceMethod_spec hin
  obtain ⟨methM', cM, hmethM', hcM, -, hlM, -, -, -, hsigM⟩ := Cond.code_spec hnamed hcode
  cases hmethM.symm.trans hmethM'
  obtain ⟨c2, r2, m2, q1, q2, q3, q4, kP, hkP, hkPi⟩ := Cond.selects_spec hse
  cases hclB.symm.trans q1
  cases (State.methodFound?_of_named hnamed hy).symm.trans q2
  cases hnamed.symm.trans q3
  have hselP : selectMethod e.platform s.vm cellB.cls mk = .method mk := by rw [Launch.admits_selectMethod X.admits]; exact q4
  obtain ⟨vm₁, X₁, hstep₁⟩ := X.invokevirtual hx ho hl hnamed hmethM hstM hkP hkPi hy (a := b) (cell := cellB) (by rw [hT]; exact hcB)
    (fun z h => by rw [h] at hoB; cases hoB) hselP hmethM habM hkP hkPi (g := F0 m pc ls st0) rfl (argsL := As) (rest := rest) (hlen.trans (hln _ hsigM)) hst (by rw [hb]; exact hdg)
  exact th_go (As := .ref b :: As) hT hb X₁ hN hG hK hP hD hS hA isC isR hC hR hnd hM hrc hrs hfr hlo hws hini hnamed hmethM hcM hlM (hsize.trans hml.symm) hW hdg hf (fun target h => hstep₁ target fun acts => by rw [doInvoke_state]; exact h) k kx
theorem th_S {α S SX : Type} {f : α → Option Value} {post : α → S → Prop} {w1 : S → va_W} {px : String → SX → Prop} {wx : SX → va_W} (F : CallFix p m c cc nL s args Ts own) (hN : gx_N s) (hG : th_G A s) (hK : va_K D cl tys s) (hP : va_P D cl ws H) (hD : va_D A ws) (hS : va_S A s.heap H locs) (hA : ∀ q, s.heap.size ≤ q → A q)
    (isC isR : List Nat) (hC : isC.map (fun i => ws[i]?) = wc.map some) (hR : isR.map (fun i => ws[i]?) = wr.map some) (hnd : (va_nd isR && va_nd isC && isR.all (fun i => !isC.contains i)) = true)
    (hM : th_Met l y w rm (va_Pc As (th_B D cl tys wc H.size)) (th_Qo f post (fun u t => gx_E D cl tys (va_A wc H.size) (w1 u) t) px (fun u t => gx_E D cl tys (va_A wc H.size) (wx u) t) (va_A wc H.size)) mc ms (va_A wc H.size))
    (cw : CallB R s args own index y bytes maxL ret w rm mc ms n ∧ (Cond.static y).before args s = true)
    (hlen : As.length = n) (hsize : ls.size = nL) (hst : st0 = As.reverse ++ rest) (hW : (rest.map fun v => v.category).sum ≤ 8) (hdg : decode cc pc = .ok (.invokestatic index, 3)) (hf : cells + mc ≤ R.cells ∧ slots + ms ≤ R.slots)
    (k : ∀ (r : α) (u : S) (H1 : Heap) (locs1 : List Loc), post r u → va_P D cl (wr ++ w1 u) H1 → va_D A (wr ++ w1 u) → va_S A s.heap H1 locs1 → W p l e R s m args below meth c H1 locs1 (cells + mc) (slots + ms) Q (F0 m (pc + 3) ls ((f r).toList ++ rest)))
    (kx : ∀ (E : String) (u : SX) (x : Nat) (ce : Cell) (H1 : Heap) (locs1 : List Loc), px E u → va_P D cl (wr ++ wx u) H1 → va_D A (wr ++ wx u) → va_S A s.heap H1 locs1 → H1[x]? = some ce → ce.vm = .none → s.vm.findClass E = some ce.cls → th_W p l e R s m args below meth c H1 locs1 (cells + mc) (slots + ms) Q (F0 m pc ls rest) x) :
    W p l e R s m args below meth c H locs cells slots Q (F0 m pc ls st0) := by
  intro T hT X
  obtain ⟨⟨hrc, hrs, hfr, hlo, hws, -, hcode, hini, hy, hln, hl⟩, hstt⟩ := cw
  obtain ⟨hx, hb, hml, ho, -⟩ := F
  obtain ⟨mk, hnamed⟩ := Cond.code_named hcode
  obtain ⟨methM, cM, hmethM, hcM, -, hlM, -, -, -, hsigM⟩ := Cond.code_spec hnamed hcode
  have hstatic : methM.isStatic = true := Cond.static_spec hnamed hmethM hstt
  obtain ⟨kP, hkP, -⟩ := className_of_methodNamed hnamed
  have hinitP : kP.init = .initialized := Cond.initialized_spec (findClass_of_methodNamed hnamed) hkP hini
  obtain ⟨vm₁, X₁, hstep₁⟩ := X.invokestatic hx ho hl hnamed hmethM hstatic hkP hinitP hy (g := F0 m pc ls st0) rfl (argsL := As) (rest := rest) (hlen.trans (hln _ hsigM)) hst (by rw [hb]; exact hdg)
  exact th_go (As := As) hT hb X₁ hN hG hK hP hD hS hA isC isR hC hR hnd hM hrc hrs hfr hlo hws hini hnamed hmethM hcM hlM (hsize.trans hml.symm) hW hdg hf (fun target h => hstep₁ target fun acts => by rw [doInvoke_state]; exact h) k kx
/-- a static method with handlers -/
theorem th_SH {α S SX : Type} {f : α → Option Value} {post : α → S → Prop} {w1 : S → va_W} {px : String → SX → Prop} {wx : SX → va_W} {hh : List (Nat × Nat × Nat × Nat)} (F : CallFix p m c cc nL s args Ts own) (hN : gx_N s) (hG : th_G A s) (hK : va_K D cl tys s) (hP : va_P D cl ws H) (hD : va_D A ws) (hS : va_S A s.heap H locs) (hA : ∀ q, s.heap.size ≤ q → A q)
    (isC isR : List Nat) (hC : isC.map (fun i => ws[i]?) = wc.map some) (hR : isR.map (fun i => ws[i]?) = wr.map some) (hnd : (va_nd isR && va_nd isC && isR.all (fun i => !isC.contains i)) = true)
    (hM : th_Met l y w rm (va_Pc As (th_B D cl tys wc H.size)) (th_Qo f post (fun u t => gx_E D cl tys (va_A wc H.size) (w1 u) t) px (fun u t => gx_E D cl tys (va_A wc H.size) (wx u) t) (va_A wc H.size)) mc ms (va_A wc H.size))
    (hrc : rm.cells = mc) (hrs : rm.slots = ms) (hfr : rm.frames + 1 ≤ R.frames) (hlo : 8 + (maxL + 11) + rm.locals ≤ R.locals) (hws : ∀ z ∈ w, ∀ (a' : Array Value) (U : State), s.WarmedH U.vm → z.before a' U = true) (hini : (Cond.initialized y.cls).before args s = true)
    (hcode : (Cond.codeWith y bytes maxL ret hh).before args s = true) (hl : (Cond.methodLink own index y).before args s = true) (hstt : (Cond.static y).before args s = true) (hy : y.cls ≠ "java/lang/invoke/MethodHandle" ∧ y.cls ≠ "java/lang/invoke/VarHandle") (hln : (parseMethodDescriptor y.desc).map (fun d => d.parameters.length) = some As.length)
    (hsize : ls.size = nL) (hst : st0 = As.reverse ++ rest) (hW : (rest.map fun v => v.category).sum ≤ 8) (hdg : decode cc pc = .ok (.invokestatic index, 3)) (hf : cells + mc ≤ R.cells ∧ slots + ms ≤ R.slots)
    (k : ∀ (r : α) (u : S) (H1 : Heap) (locs1 : List Loc), post r u → va_P D cl (wr ++ w1 u) H1 → va_D A (wr ++ w1 u) → va_S A s.heap H1 locs1 → W p l e R s m args below meth c H1 locs1 (cells + mc) (slots + ms) Q (F0 m (pc + 3) ls ((f r).toList ++ rest)))
    (kx : ∀ (E : String) (u : SX) (x : Nat) (ce : Cell) (H1 : Heap) (locs1 : List Loc), px E u → va_P D cl (wr ++ wx u) H1 → va_D A (wr ++ wx u) → va_S A s.heap H1 locs1 → H1[x]? = some ce → ce.vm = .none → s.vm.findClass E = some ce.cls → th_W p l e R s m args below meth c H1 locs1 (cells + mc) (slots + ms) Q (F0 m pc ls rest) x) :
    W p l e R s m args below meth c H locs cells slots Q (F0 m pc ls st0) := by
  intro T hT X
  obtain ⟨hx, hb, hml, ho, -⟩ := F
  obtain ⟨mk, methM, cM, hnamed, hmethM, hcM, -, hlM, -, -, -, hsigM⟩ := Cond.codeWith_spec hcode
  have hstatic : methM.isStatic = true := Cond.static_spec hnamed hmethM hstt
  obtain ⟨kP, hkP, -⟩ := className_of_methodNamed hnamed
  have hinitP : kP.init = .initialized := Cond.initialized_spec (findClass_of_methodNamed hnamed) hkP hini
  rw [hsigM] at hln
  obtain ⟨vm₁, X₁, hstep₁⟩ := X.invokestatic hx ho hl hnamed hmethM hstatic hkP hinitP hy (g := F0 m pc ls st0) rfl (argsL := As) (rest := rest) (Option.some.inj hln).symm hst (by rw [hb]; exact hdg)
  exact th_go (As := As) hT hb X₁ hN hG hK hP hD hS hA isC isR hC hR hnd hM hrc hrs hfr hlo hws hini hnamed hmethM hcM hlM (hsize.trans hml.symm) hW hdg hf (fun target h => hstep₁ target fun acts => by rw [doInvoke_state]; exact h) k kx
end TC
