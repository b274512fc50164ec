/-! methods that may throw: rows of ours over the library (Stand, ThrowLaws, BundleOwnThrow) -/
section TH
variable {p : Program} {l : Launch} {e : Env} {R : Room} {s : State} {m : MethodId} {args : Array Value} {below : List Frame} {meth : Method} {c : Code} {T : State} {H : Heap} {locs : List Loc} {cells slots : Nat} {Q : State → Prop}
/-- the walk's base laid anew where it stands -/
theorem th_base (X : Stand p l e R s m args below meth c T locs cells slots) {R' : Room} (h1 : R'.frames ≤ R.frames) (h2 : R'.locals ≤ R.locals) (h3 : cells + R'.cells ≤ R.cells) (h4 : slots + R'.slots ≤ R.slots) :
    Stand p l e R' (T.setFrames (.invoking m args :: below)) m args below meth c T [] 0 0 := by
  obtain ⟨g₀, hfr⟩ := X.frames_eq
  have hcur : T.cur < T.threads.size := State.cur_lt_of_frames hfr
  have hF : (T.setFrames (.invoking m args :: below)).frames = .invoking m args :: below := State.frames_setFrames _ hcur
  have hm : (T.setFrames (.invoking m args :: below)).vm.method? m = some meth := X.method'
  have hmm : ∀ z, (T.setFrames (.invoking m args :: below)).vm.method? z = s.vm.method? z := fun z => X.warmed.alike.method? z
  have hcc : ∀ z, (T.setFrames (.invoking m args :: below)).code? z = s.code? z := fun z => by rw [State.code?_eq, State.code?_eq, hmm]
  obtain ⟨th, hth, -⟩ := State.frames_cons hF
  refine ⟨X.admits, X.cas, X.clock, hF, ?_, ?_, hm, X.code, X.here, X.tail, State.WarmedH.refl (T.setFrames (.invoking m args :: below)), (State.stackLimits_setFrames ..).symm, (State.stackBytes_setFrames ..).symm, ?_⟩
  · obtain ⟨r1, r2, r3, r4⟩ := State.hasRoom_stack X.room
    have r5 := State.hasRoom_real X.room
    have h := X.room
    simp only [State.hasRoom, Bool.and_eq_true, decide_eq_true_eq] at h
    rw [State.localsInUse_invoking X.frames X.method X.code] at r3 r4 r5
    rw [X.frames, List.length_cons] at r1 r2
    have u1 := X.heapSize
    have u2 := X.used
    have hl := State.localsInUse_invoking hF hm X.code
    simp only [State.hasRoom, Bool.and_eq_true, decide_eq_true_eq, hF, hl, List.length_cons, State.stackLimits_setFrames, State.stackBytes_setFrames, X.limits, X.bytes]
    refine ⟨⟨⟨⟨by omega, by omega, by omega, by omega, by omega, h.1.1.1.2.2.2.2.2⟩, ?_⟩, ?_⟩, X.book⟩
    · show T.heap.size + R'.cells ≤ _
      have := h.1.1.2
      omega
    · show T.slotsUsed + R'.slots ≤ _
      have := h.1.2
      omega
  · have h := X.hears
    have hE : (T.setFrames (.invoking m args :: below)).hears m below = s.hears m below := by
      generalize (T.setFrames (.invoking m args :: below)) = V at hcc hmm
      cases below with
      | nil => simp [State.hears, hmm]
      | cons f r => cases f <;> simp [State.hears, hcc, hmm]
    rw [hE]
    exact h
  · have h := (State.sameButNew.refl (T.setFrames (.invoking m args :: below)) hth).setFrames T.frames (State.cur_lt_of_frames hF)
    obtain ⟨th2, hth2, -⟩ := State.frames_cons hfr
    rw [State.setFrames_setFrames, State.setFrames_self hth2] at h
    exact h
/-- from a base laid anew back to the old one -/
theorem th_back {U : State} {L : List Loc} {k n : Nat} (X : Stand p l e R s m args below meth c T locs cells slots) {F : List Frame} (h : (T.setFrames F).sameButNew ({ U with vm := (T.setFrames F).vm } : State) L k n) :
    s.sameButNew ({ U with vm := s.vm } : State) (locs ++ L) (cells + k) (slots + n) := by
  obtain ⟨e1, q⟩ := h
  have hB : T.sameButNew ({ U with vm := T.vm } : State) L k n := ⟨by
    refine e1.trans ?_
    rw [State.setFrames_setFrames]
    rfl, q⟩
  exact X.same.trans (hB.setVm s.vm)
/-- what did not change -/
theorem th_old {S U : State} {k n : Nat} (h : S.sameButNew ({ U with vm := S.vm } : State) [] k n) (q : Nat) (hq : q < S.heap.size) : U.heap[q]? = S.heap[q]? := by
  obtain ⟨-, -, -, -, -, q6⟩ := h
  have hc : S.heap[q]? = some S.heap[q] := Array.getElem?_eq_getElem hq
  obtain ⟨c', h1, h2, h3, h4⟩ := q6 q _ hc
  have h5 : c'.slots = S.heap[q].slots := Array.ext_getElem? (fun i => h4 i (by simp))
  have h6 : c' = S.heap[q] := by rw [h2, h5]
  rw [hc, ← h6]
  exact h1
theorem th_ldcw (X : Stand p l e R s m args below meth c T locs cells slots) (hexec : p.tables.exec = Jvm.exec) {own tx : String} {index a : Nat} (hown : s.vm.findClass own = some m.cls)
    (hZ : vk_R own index tx a s) {g : JFrame} (hg : g.method = m) (hdg : decode c.code g.pc = .ok (.ldc_w index, 3)) :
    ∀ target, Steps p.tables e below (T.setTop { g with pc := g.pc + 3, stack := .ref a :: g.stack }) target → Steps p.tables e below (T.setTop g) target := by
  obtain ⟨k, cf, i, a', hk, hcf, hcp, -, hr, hev'⟩ := Cond.stringRef_spec hown hZ.1
  cases hZ.2.symm.trans hev'
  obtain ⟨k', hk', he⟩ := X.warmed.alike.2.2 _ _ hk
  have hr' : k'.resolved[index]? = some (some (.string a)) := by
    rcases X.warmed.entry hk hk' index with h | ⟨h, -⟩
    · rw [h]; exact hr
    · rw [hr] at h; cases h
  intro target hrest
  subst hg
  jvm_step X.here [hexec, hdg, ldc_w.wp_string (e := e) (s := T) (f := g) X.here.top hk' (by rw [he]; exact hcf) hcp hr']
  exact hrest
/-- the words on Throwable's statics, and those on the exceptions that no word of the kit carries along -/
def th_four : List Cond := [.laysStatic Bundle.tN "UNASSIGNED_STACK" Bundle.steD, .laysStatic Bundle.tN "SUPPRESSED_SENTINEL" Bundle.listD, .isRef (.static Bundle.tN "UNASSIGNED_STACK" Bundle.steD), .isRef (.static Bundle.tN "SUPPRESSED_SENTINEL" Bundle.listD),
  .declares (Bundle.initS "java/lang/RuntimeException"), .declares (Bundle.initS "java/lang/Exception"), .declares (Bundle.initS Bundle.tN), .castable "java/lang/IllegalArgumentException" "java/lang/IllegalArgumentException", .castable "java/lang/IllegalStateException" "java/lang/IllegalStateException", .castable "java/lang/ArithmeticException" "java/lang/ArithmeticException"]
def th_strs : List (Nat × String) := [(125, "no room for another atom"), (196, "no room for another bond"), (201, "no room for another rod"), (207, "there are no atoms"), (220, "overlap, stiff or blown"), (277, "a number is out of range or an atom is not there"), (283, "two atoms overlap")]
/-- what a throw needs of the statics and of the texts -/
def th_prs : List (String × String) := [("java/lang/IllegalStateException", "java/lang/IllegalArgumentException"), ("java/lang/ArithmeticException", "java/lang/IllegalArgumentException"), ("java/lang/ArithmeticException", "java/lang/IllegalStateException")]
def th_Ok (V : State) : Prop := (∀ (a : Array Value) (w : Cond), w ∈ th_four → w.before a V = true) ∧ (∀ z ∈ th_strs, ∃ q, vk_R R_Box z.1 z.2 q V) ∧ ∀ z ∈ th_prs, va_Nc z.1 z.2 V
/-- it holds, and will hold as long as Throwable's statics, which lie outside A, are as they are -/
def th_G (A : Nat → Prop) (U : State) : Prop := ∃ (aS : Nat) (cell : Cell), aS < U.heap.size ∧ ¬ A aS ∧ U.heap[aS]? = some cell ∧ ∀ V : State, U.WarmedH V.vm → V.heap[aS]? = some cell → th_Ok V
theorem th_G.ok {A : Nat → Prop} {U : State} (h : th_G A s) (hW : s.WarmedH U.vm) (hS : va_S A s.heap U.heap locs) : th_Ok U := by
  obtain ⟨aS, cell, h1, h2, h3, h4⟩ := h
  exact h4 U hW (by rw [hS.2.1 aS h1 h2]; exact h3)
theorem th_G.w {A : Nat → Prop} (h : th_G A s) {w : Cond} (hw : w ∈ th_four) : w.before args s = true := by
  obtain ⟨aS, cell, h1, h2, h3, h4⟩ := h
  exact (h4 s (State.WarmedH.refl s) h3).1 args w hw
theorem th_G.nc {A : Nat → Prop} (h : th_G A s) {z : String × String} (hz : z ∈ th_prs) : va_Nc z.1 z.2 s := by
  obtain ⟨aS, cell, h1, h2, h3, h4⟩ := h
  exact (h4 s (State.WarmedH.refl s) h3).2.2 z hz
theorem th_G.sub {A A' : Nat → Prop} {U : State} (h : th_G A s) (hW : s.WarmedH U.vm) (hU : U.heap = H) (hS : va_S A s.heap H locs) (hA : ∀ q, A' q → A q) : th_G A' U := by
  obtain ⟨aS, cell, h1, h2, h3, h4⟩ := h
  subst hU
  exact ⟨aS, cell, Nat.lt_of_lt_of_le h1 hS.1, fun h => h2 (hA _ h), by rw [hS.2.1 aS h1 h2]; exact h3, fun V hV hc => h4 V (State.WarmedH.trans hW hV) hc⟩
theorem th_G.calling {A : Nat → Prop} {U : State} {g : JFrame} {mk : MethodId} {a : Array Value} (h : th_G A U) : th_G A (U.calling g mk a) := h
/-- a body's end, by return or by throw -/
def th_MQ (below : List Frame) (Qo : Array Value → State → Outcome → State → Prop) (a : Array Value) (s : State) (mc ms : Nat) (free : Addr → Prop) : State → Prop := fun t =>
  ∃ o, t.status = .running ∧ Ended t below o ∧ Qo a s o t ∧ ∃ L, s.WarmedH t.vm ∧ s.sameButNew ({ t with vm := s.vm } : State) L mc ms ∧ ∀ q ∈ L, free q.base
theorem th_ret {Qo : Array Value → State → Outcome → State → Prop} {mc ms : Nat} {free : Addr → Prop} {g : JFrame} (k : W p l e R s m args below meth c H locs cells slots (MQ below Qo args s mc ms free) g) : W p l e R s m args below meth c H locs cells slots (th_MQ below Qo args s mc ms free) g := by
  intro T hT X
  obtain ⟨t, a1, o, b1, b2, b3, L, ⟨-, f1, f2⟩, f3⟩ := k T hT X
  exact ⟨t, a1, o, b1, b2, b3, L, f1, f2, f3⟩
theorem th_throw {cc : ByteArray} {ls : Array Slot} {st : List Value} {Qo : Array Value → State → Outcome → State → Prop} {mc ms : Nat} {free : Addr → Prop} {E tx : String} {names : List String} {ik si ic n pc : Nat} {A : Nat → Prop}
    (hexec : p.tables.exec = Jvm.exec) (hb : c.code = cc) (htr : l.stackTraces = false) (hown : s.vm.findClass R_Box = some m.cls) (hG : th_G A s) (hS : va_S A s.heap H locs)
    (hfit : Bundle.fit E = true) (hnames : ∀ n ∈ names, Bundle.fit n = true)
    (hws : ∀ w ∈ Bundle.ownAtoms R_Box ic E names, w ∈ th_four ∨ (goodWord w = true ∧ w.before args s = true))
    (hcl : (Cond.classLink R_Box ik E).before args s = true) (hins : (Cond.instantiable E 6).before args s = true) (hini : (Cond.initialized E).before args s = true)
    (hstr : (si, tx) ∈ th_strs) (hno : c.exceptionTable.isEmpty = true)
    (hd0 : decode cc pc = .ok (.new ik, 3)) (hd3 : decode cc (pc + 3) = .ok (.dup, 1)) (hd4 : (n = 2 ∧ decode cc (pc + 4) = .ok (.ldc si, 2)) ∨ (n = 3 ∧ decode cc (pc + 4) = .ok (.ldc_w si, 3)))
    (hd5 : decode cc (pc + 4 + n) = .ok (.invokespecial ic, 3)) (hd6 : decode cc (pc + 4 + n + 3) = .ok (.athrow, 1)) (hls : ls.size = c.maxLocals) (hlocks : meth.locks = false)
    (hst : (st.map fun v => v.category).sum ≤ 8) (hfr : names.length + 3 < R.frames) (hlo : 9 + (13 * (names.length + 1) + 42) ≤ R.locals) (hc1 : cells + 1 ≤ R.cells) (hs1 : slots + 6 ≤ R.slots) (hmc : cells + 1 ≤ mc) (hms : slots + 6 ≤ ms)
    (hf : ∀ q ∈ locs, free q.base)
    (hq : ∀ (t : State) (ce : Cell), t.heap[H.size]? = some ce → ce.vm = .none → s.vm.findClass E = some ce.cls → H.size ≤ t.heap.size → (∀ q : Nat, q < H.size → t.heap[q]? = H[q]?) → s.WarmedH t.vm → Qo args s (.threw H.size) t) :
    W p l e R s m args below meth c H locs cells slots (th_MQ below Qo args s mc ms free) (F0 m pc ls st) := by
  intro T hT X
  have htr' : e.platform.stackTraces = false := by rw [X.admits.platform]; exact htr
  have X' := th_base X (R' := { R with cells := 1, slots := 6 }) (Nat.le_refl _) (Nat.le_refl _) hc1 hs1
  have hok : th_Ok (T.setFrames (.invoking m args :: below)) := hG.ok (U := T.setFrames (.invoking m args :: below)) X.warmed (by show va_S A s.heap T.heap locs; rw [hT]; exact hS)
  obtain ⟨q1, hstr'⟩ := hok.2.1 _ hstr
  have al := X.warmed.alike
  have hE : c.exceptionTable.toList = [] := by simpa using hno
  have hown' : (T.setFrames (.invoking m args :: below)).vm.findClass R_Box = some m.cls := by
    show T.vm.findClass R_Box = _
    rw [al.findClass]; exact hown
  have hw : ∀ w, goodWord w = true → w.before args s = true → w.before args (T.setFrames (.invoking m args :: below)) = true := fun w h1 h2 => word_at (U := T.setFrames (.invoking m args :: below)) X.warmed (good_of_word h1) h2
  have hat : ∀ w ∈ Bundle.ownAtoms R_Box ic E names, w.before args (T.setFrames (.invoking m args :: below)) = true := fun w h => (hws w h).elim (fun h => hok.1 _ w h) (fun h => hw w h.1 h.2)
  have K : W p l e { R with cells := 1, slots := 6 } (T.setFrames (.invoking m args :: below)) m args below meth c H [] 0 0 (th_MQ below Qo args s mc ms free) (F0 m pc ls st) := by
    refine W.newc (g := F0 m pc ls st) hexec hb hown' (hw _ rfl hcl) (hw _ rfl hins) (hw _ rfl hini) rfl hd0 (Nat.le_refl _) (Nat.le_refl _) (fun cC kC h1 h2 h3 h4 => ?_)
    refine lv_dup hexec hb hd3 rfl ?_
    have hn : 4 + n = n + 4 := Nat.add_comm _ _
    have fin : W p l e { R with cells := 1, slots := 6 } (T.setFrames (.invoking m args :: below)) m args below meth c (H.push { cls := cC, slots := kC.instanceTypes.map defaultValue, vm := .none }) [] (0 + 1) (0 + 6) (th_MQ below Qo args s mc ms free) (F0 m (pc + 4 + n) ls (.ref q1 :: .ref H.size :: .ref H.size :: st)) := by
      intro T2 hT2 X2
      have hsz : (T.setFrames (.invoking m args :: below)).heap.size = H.size := by show T.heap.size = _; rw [hT]
      obtain ⟨U, st1, hrun, hend, hWU, hsame, ce, hce, hO⟩ := X2.ctorThrowS hexec htr' (own := R_Box) (cls := E) (names := names) (ic := ic) hown' hfit hnames hat (fun x hx => nomatch hx)
        (a := H.size) (cX := cC) (kX := kC) h1 h2 (by rw [hT2]; simp) (Nat.le_of_eq hsz) (msg := .ref q1) rfl (g := F0 m (pc + 4 + n) ls (.ref q1 :: .ref H.size :: .ref H.size :: st)) rfl hls rfl rfl (rest := st) rfl
        (by rw [hb]; exact hd5) (by rw [hb]; exact hd6) (fun x hx => by rw [hE] at hx; cases hx)
        hfr (by
          have h0 : 2 * (F0 m (pc + 4 + n) ls (.ref q1 :: .ref H.size :: .ref H.size :: st)).monitorRoom = 0 := by simp
          rw [h0, List.map_cons, List.sum_cons]
          have h5 : (Value.ref H.size).category = 1 := rfl
          rw [h5]
          show _ ≤ R.locals
          omega)
      have hWT : s.WarmedH U.vm := State.WarmedH.trans X.warmed hWU
      refine ⟨U, st1, .threw H.size, hrun, hend, hq U ce hce hO.vm ?_ ?_ ?_ hWT, locs, hWT, ?_, hf⟩
      · have h9 := hO.cls
        have h8 : T.vm.findClass E = some ce.cls := h9
        rw [al.findClass] at h8
        exact h8
      · have := hsame.2.1
        have h7 : T.heap.size ≤ U.heap.size := this
        rw [hT] at h7
        exact h7
      · intro q hq9
        have h7 := th_old hsame q (by rw [hsz]; exact hq9)
        have h8 : U.heap[q]? = T.heap[q]? := h7
        rw [h8, hT]
      · have h6 := th_back X hsame
        rw [List.append_nil] at h6
        exact h6.mono hmc hms
    rcases hd4 with ⟨rfl, hd4⟩ | ⟨rfl, hd4⟩
    · exact va_ldcS hexec hb hown' hstr' hd4 fin
    · intro T2 hT2 X2
      obtain ⟨t, a1, b1⟩ := fin T2 hT2 X2
      exact ⟨t, th_ldcw X2 hexec hown' hstr' (g := F0 m (pc + 4) ls (.ref H.size :: .ref H.size :: st)) rfl (by rw [hb]; exact hd4) t a1, b1⟩
  exact K T hT X'
/-- a throw on its way: the note lies over the frame -/
def th_W (p : Program) (l : Launch) (e : Env) (R : Room) (s : State) (m : MethodId) (args : Array Value) (below : List Frame) (meth : Method) (c : Code) (H : Heap) (locs : List Loc) (cells slots : Nat) (Q : State → Prop) (g : JFrame) (x : Addr) : Prop :=
  ∀ T : State, T.heap = H → Stand p l e R s m args below meth c T locs cells slots → ∃ t, Steps p.tables e below ((T.setTop g).pushFrame (.throwing x)) t ∧ Q t
theorem th_out {Qo : Array Value → State → Outcome → State → Prop} {mc ms pc : Nat} {free : Addr → Prop} {ls : Array Slot} {st : List Value} {x : Addr} (hno : c.exceptionTable.isEmpty = true) (hlocks : meth.locks = false) (hmc : cells ≤ mc) (hms : slots ≤ ms)
    (hf : ∀ q ∈ locs, free q.base) (hq : ∀ t : State, t.heap = H → s.WarmedH t.vm → Qo args s (.threw x) t) : th_W p l e R s m args below meth c H locs cells slots (th_MQ below Qo args s mc ms free) (F0 m pc ls st) x := by
  intro T hT X
  have hE : c.exceptionTable.toList = [] := by simpa using hno
  obtain ⟨h1, h2, h3, h4, h5⟩ := X.leaveThrown x (g := F0 m pc ls st) rfl rfl rfl (fun z hz => by rw [hE] at hz; cases hz)
  exact ⟨_, h1, .threw x, h2, h3, hq _ hT h4, locs, h4, h5.mono hmc hms, hf⟩
end TH
