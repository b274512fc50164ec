/-! a throw that is caught in the method itself -/
section TK
variable {p : Program} {l : Launch} {e : Env} {R : Room} {s : State} {m : MethodId} {args : Array Value} {below : List Frame} {meth : Method} {c : Code} {T : State} {H : Heap} {locs : List Loc} {cells slots : Nat} {Q : State → Prop}
theorem th_hlink {E : CtlPost} {d : Bool} {acts : List Action} {S : State} {f : JFrame} {a : Addr} {Qh : Handler → Pre} {x : ExceptionTableEntry} {t : List ExceptionTableEntry} {cc : ClassId} {cell : Cell} (hx : covers x f.pc = true) (h0 : x.catchType ≠ 0)
    (hl : S.vm.ClassLinks e.platform f.method.cls x.catchType cc) (hcell : S.heap[a]? = some cell) (hobj : ∀ k, cell.vm ≠ .statics k) (hk : ∃ k, S.vm.classes[cell.cls]? = some k) (hc : ∃ k, S.vm.classes[cc]? = some k) :
    wp (findHandler.go f a (x :: t)) Qh E e d acts S ↔ if S.vm.assignable cell.cls cc = true then Qh (.found x.handlerPc) d acts (S.setVm (S.vm.noted f.method.cls x.catchType (.cls cc))) else wp (findHandler.go f a t) Qh E e d acts (S.setVm (S.vm.noted f.method.cls x.catchType (.cls cc))) := by
  simp only [covers] at hx
  obtain ⟨h1, h2⟩ := (resolveClass_links e.toSetting hl).op (op := VmOp.resolveClass f.method.cls x.catchType) rfl
  have hal : S.vm.Alike (S.vm.noted f.method.cls x.catchType (.cls cc)) := (Vm.Alike.refl S.vm).noted _ _ _
  obtain ⟨k1, hk1⟩ := hk
  obtain ⟨k2, hk2⟩ := hc
  obtain ⟨k3, hk3, -⟩ := hal.2.2 _ _ hk1
  obtain ⟨k4, hk4, -⟩ := hal.2.2 _ _ hk2
  have has := hal.assignable cell.cls cc
  cases hfit : S.vm.assignable cell.cls cc
  · rw [hfit] at has
    simp [findHandler.go, hx, h0, h1, h2, hcell, hobj, hk3, hk4, has, VmOp.dirties, VmOp.acts]
  · rw [hfit] at has
    simp [findHandler.go, hx, h0, h1, h2, hcell, hobj, hk3, hk4, has, VmOp.dirties, VmOp.acts]
/-- the row of the table that takes an E -/
def th_Hit (s : State) (args : Array Value) (own E : String) (pc : Nat) : List (Nat × Nat × Nat × Nat) → Nat → Prop
  | [], _ => False
  | (a, b, h, t) :: r, hp => (a ≤ pc ∧ pc < b) ∧ t ≠ 0 ∧ ∃ nm : String, (Cond.classLink own t nm).before args s = true ∧ (((Cond.castable E nm).before args s = true ∧ h = hp) ∨ (va_Nc E nm s ∧ th_Hit s args own E pc r hp))
theorem th_find {own E : String} {f : JFrame} {a : Addr} {cell : Cell} {hp : Nat} (hpl : e.platform.magicAccessors = ({} : Platform).magicAccessors) (hown : s.vm.findClass own = some f.method.cls) (hcl : s.vm.findClass E = some cell.cls) (hobj : ∀ k, cell.vm ≠ .statics k) :
    ∀ (t : List ExceptionTableEntry) (S : State), s.WarmedH S.vm → S.heap[a]? = some cell → th_Hit s args own E f.pc (t.map (fun h => (h.startPc, h.endPc, h.handlerPc, h.catchType))) hp →
      ∃ vm', s.WarmedH vm' ∧ ∀ (Qh : Handler → Pre) (E' : CtlPost) (d : Bool) (acts : List Action), wp (findHandler.go f a t) Qh E' e d acts S ↔ Qh (.found hp) d acts (S.setVm vm') := by
  intro t
  induction t with
  | nil => intro S _ _ h; exact h.elim
  | cons x t ih =>
    intro S hW hcell h
    obtain ⟨⟨h1, h2⟩, h0, nm, hlink, h3⟩ := h
    obtain ⟨c5, hc5, hl5⟩ := Cond.classLink_spec hown hlink e.platform hpl
    obtain ⟨dk, _, _, kt, hd, _, _, _, _, hkt, _, hopen⟩ := hl5.here
    obtain ⟨kt', hkt', -⟩ := hW.alike.2.2 _ _ hkt
    obtain ⟨k0, hk0⟩ := Vm.classAt_of_findClass hcl
    obtain ⟨k0', hk0', -⟩ := hW.alike.2.2 _ _ hk0
    have hW' := hW.noted hd hopen (State.rightAt_cls hl5)
    have hcov : covers x f.pc = true := by simp [covers, h1, h2]
    rcases h3 with ⟨hcast, rfl⟩ | ⟨⟨c1, c2, g1, g2, g3⟩, hr⟩
    · obtain ⟨c3, c4, hc3, hc4, hasg⟩ := Cond.castable_spec hcast
      cases Option.some.inj (hc3.symm.trans hcl)
      cases Option.some.inj (hc4.symm.trans hc5)
      refine ⟨_, hW', fun Qh E' d acts => ?_⟩
      rw [th_hlink hcov h0 (hW.classLinks hl5) hcell hobj ⟨k0', hk0'⟩ ⟨kt', hkt'⟩, if_pos (by rw [hW.alike.assignable]; exact hasg)]
    · cases Option.some.inj (g1.symm.trans hcl)
      cases Option.some.inj (g2.symm.trans hc5)
      obtain ⟨vm', hW2, hq⟩ := ih (S.setVm (S.vm.noted f.method.cls x.catchType (.cls _))) hW' hcell hr
      refine ⟨vm', hW2, fun Qh E' d acts => ?_⟩
      rw [th_hlink hcov h0 (hW.classLinks hl5) hcell hobj ⟨k0', hk0'⟩ ⟨kt', hkt'⟩, if_neg (by rw [hW.alike.assignable, g3]; decide)]
      exact hq Qh E' d acts
theorem th_catch {own E : String} {x pc hp : Nat} {ce : Cell} {ls : Array Slot} {st : List Value} {hh : List (Nat × Nat × Nat × Nat)} (htab : c.exceptionTable.toList.map (fun h => (h.startPc, h.endPc, h.handlerPc, h.catchType)) = hh) (hown : s.vm.findClass own = some m.cls)
    (hcell : H[x]? = some ce) (hv : ce.vm = .none) (hcl : s.vm.findClass E = some ce.cls) (hit : th_Hit s args own E pc hh hp)
    (k : W p l e R s m args below meth c H locs cells slots Q (F0 m hp ls [.ref x])) : th_W p l e R s m args below meth c H locs cells slots Q (F0 m pc ls st) x := by
  intro T hT X
  have hpl : e.platform.magicAccessors = ({} : Platform).magicAccessors := by rw [X.admits.platform]
  obtain ⟨vm', hW', hq⟩ := th_find (e := e) (s := s) (args := args) (own := own) (E := E) (f := F0 m pc ls st) (a := x) (cell := ce) (hp := hp) hpl hown hcl (VmData.ne_statics_of (by rw [hv]; rfl)) c.exceptionTable.toList ((T.setTop (F0 m pc ls st)).pushFrame (.throwing x)) (by rw [throwing_vm]; exact X.warmed)
    (by rw [throwing_heap, hT]; exact hcell) (by rw [htab]; exact hit)
  have X' := X.noted hW'
  obtain ⟨t, a1, b1⟩ := k (T.setVm vm') hT X'
  refine ⟨t, ?_, b1⟩
  have h : At T (F0 m pc ls st).method c below := X.here
  obtain ⟨hgo, hw⟩ := h.throwing x
  refine Steps.head hgo hw ?_
  rw [stepThread_throwing (frames_entered h.top _)]
  have hm' : ((T.setTop (F0 m pc ls st)).pushFrame (.throwing x)).vm.method? m = some meth := by rw [throwing_vm]; exact X.method'
  have key : (stepThrowing e ((T.setTop (F0 m pc ls st)).pushFrame (.throwing x)) x (.java (F0 m pc ls st) :: T.frames.tail)).Is ((((T.setTop (F0 m pc ls st)).pushFrame (.throwing x)).setVm vm').setFrames (.java (F0 m hp ls [.ref x]) :: T.frames.tail)) [] := by
    simp only [stepThrowing, searchFrame, vmDo]
    generalize hr : Sem.go _ e false [] ((T.setTop (F0 m pc ls st)).pushFrame (.throwing x)) = res
    obtain ⟨as, rfl, ha⟩ := Sem.eq_ok_of hr (a := Handler.found hp) (s' := ((T.setTop (F0 m pc ls st)).pushFrame (.throwing x)).setVm vm') (acts' := []) (by
      have hf : ∀ (Qh : Handler → Pre) (E' : CtlPost) (d : Bool) (acts : List Action), wp (findHandler (F0 m pc ls st) x) Qh E' e d acts ((T.setTop (F0 m pc ls st)).pushFrame (.throwing x)) ↔ Qh (.found hp) d acts (((T.setTop (F0 m pc ls st)).pushFrame (.throwing x)).setVm vm') := fun Qh E' d acts => by
        rw [W.findHandler_eq (f := F0 m pc ls st) hm' X.code]; exact hq Qh E' d acts
      simp [hf _ _ _ _])
    exact ⟨rfl, ha⟩
  rw [key.1]
  obtain ⟨g₀, hr⟩ := X.frames_eq
  have e1 : (((T.setTop (F0 m pc ls st)).pushFrame (.throwing x)).setVm vm').setFrames (.java (F0 m hp ls [.ref x]) :: T.frames.tail) = (T.setVm vm').setTop (F0 m hp ls [.ref x]) := by
    rw [X.tail, State.setTop_of_frames (s := T.setVm vm') _ (show (T.setVm vm').frames = .java g₀ :: below from hr), State.pushFrame, State.setTop_of_frames _ hr]
    show ((T.setFrames _).setFrames _ |>.setVm vm').setFrames _ = _
    rw [State.setFrames_setFrames]
    show ((T.setVm vm').setFrames _).setFrames _ = _
    rw [State.setFrames_setFrames]
  rw [e1]
  exact a1
end TK
