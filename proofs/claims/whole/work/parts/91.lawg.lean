/-! the law's start: what throws need of the statics and of the tables -/
theorem lw_ff {s : State} {C n d : String} {c i : Nat} {k : Class} {f : Field} (hf : s.fieldFound? C n d = some (c, k, i, f)) : s.vm.classes[c]? = some k := by
  simp only [State.fieldFound?, Option.bind_eq_bind, Option.bind_eq_some_iff, Option.pure_def, Option.some.injEq, Prod.mk.injEq, Prod.exists] at hf
  obtain ⟨t, ht, c₀, hc₀, c₁, i₁, hl, k₁, hk₁, f₁, hf₁, rfl, rfl, rfl, rfl⟩ := hf
  exact hk₁
theorem lw_stat {C n d : String} {s : State} {args : Array Value} (h1 : (Cond.laysStatic C n d).before args s = true) (h2 : (Cond.isRef (.static C n d)).before args s = true) :
    ∃ (c : ClassId) (k : Class) (aS : Nat) (cell : Cell), s.vm.findClass C = some c ∧ s.vm.classes[c]? = some k ∧ k.statics = some aS ∧ s.heap[aS]? = some cell ∧
      ∀ V : State, s.WarmedH V.vm → V.heap[aS]? = some cell → ∀ a : Array Value, (Cond.laysStatic C n d).before a V = true ∧ (Cond.isRef (.static C n d)).before a V = true := by
  obtain ⟨c, k, i, f, aS, cell, hc, hf, hst, hsta, hcell, hiss, hcls, hlt, hty⟩ := Cond.laysStatic_spec h1
  have hk := lw_ff hf
  have hv : cell.slots[f.slot]? = some cell.slots[f.slot] := Array.getElem?_eq_getElem hlt
  have e0 := Term.static_eval (args := args) (first := s) (o := none) (idx := []) hf hst hsta hcell hiss hv
  have hr := h2
  simp only [Cond.before, Cond.holds, Cond.value, e0, Option.map_some] at hr
  refine ⟨c, k, aS, cell, hc, hk, hsta, hcell, fun V hW hV a => ?_⟩
  obtain ⟨k', hf', he⟩ := State.fieldFound?_setVm (s := s) hW.alike hf
  have hfV : V.fieldFound? C n d = some (c, k', i, f) := hf'
  have hcV : V.vm.findClass C = some c := by rw [hW.alike.findClass]; exact hc
  have hsV : k'.statics = some aS := by rw [he]; exact hsta
  have htV : k'.staticTypes[f.slot]? = some f.type := by rw [he]; exact hty
  have eV := Term.static_eval (s := V) (args := a) (first := V) (o := none) (idx := []) hfV hst hsV hV hiss hv
  constructor
  · simp [Cond.before, Cond.holds, Cond.value, hcV, hfV, hsV, hV, hst, hiss, hcls, hlt, htV]
  · simp only [Cond.before, Cond.holds, Cond.value, eV, Option.map_some]
    exact hr
theorem lw_decl {x : MethodName} {s V : State} {args a : Array Value} (hW : s.WarmedH V.vm) (h : (Cond.declares x).before args s = true) : (Cond.declares x).before a V = true := by
  have h1 : (Cond.declares x).before args (s.setVm V.vm) = true := by
    rw [Cond.declares_setVm hW.alike]
    exact h
  have e := Cond.onTables_vm (A := args) (A' := a) (U := s) (U' := V) V.vm (Cond.declares x) rfl
  have hU : V.setVm V.vm = V := rfl
  rw [hU] at e
  rw [← e]
  exact h1
theorem lw_cast {C T : String} {s V : State} {args a : Array Value} (hW : s.WarmedH V.vm) (h : (Cond.castable C T).before args s = true) : (Cond.castable C T).before a V = true := by
  obtain ⟨c1, c2, h1, h2, h3⟩ := Cond.castable_spec h
  have g1 : V.vm.findClass C = some c1 := by rw [hW.alike.findClass]; exact h1
  have g2 : V.vm.findClass T = some c2 := by rw [hW.alike.findClass]; exact h2
  have g3 : V.vm.assignable c1 c2 = true := by rw [hW.alike.assignable]; exact h3
  simp [Cond.before, Cond.holds, Cond.value, g1, g2, g3]
theorem lw_str {own tx : String} {k : Nat} {s V : State} {args : Array Value} (hW : s.WarmedH V.vm) (h : (Cond.stringRef own k tx).before args s = true) : ∃ q, vk_R own k tx q V := by
  cases hc : s.vm.findClass own with
  | none => simp [Cond.before, Cond.holds, Cond.value, hc] at h
  | some c =>
    obtain ⟨k0, cf, i, a, -, -, -, -, -, he⟩ := Cond.stringRef_spec hc h
    exact ⟨a, vk_R.warm hW (vk_R.of h he)⟩
theorem lw_G {args : Array Value} {s : State} (htb : ∀ w ∈ lw_tbl, w.before args s = true) (hgv : (Jvm.Cond.and given_1 narrow_1).before args s = true) {A : Nat → Prop} (hA : ∀ q, A q → s.heap.size ≤ q) : th_G A s := by
  have hs := flat_of_before _ hgv
  obtain ⟨c1, k1, a1, cell1, p1, p2, p3, p4, p5⟩ := lw_stat (htb (.laysStatic Bundle.tN "UNASSIGNED_STACK" Bundle.steD) (by decide +kernel)) (hs (.isRef (.static Bundle.tN "UNASSIGNED_STACK" Bundle.steD)) (by decide +kernel))
  obtain ⟨c2, k2, a2, cell2, r1, r2, r3, r4, r5⟩ := lw_stat (htb (.laysStatic Bundle.tN "SUPPRESSED_SENTINEL" Bundle.listD) (by decide +kernel)) (hs (.isRef (.static Bundle.tN "SUPPRESSED_SENTINEL" Bundle.listD)) (by decide +kernel))
  cases Option.some.inj (p1.symm.trans r1)
  cases Option.some.inj (p2.symm.trans r2)
  cases Option.some.inj (p3.symm.trans r3)
  cases Option.some.inj (p4.symm.trans r4)
  have d1 := htb (.declares (Bundle.initS "java/lang/RuntimeException")) (by decide +kernel)
  have d2 := htb (.declares (Bundle.initS "java/lang/Exception")) (by decide +kernel)
  have d3 := htb (.declares (Bundle.initS Bundle.tN)) (by decide +kernel)
  have k1' := htb (.castable "java/lang/IllegalArgumentException" "java/lang/IllegalArgumentException") (by decide +kernel)
  have k2' := htb (.castable "java/lang/IllegalStateException" "java/lang/IllegalStateException") (by decide +kernel)
  have k3' := htb (.castable "java/lang/ArithmeticException" "java/lang/ArithmeticException") (by decide +kernel)
  have s1 := htb (.stringRef "ParticleBox" 125 "no room for another atom") (by decide +kernel)
  have s2 := htb (.stringRef "ParticleBox" 196 "no room for another bond") (by decide +kernel)
  have s3 := htb (.stringRef "ParticleBox" 201 "no room for another rod") (by decide +kernel)
  have s4 := htb (.stringRef "ParticleBox" 207 "there are no atoms") (by decide +kernel)
  have s5 := htb (.stringRef "ParticleBox" 220 "overlap, stiff or blown") (by decide +kernel)
  have s6 := htb (.stringRef "ParticleBox" 277 "a number is out of range or an atom is not there") (by decide +kernel)
  have s7 := htb (.stringRef "ParticleBox" 283 "two atoms overlap") (by decide +kernel)
  have n1 := va_Nc.of (hs (.not (.castable "java/lang/IllegalStateException" "java/lang/IllegalArgumentException")) (by decide +kernel))
  have n2 := va_Nc.of (hs (.not (.castable "java/lang/ArithmeticException" "java/lang/IllegalArgumentException")) (by decide +kernel))
  have n3 := va_Nc.of (hs (.not (.castable "java/lang/ArithmeticException" "java/lang/IllegalStateException")) (by decide +kernel))
  have hlt : a1 < s.heap.size := (Array.getElem?_eq_some_iff.mp p4).1
  refine ⟨a1, cell1, hlt, fun h => by have := hA _ h; omega, p4, fun V hW hV => ⟨?_, ?_, ?_⟩⟩
  · intro a w hw
    simp only [th_four, List.mem_cons, List.not_mem_nil, or_false] at hw
    rcases hw with rfl | rfl | rfl | rfl | rfl | rfl | rfl | rfl | rfl | rfl
    · exact (p5 V hW hV a).1
    · exact (r5 V hW hV a).1
    · exact (p5 V hW hV a).2
    · exact (r5 V hW hV a).2
    · exact lw_decl hW d1
    · exact lw_decl hW d2
    · exact lw_decl hW d3
    · exact lw_cast hW k1'
    · exact lw_cast hW k2'
    · exact lw_cast hW k3'
  · intro z hz
    simp only [th_strs, List.mem_cons, List.not_mem_nil, or_false] at hz
    rcases hz with rfl | rfl | rfl | rfl | rfl | rfl | rfl
    · exact lw_str hW s1
    · exact lw_str hW s2
    · exact lw_str hW s3
    · exact lw_str hW s4
    · exact lw_str hW s5
    · exact lw_str hW s6
    · exact lw_str hW s7
  · intro z hz
    simp only [th_prs, List.mem_cons, List.not_mem_nil, or_false] at hz
    rcases hz with rfl | rfl | rfl
    · exact n1.moved hW.alike
    · exact n2.moved hW.alike
    · exact n3.moved hW.alike
