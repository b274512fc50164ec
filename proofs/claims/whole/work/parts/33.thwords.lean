theorem th_fit : ∀ n ∈ (["java/lang/RuntimeException", "java/lang/Exception"] : List String), Bundle.fit n = true := by decide +kernel
theorem th_ws {args : Array Value} {s : State} {L : List Cond} (h : ∀ w ∈ L.filter (fun w => !decide (w ∈ th_four)), w ∈ gx_G) (hts : ∀ w ∈ gx_G, w.before args s = true) : ∀ w ∈ L, w ∈ th_four ∨ (goodWord w = true ∧ w.before args s = true) := fun w hw => by
  by_cases h4 : w ∈ th_four
  · exact Or.inl h4
  · have hg := h w (List.mem_filter.mpr ⟨hw, by simp [h4]⟩)
    exact Or.inr ⟨(List.mem_filter.mp hg).2, hts w hg⟩
def E_I : String := "java/lang/IllegalArgumentException"
theorem th_atI : ∀ w ∈ (Bundle.ownAtoms R_Box 279 E_I ["java/lang/RuntimeException", "java/lang/Exception"]).filter (fun w => !decide (w ∈ th_four)), w ∈ gx_G := gx_goodIn_r _ [55, 465, 474, 478, 481, 483, 466, 467, 68, 69, 468, 473, 479, 499, 455, 500, 457, 501, 459, 469, 471, 461, 495, 496, 498, 461, 486, 487, 488, 489, 489, 490, 491, 492, 492, 493, 494, 495, 485, 444, 452, 453, 454, 456, 458, 460, 464, 463, 462] (by decide +kernel) (by decide +kernel)
theorem th_castI : Cond.castable E_I E_I ∈ th_four := by decide +kernel
theorem th_iniI : Cond.initialized E_I ∈ gx_G := gx_in 58 (by decide +kernel) (by decide +kernel)
theorem th_insI : Cond.instantiable E_I 6 ∈ gx_G := gx_in 444 (by decide +kernel) (by decide +kernel)
theorem th_lnkI : Cond.classLink R_Box 275 E_I ∈ gx_G := gx_in 443 (by decide +kernel) (by decide +kernel)
theorem th_lawI : Cond.classLink R_Law 13 E_I ∈ gx_G := gx_in 421 (by decide +kernel) (by decide +kernel)
theorem th_thI {p : Program} {l : Launch} {e : Env} {R : Room} {s : State} {m : MethodId} {args : Array Value} {below : List Frame} {meth : Method} {c : Code} {H : Heap} {locs : List Loc} {cells slots : Nat} {cc : ByteArray} {ls : Array Slot} {st : List Value} {Qo : Array Value → State → Outcome → State → Prop} {mc ms : Nat} {free : Addr → Prop} {tx : String} {si n pc : Nat} {A : Nat → Prop}
    (hexec : p.tables.exec = Jvm.exec) (hb : c.code = cc) (htr : l.stackTraces = false) (hown : s.vm.findClass R_Box = some m.cls) (hG : th_G A s) (hS : va_S A s.heap H locs) (hgx : ∀ w ∈ gx_G, w.before args s = true)
    (hstr : (si, tx) ∈ th_strs) (hno : c.exceptionTable.isEmpty = true)
    (hd0 : decode cc pc = .ok (.new 275, 3)) (hd3 : decode cc (pc + 3) = .ok (.dup, 1)) (hd4 : (n = 2 ∧ decode cc (pc + 4) = .ok (.ldc si, 2)) ∨ (n = 3 ∧ decode cc (pc + 4) = .ok (.ldc_w si, 3)))
    (hd5 : decode cc (pc + 4 + n) = .ok (.invokespecial 279, 3)) (hd6 : decode cc (pc + 4 + n + 3) = .ok (.athrow, 1)) (hls : ls.size = c.maxLocals) (hlocks : meth.locks = false)
    (hst : (st.map fun v => v.category).sum ≤ 8) (hfr : 5 < R.frames) (hlo : 90 ≤ R.locals) (hc1 : cells + 1 ≤ R.cells) (hs1 : slots + 6 ≤ R.slots) (hmc : cells + 1 ≤ mc) (hms : slots + 6 ≤ ms)
    (hf : ∀ q ∈ locs, free q.base)
    (hq : ∀ (t : State) (ce : Cell), t.heap[H.size]? = some ce → ce.vm = .none → s.vm.findClass E_I = some ce.cls → H.size ≤ t.heap.size → (∀ q : Nat, q < H.size → t.heap[q]? = H[q]?) → s.WarmedH t.vm → Qo args s (.threw H.size) t) :
    W p l e R s m args below meth c H locs cells slots (th_MQ below Qo args s mc ms free) (F0 m pc ls st) :=
  th_throw (names := ["java/lang/RuntimeException", "java/lang/Exception"]) hexec hb htr hown hG hS (by decide +kernel) th_fit (th_ws th_atI hgx) (hgx _ th_lnkI) (hgx _ th_insI) (hgx _ th_iniI) hstr hno hd0 hd3 hd4 hd5 hd6 hls hlocks hst hfr hlo hc1 hs1 hmc hms hf hq
def E_S : String := "java/lang/IllegalStateException"
theorem th_atS : ∀ w ∈ (Bundle.ownAtoms R_Box 127 E_S ["java/lang/RuntimeException", "java/lang/Exception"]).filter (fun w => !decide (w ∈ th_four)), w ∈ gx_G := gx_goodIn_r _ [55, 465, 474, 478, 481, 483, 466, 467, 68, 69, 468, 473, 479, 499, 455, 500, 457, 501, 459, 469, 471, 461, 495, 496, 498, 461, 522, 523, 524, 489, 489, 490, 491, 492, 492, 493, 494, 495, 521, 512, 514, 477, 515, 516, 517, 518, 464, 463, 519] (by decide +kernel) (by decide +kernel)
theorem th_castS : Cond.castable E_S E_S ∈ th_four := by decide +kernel
theorem th_iniS : Cond.initialized E_S ∈ gx_G := gx_in 59 (by decide +kernel) (by decide +kernel)
theorem th_insS : Cond.instantiable E_S 6 ∈ gx_G := gx_in 512 (by decide +kernel) (by decide +kernel)
theorem th_lnkS : Cond.classLink R_Box 123 E_S ∈ gx_G := gx_in 511 (by decide +kernel) (by decide +kernel)
theorem th_lawS : Cond.classLink R_Law 15 E_S ∈ gx_G := gx_in 422 (by decide +kernel) (by decide +kernel)
theorem th_thS {p : Program} {l : Launch} {e : Env} {R : Room} {s : State} {m : MethodId} {args : Array Value} {below : List Frame} {meth : Method} {c : Code} {H : Heap} {locs : List Loc} {cells slots : Nat} {cc : ByteArray} {ls : Array Slot} {st : List Value} {Qo : Array Value → State → Outcome → State → Prop} {mc ms : Nat} {free : Addr → Prop} {tx : String} {si n pc : Nat} {A : Nat → Prop}
    (hexec : p.tables.exec = Jvm.exec) (hb : c.code = cc) (htr : l.stackTraces = false) (hown : s.vm.findClass R_Box = some m.cls) (hG : th_G A s) (hS : va_S A s.heap H locs) (hgx : ∀ w ∈ gx_G, w.before args s = true)
    (hstr : (si, tx) ∈ th_strs) (hno : c.exceptionTable.isEmpty = true)
    (hd0 : decode cc pc = .ok (.new 123, 3)) (hd3 : decode cc (pc + 3) = .ok (.dup, 1)) (hd4 : (n = 2 ∧ decode cc (pc + 4) = .ok (.ldc si, 2)) ∨ (n = 3 ∧ decode cc (pc + 4) = .ok (.ldc_w si, 3)))
    (hd5 : decode cc (pc + 4 + n) = .ok (.invokespecial 127, 3)) (hd6 : decode cc (pc + 4 + n + 3) = .ok (.athrow, 1)) (hls : ls.size = c.maxLocals) (hlocks : meth.locks = false)
    (hst : (st.map fun v => v.category).sum ≤ 8) (hfr : 5 < R.frames) (hlo : 90 ≤ R.locals) (hc1 : cells + 1 ≤ R.cells) (hs1 : slots + 6 ≤ R.slots) (hmc : cells + 1 ≤ mc) (hms : slots + 6 ≤ ms)
    (hf : ∀ q ∈ locs, free q.base)
    (hq : ∀ (t : State) (ce : Cell), t.heap[H.size]? = some ce → ce.vm = .none → s.vm.findClass E_S = some ce.cls → H.size ≤ t.heap.size → (∀ q : Nat, q < H.size → t.heap[q]? = H[q]?) → s.WarmedH t.vm → Qo args s (.threw H.size) t) :
    W p l e R s m args below meth c H locs cells slots (th_MQ below Qo args s mc ms free) (F0 m pc ls st) :=
  th_throw (names := ["java/lang/RuntimeException", "java/lang/Exception"]) hexec hb htr hown hG hS (by decide +kernel) th_fit (th_ws th_atS hgx) (hgx _ th_lnkS) (hgx _ th_insS) (hgx _ th_iniS) hstr hno hd0 hd3 hd4 hd5 hd6 hls hlocks hst hfr hlo hc1 hs1 hmc hms hf hq
def E_A : String := "java/lang/ArithmeticException"
theorem th_atA : ∀ w ∈ (Bundle.ownAtoms R_Box 222 E_A ["java/lang/RuntimeException", "java/lang/Exception"]).filter (fun w => !decide (w ∈ th_four)), w ∈ gx_G := gx_goodIn_r _ [55, 465, 474, 478, 481, 483, 466, 467, 68, 69, 468, 473, 479, 499, 455, 500, 457, 501, 459, 469, 471, 461, 495, 496, 498, 461, 765, 766, 767, 489, 489, 490, 491, 492, 492, 493, 494, 495, 764, 755, 757, 476, 758, 759, 760, 761, 464, 463, 762] (by decide +kernel) (by decide +kernel)
theorem th_castA : Cond.castable E_A E_A ∈ th_four := by decide +kernel
theorem th_iniA : Cond.initialized E_A ∈ gx_G := gx_in 61 (by decide +kernel) (by decide +kernel)
theorem th_insA : Cond.instantiable E_A 6 ∈ gx_G := gx_in 755 (by decide +kernel) (by decide +kernel)
theorem th_lnkA : Cond.classLink R_Box 218 E_A ∈ gx_G := gx_in 754 (by decide +kernel) (by decide +kernel)
theorem th_lawA : Cond.classLink R_Law 52 E_A ∈ gx_G := gx_in 623 (by decide +kernel) (by decide +kernel)
theorem th_thA {p : Program} {l : Launch} {e : Env} {R : Room} {s : State} {m : MethodId} {args : Array Value} {below : List Frame} {meth : Method} {c : Code} {H : Heap} {locs : List Loc} {cells slots : Nat} {cc : ByteArray} {ls : Array Slot} {st : List Value} {Qo : Array Value → State → Outcome → State → Prop} {mc ms : Nat} {free : Addr → Prop} {tx : String} {si n pc : Nat} {A : Nat → Prop}
    (hexec : p.tables.exec = Jvm.exec) (hb : c.code = cc) (htr : l.stackTraces = false) (hown : s.vm.findClass R_Box = some m.cls) (hG : th_G A s) (hS : va_S A s.heap H locs) (hgx : ∀ w ∈ gx_G, w.before args s = true)
    (hstr : (si, tx) ∈ th_strs) (hno : c.exceptionTable.isEmpty = true)
    (hd0 : decode cc pc = .ok (.new 218, 3)) (hd3 : decode cc (pc + 3) = .ok (.dup, 1)) (hd4 : (n = 2 ∧ decode cc (pc + 4) = .ok (.ldc si, 2)) ∨ (n = 3 ∧ decode cc (pc + 4) = .ok (.ldc_w si, 3)))
    (hd5 : decode cc (pc + 4 + n) = .ok (.invokespecial 222, 3)) (hd6 : decode cc (pc + 4 + n + 3) = .ok (.athrow, 1)) (hls : ls.size = c.maxLocals) (hlocks : meth.locks = false)
    (hst : (st.map fun v => v.category).sum ≤ 8) (hfr : 5 < R.frames) (hlo : 90 ≤ R.locals) (hc1 : cells + 1 ≤ R.cells) (hs1 : slots + 6 ≤ R.slots) (hmc : cells + 1 ≤ mc) (hms : slots + 6 ≤ ms)
    (hf : ∀ q ∈ locs, free q.base)
    (hq : ∀ (t : State) (ce : Cell), t.heap[H.size]? = some ce → ce.vm = .none → s.vm.findClass E_A = some ce.cls → H.size ≤ t.heap.size → (∀ q : Nat, q < H.size → t.heap[q]? = H[q]?) → s.WarmedH t.vm → Qo args s (.threw H.size) t) :
    W p l e R s m args below meth c H locs cells slots (th_MQ below Qo args s mc ms free) (F0 m pc ls st) :=
  th_throw (names := ["java/lang/RuntimeException", "java/lang/Exception"]) hexec hb htr hown hG hS (by decide +kernel) th_fit (th_ws th_atA hgx) (hgx _ th_lnkA) (hgx _ th_insA) (hgx _ th_iniA) hstr hno hd0 hd3 hd4 hd5 hd6 hls hlocks hst hfr hlo hc1 hs1 hmc hms hf hq
