/-! What is known at the law's start: the tables, the exceptions apart, Throwable's statics. -/
theorem kn_nc {a : Array Value} {s : State} {X Y : String} (h : (Cond.not (.castable X Y)).before a s = true) : ∃ ca cb, s.vm.findClass X = some ca ∧ s.vm.findClass Y = some cb ∧ s.vm.assignable ca cb = false := by
  simp only [Cond.before, Cond.holds, Cond.value] at h
  cases hc : s.vm.findClass X with
  | none => simp [hc] at h
  | some ca =>
    cases ht : s.vm.findClass Y with
    | none => simp [hc, ht] at h
    | some cb => exact ⟨ca, cb, rfl, rfl, by simpa [hc, ht] using h⟩
theorem kn_Nc {a : Array Value} {s : State} (h : (Jvm.Cond.and given_1 narrow_1).before a s = true) : am_Nc s := by
  have hs := flat_of_before _ h
  intro x y h1 h2 h3 h4 h5
  have hx : x = 1 ∨ x = 2 ∨ x = 3 ∨ x = 4 ∨ x = 5 := by omega
  have hy : y = 1 ∨ y = 2 ∨ y = 3 ∨ y = 4 ∨ y = 5 := by omega
  rcases hx with rfl | rfl | rfl | rfl | rfl <;> rcases hy with rfl | rfl | rfl | rfl | rfl <;> first | exact absurd rfl h5 | exact kn_nc (hs (Cond.not (.castable (am_En _) (am_En _))) (by decide +kernel))
theorem kn_isRef {O f d : String} {a a' : Array Value} {s V : State} (hal : s.vm.Alike V.vm) (hh : ∀ q : Nat, q < s.heap.size → V.heap[q]? = s.heap[q]?) (hl : (Cond.laysStatic O f d).before a s = true) (h : (Cond.isRef (.static O f d)).before a s = true) : (Cond.isRef (.static O f d)).before a' V = true := by
  obtain ⟨c, k, i, fd, st, cell, hc, hf, hst, hsta, hcell, hiss, hcls, hlt, hty⟩ := Cond.laysStatic_spec hl
  obtain ⟨k', hf', he⟩ := State.fieldFound?_setVm hal hf
  have hcell' : V.heap[st]? = some cell := by rw [hh st (Array.getElem?_eq_some_iff.mp hcell).1]; exact hcell
  have hfV : V.fieldFound? O f d = some (c, k', i, fd) := by
    have : V.fieldFound? = (s.setVm V.vm).fieldFound? := by funext x y z; simp only [State.fieldFound?]; rfl
    rw [this]; exact hf'
  have hsta' : k'.statics = some st := by rw [he]; exact hsta
  have hv : cell.slots[fd.slot]? = some cell.slots[fd.slot] := Array.getElem?_eq_getElem hlt
  have e1 : (Term.static O f d).eval a s none [] s = some cell.slots[fd.slot] := by
    simp [Term.eval, State.fieldNamed?, hf, hst, hsta, hcell, hiss, hv]
  have e2 : (Term.static O f d).eval a' V none [] V = some cell.slots[fd.slot] := by
    simp [Term.eval, State.fieldNamed?, hfV, hst, hsta', hcell', hiss, hv]
  simp only [Cond.before, Cond.holds, Cond.value, e1] at h
  simp only [Cond.before, Cond.holds, Cond.value, e2]
  exact h
theorem kn_Zk {a : Array Value} {s : State} (hts : ∀ w ∈ lw_tbl, w.before a s = true) (h : (Jvm.Cond.and given_1 narrow_1).before a s = true) : am_Zk s.heap s := by
  have hs := flat_of_before _ h
  intro a' V hW hh w hw
  have hks : Jvm.Free.Str.KeepsShape s V := fun x cx hx => ⟨cx, by rw [hh x (Array.getElem?_eq_some_iff.mp hx).1]; exact hx, rfl, rfl⟩
  have l1 : (Cond.laysStatic Bundle.tN "UNASSIGNED_STACK" Bundle.steD).before a s = true := hts _ (by decide +kernel)
  have l2 : (Cond.laysStatic Bundle.tN "SUPPRESSED_SENTINEL" Bundle.listD).before a s = true := hts _ (by decide +kernel)
  have r1 : (Cond.isRef (.static Bundle.tN "UNASSIGNED_STACK" Bundle.steD)).before a s = true := hs _ (by decide +kernel)
  have r2 : (Cond.isRef (.static Bundle.tN "SUPPRESSED_SENTINEL" Bundle.listD)).before a s = true := hs _ (by decide +kernel)
  simp only [so_rs, List.mem_cons, List.not_mem_nil, or_false] at hw
  rcases hw with rfl | rfl | rfl | rfl
  · exact kn_isRef hW.alike hh l1 r1
  · exact kn_isRef hW.alike hh l2 r2
  · exact Jvm.Free.Str.laysStatic_rides hW.alike hks l1
  · exact Jvm.Free.Str.laysStatic_rides hW.alike hks l2
theorem kn_arr {a : Array Value} {s : State} {ty : FieldType} (h : (Cond.arrayClass ty).before a s = true) : ∃ cA, ArrOfT s cA ty ∧ s.vm.findClass ("[" ++ ty.toString) = some cA := by
  obtain ⟨cA, k, comp, h1, h2, h3⟩ := Cond.arrayClass_spec h
  exact ⟨cA, fun n z => ⟨fun k h => (by cases h), k, h2, comp, h3⟩, h1⟩
/-- the classes' numbers and the arrays' -/
theorem kn_K {a : Array Value} {s : State} (hts : ∀ w ∈ lw_tbl, w.before a s = true) : ∃ (D : va_G) (t : Nat → ClassId), cn_K D t s := by
  have hk : ∀ b, ∃ x : ClassId × (Nat → Nat), b < 9 → u_Kn s (am_C b) (am_F b) (am_N b) x.1 x.2 := fun b => by
    by_cases hb : b < 9
    · have hi : ∀ b, b < 9 → Cond.instantiable (am_C b) (am_N b) ∈ lw_tbl := by decide +kernel
      obtain ⟨cC, iS, h⟩ := u_known hts (am_hu b hb) (hts _ (hi b hb))
      exact ⟨(cC, iS), fun _ => h⟩
    · exact ⟨(0, fun _ => 0), fun h => absurd h hb⟩
  obtain ⟨c0, a0, f0⟩ := kn_arr (ty := .int) (hts _ (by decide +kernel))
  obtain ⟨c1, a1, f1⟩ := kn_arr (ty := .boolean) (hts _ (by decide +kernel))
  obtain ⟨c2, a2, f2⟩ := kn_arr (ty := .long) (hts _ (by decide +kernel))
  have o3 : (Cond.arrayOver (.object "LineDebugger$Rule")).before a s = true := hts _ (by decide +kernel)
  have o4 : (Cond.arrayOver (.array .int)).before a s = true := hts _ (by decide +kernel)
  obtain ⟨m3, c3, k3, g1, -, g3, g4, g5⟩ := Cond.arrayOver_spec o3
  obtain ⟨m4, c4, k4, j1, j3, j4, j5⟩ := Cond.arrayOver_specA o4
  refine ⟨(fun b => (Classical.choose (hk b)).1, fun b => (Classical.choose (hk b)).2), fun k => match k with | 0 => c0 | 1 => c1 | 2 => c2 | 3 => c3 | _ => c4, ⟨fun b q hq => ?_, fun k q hq => ?_⟩, o3, o4, fun x hx => ?_⟩
  · have hb : b < 9 := by
      have := (List.getElem?_eq_some_iff.mp hq).1
      simpa [am_cl] using this
    rw [am_cl_at b hb] at hq
    cases hq
    exact Classical.choose_spec (hk b) hb
  · have hk5 : k < 5 := (List.getElem?_eq_some_iff.mp hq).1
    rcases (show k = 0 ∨ k = 1 ∨ k = 2 ∨ k = 3 ∨ k = 4 by omega) with rfl | rfl | rfl | rfl | rfl
    · cases hq; exact ⟨a0, f0⟩
    · cases hq; exact ⟨a1, f1⟩
    · cases hq; exact ⟨a2, f2⟩
    · cases hq; exact ⟨fun n z => ⟨fun k h => (by cases h), k3, g3, m3, g4⟩, k3, m3, g3, g4, g1, g5⟩
    · cases hq; exact ⟨fun n z => ⟨fun k h => (by cases h), k4, j3, m4, j4⟩, j5⟩
  · have hm : ∀ x ∈ cn_nest, Cond.methodLinkNest "LineDebugger" x.1 x.2 "LineDebugger" ∈ lw_tbl := by decide +kernel
    exact va_Nw.of rfl (hts _ (hm x hx))
