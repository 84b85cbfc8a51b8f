/-! A throw: new, dup, ldc, the constructor, athrow. The Stand is laid anew at the state ahead of it, so that the world's cells are known to stay. -/
def so_st (s T : State) (m : MethodId) (args : Array Value) (below : List Frame) : State := (T.setVm s.vm).setFrames (.invoking m args :: below)
def so_rm (R : Room) (cells slots : Nat) : Room := { frames := R.frames, cells := R.cells - cells, slots := R.slots - slots, locals := R.locals }
theorem so_in {D : va_G} {cl : List vw_C} {ws : va_W} {H : Heap} (h : va_P D cl ws H) {k : Nat} {q : Nat × va_E} (hk : ws[k]? = some q) : ∃ cell, H[q.1]? = some cell := by
  have hq := h k q hk
  obtain ⟨a, en⟩ := q
  cases en with
  | inl v => exact ⟨_, hq⟩
  | inr o =>
    obtain ⟨r9, q1, cell, q2, -⟩ := hq
    exact ⟨cell, q2⟩
section TH
variable {p : Program} {l : Launch} {e : Env} {R : Room} {s : State} {m : MethodId} {args : Array Value} {below : List Frame} {meth : Method} {c : Code}
theorem so_anew {T : State} {locs : List Loc} {cells slots : Nat} (X : Stand p l e R s m args below meth c T locs cells slots) (h1 : cells ≤ R.cells) (h2 : slots ≤ R.slots) :
    Stand p l e (so_rm R cells slots) (so_st s T m args below) m args below meth c T [] 0 0 := by
  obtain ⟨g₀, hg⟩ := Option.isSome_iff_exists.mp X.here.top
  obtain ⟨r, hr⟩ := State.topJava?_eq_some.mp hg
  obtain ⟨t, ht, -⟩ := State.frames_cons hr
  have hcur : T.cur < T.threads.size := State.cur_lt_of_frames hr
  have hF : (so_st s T m args below).frames = .invoking m args :: below := State.frames_setFrames _ hcur
  have hlim : e.platform.stackLimits (so_st s T m args below).me = e.platform.stackLimits T.me := State.stackLimits_setFrames _ (T.setVm s.vm) _
  have hby : (so_st s T m args below).me.stackBytes = T.me.stackBytes := State.stackBytes_setFrames (T.setVm s.vm) _
  refine ⟨X.admits, X.cas, X.clock, hF, ?_, X.hears, X.method, X.code, X.here, X.tail, X.warmed, hlim.symm, hby.symm, ?_⟩
  · obtain ⟨a1, a2, a3, a4⟩ := State.hasRoom_stack X.room
    have a5 := State.hasRoom_real X.room
    obtain ⟨a6, a7⟩ := State.hasRoom_heap X.room
    have hz := X.heapSize
    have hu := X.used
    have hl : (so_st s T m args below).localsInUse = s.localsInUse := by
      rw [State.localsInUse_invoking hF X.method X.code, State.localsInUse_invoking X.frames X.method X.code]
    have hfl : (so_st s T m args below).frames.length = s.frames.length := by rw [hF, X.frames]
    have e1 : (so_st s T m args below).heap.size = T.heap.size := rfl
    have e2 : (so_st s T m args below).slotsUsed = T.slotsUsed := rfl
    have hst : (so_st s T m args below).slotsTrue = true := X.book
    unfold State.hasRoom
    rw [hl, hfl, hlim, X.limits, hby, X.bytes, State.hasRoom_plain X.room, hst, e1, e2]
    simp only [Bool.and_eq_true, decide_eq_true_eq, Bool.and_true]
    show ((s.localsInUse + R.locals + stackMargin ≤ realStackBytes / 8 ∧ _) ∧ T.heap.size + (R.cells - cells) ≤ _) ∧ T.slotsUsed + (R.slots - slots) ≤ _
    refine ⟨⟨⟨a5, a1, a2, a3, a4, trivial⟩, ?_⟩, ?_⟩
    · omega
    · omega
  · have hh := State.sameButNew.refl (T.setVm s.vm) ht
    have h3 : (so_st s T m args below).sameButNew (T.setVm s.vm) [] 0 0 := by
      obtain ⟨q1, q2⟩ := hh
      refine ⟨?_, q2⟩
      unfold so_st
      rw [State.setFrames_setFrames]
      exact q1
    exact h3
def so_up : List String := ["java/lang/RuntimeException", "java/lang/Exception"]
/-- the two statics of Throwable are there, wherever the old cells are as they were -/
def so_rs : List Cond := [.isRef (.static Bundle.tN "UNASSIGNED_STACK" Bundle.steD), .isRef (.static Bundle.tN "SUPPRESSED_SENTINEL" Bundle.listD), .laysStatic Bundle.tN "UNASSIGNED_STACK" Bundle.steD, .laysStatic Bundle.tN "SUPPRESSED_SENTINEL" Bundle.listD]
def am_Zk (H0 : Heap) (U : State) : Prop := ∀ (a' : Array Value) (V : State), U.WarmedH V.vm → (∀ q : Nat, q < H0.size → V.heap[q]? = H0[q]?) → ∀ w ∈ so_rs, w.before a' V = true
theorem am_Zk.moved {H0 : Heap} {s U : State} (h : am_Zk H0 s) (hW : s.WarmedH U.vm) : am_Zk H0 U := fun a' V hV hq => h a' V (State.WarmedH.trans hW hV) hq
variable {D : va_G} {cl : List vw_C} {t : Nat → ClassId} {ad : Nat → Nat} {A : Nat → Prop} {H0 : Heap} {nL : Nat} {cc : ByteArray} {pc : Nat} {ls : am_L} {st : List am_V} {I : am_I} {P : am_P} {J : am_J} {n : Nat} {En : Nat → String} {K : am_K}
theorem so_throw (hexec : p.tables.exec = Jvm.exec) (hb : c.code = cc) {Ts : List Cond} (hride : ∀ w ∈ Ts, ∀ (a' : Array Value) (U : State), s.WarmedH U.vm → w.before a' U = true) {own : String} (hown : s.vm.findClass own = some m.cls) (hml : c.maxLocals = nL) (hlocks : meth.locks = false) (hemp : c.exceptionTable.isEmpty = true)
    (htr : e.platform.stackTraces = false) (hA : ∀ q, A q → H0.size ≤ q) (hZ : am_Zk H0 s) {x y z E : Nat} {text : String} (hcl : Cond.classLink own x (En E) ∈ Ts) (hini : Cond.initialized (En E) ∈ Ts) (hstr : Cond.stringRef own y text ∈ Ts)
    (hoa : ∀ a ∈ Bundle.ownAtoms own z (En E) so_up, a ∈ Ts ∨ a ∈ so_rs) (hfit : Bundle.fit (En E) = true) (hF : 6 ≤ R.frames) (hLc : 82 ≤ R.locals)
    (d0 : decode cc pc = .ok (.new x, 3)) (d3 : decode cc (pc + 3) = .ok (.dup, 1)) (d4 : decode cc (pc + 4) = .ok (.ldc y, 2)) (d6 : decode cc (pc + 6) = .ok (.invokespecial z, 3)) (d9 : decode cc (pc + 9) = .ok (.athrow, 1))
    (h : am_throw K E st I P J n) : (am_Wa p l e R s m args below meth c (am_Q R below s D cl t ad A H0 En K) D cl t ad A H0 nL) pc ls st I P J n := by
  unfold am_throw at h
  split at h
  · rename_i n' k
    intro H locs cells slots lj hP hD hS hL hw hc hs T hT X
    have X' := so_anew X (by omega) (by omega)
    have old : ∀ q : Nat, q < H0.size → H[q]? = H0[q]? := fun q hq => hS.2.1 q hq (fun ha => absurd (hA q ha) (by omega))
    have hWr : s.WarmedH (so_st s T m args below).vm := State.WarmedH.refl s
    have hts' : ∀ w ∈ Ts, w.before args (so_st s T m args below) = true := fun w hw => hride w hw args _ hWr
    have hZ' := hZ args (so_st s T m args below) hWr (fun q hq => by
      show T.heap[q]? = _
      rw [hT]
      exact old q hq)
    have hall : ∀ a ∈ Bundle.ownAtoms own z (En E) so_up, a.before args (so_st s T m args below) = true := fun a ha => by
      rcases hoa a ha with h1 | h1
      · exact hts' a h1
      · exact hZ' a h1
    have hown' : (so_st s T m args below).vm.findClass own = some m.cls := hown
    have hb' : c.code = cc := hb
    obtain ⟨vm₁, cX, kX, hfX, hkX, -, -, X₁, st1⟩ := X'.newCold hexec (own := own) (C := En E) (index := x) (n := 6) hown' (hts' _ hcl) (hall _ (by simp [Bundle.ownAtoms])) (hts' _ hini)
      (g := F0 m pc lj []) rfl (by rw [hb']; exact d0) (by show 0 + 1 ≤ R.cells - cells; omega) (by show 0 + 6 ≤ R.slots - slots; omega)
    generalize hT1 : (T.setVm vm₁).pushCell { cls := cX, slots := kX.instanceTypes.map defaultValue, vm := .none } = T1 at X₁ st1
    have hcellA : T1.heap[T.heap.size]? = some (freshCell cX kX) := by rw [← hT1]; exact State.heap_pushCell_size _ _
    obtain ⟨kS, cfS, iS, sa, -, -, -, -, -, hev⟩ := Cond.stringRef_spec hown' (hts' _ hstr)
    have st2 := X₁.ldcString hexec (own := own) (text := text) (index := y) (a := sa) hown' (hts' _ hstr) hev (g := F0 m (pc + 4) lj [.ref T.heap.size, .ref T.heap.size]) rfl (by rw [hb']; exact d4)
    obtain ⟨U, hsteps, hrun, hend, hW, hsame, ce, hce, KC⟩ := X₁.ctorThrowS hexec htr (own := own) (cls := En E) (names := so_up) (ic := z) hown' hfit (by decide +kernel) hall (fun q hq => by cases hq) hfX hkX hcellA (Nat.le_refl _) (msg := .ref sa) rfl
      (g := F0 m (pc + 6) lj [.ref sa, .ref T.heap.size, .ref T.heap.size]) rfl (hL.1.trans hml.symm) rfl rfl (rest := []) rfl (by rw [hb']; exact d6) (by rw [hb']; exact d9) (covers_of_empty hemp _) (by show 2 + 3 < R.frames; omega) (by show 2 * 0 + 1 + (13 * (2 + 1) + 42) ≤ R.locals; omega) hlocks
    have kept : ∀ q : Nat, q < T.heap.size → U.heap[q]? = T.heap[q]? := by
      intro q hq
      have hc0 : (so_st s T m args below).heap[q]? = some T.heap[q] := Array.getElem?_eq_getElem (xs := T.heap) hq
      have := State.sameButNew.old_cell hsame hc0
      rw [Array.getElem?_eq_getElem hq]
      exact this
    have hsz : T.heap.size ≤ U.heap.size := hsame.2.1
    have hsm : s.sameButNew ({ U with vm := s.vm } : State) locs (cells + 1) (slots + 6) := by
      have h9 := X.same.trans (State.sameButNew.of_setFrames hsame)
      rw [List.append_nil] at h9
      have h8 : cells + (0 + 1) = cells + 1 := by omega
      have h7 : slots + (0 + 6) = slots + 6 := by omega
      rw [h8, h7] at h9
      exact h9
    have hWU : s.WarmedH U.vm := hW
    refine ⟨U, ?_, .threw T.heap.size, hrun, hend, .inr E, I, P, J, k, locs, cells + 1, slots + 6, h, hWU, hsm, hS.2.2, by omega, by omega, ?_, hD, ⟨?_, fun q g1 g2 => ?_, fun _ hz => by cases hz⟩, T.heap.size, ce, rfl, hce, KC.vm, KC.cls⟩
    · refine st1 _ ?_
      show Steps p.tables e below (T1.setTop (F0 m (pc + 3) lj [.ref T.heap.size])) _
      have hdup : Steps p.tables e below (T1.setTop (F0 m (pc + 4) lj [.ref T.heap.size, .ref T.heap.size])) U → Steps p.tables e below (T1.setTop (F0 m (pc + 3) lj [.ref T.heap.size])) U := by
        intro hnx
        jvm_step X₁.here [X₁.here.top, hexec, hb', F0, d3, Value.category]
        exact hnx
      exact hdup (st2 _ hsteps)
    · refine va_P.kept hP (fun k q hk => ?_)
      obtain ⟨cell, hcell⟩ := so_in hP hk
      have hlt : q.1 < H.size := (Array.getElem?_eq_some_iff.mp hcell).1
      rw [kept q.1 (by rw [hT]; exact hlt), hT]
    · rw [hT] at hsz
      exact Nat.le_trans hS.1 hsz
    · have hlt : q < H.size := Nat.lt_of_lt_of_le g1 hS.1
      rw [kept q (by rw [hT]; exact hlt), hT]
      exact hS.2.1 q g1 g2
  · exact h.elim
end TH
