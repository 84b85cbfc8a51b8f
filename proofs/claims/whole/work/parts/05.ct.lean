/-! Calls by contract, of methods that return or throw. -/
def am_rm (F Lc n : Nat) : Room := { frames := F, cells := n, slots := 6 * n, locals := Lc }
def am_Pre (D : va_G) (cl : List vw_C) (t : Nat → ClassId) (ad : Nat → Nat) (A : Nat → Prop) (H0 : Heap) (Zk : State → Prop) (as : List am_V) (I : am_I) (P : am_P) (J : am_J) : Array Value → State → Prop := fun v U =>
  v = (as.map (am_v ad)).toArray ∧ va_P D cl (am_ws t ad I P J) U.heap ∧ va_D A (am_ws t ad I P J) ∧ va_S A H0 U.heap [] ∧ va_K D cl (am_tys t) U ∧ Zk U
/-- method y, with the words ws, F frames and Lc words of the stack, nb arguments, does what T says -/
def am_Met (l : Launch) (D : va_G) (cl : List vw_C) (t : Nat → ClassId) (ad : Nat → Nat) (A : Nat → Prop) (H0 : Heap) (Zk : State → Prop) (En : Nat → String) (y : MethodName) (ws : List Cond) (F Lc nb : Nat) (T : am_T) : Prop :=
  ∀ (as : List am_V) (I : am_I) (P : am_P) (J : am_J) (n : Nat) (K : am_K), T as I P J n K → am_nol as = true → as.length = nb →
    MetFree l y (headSpec ws (am_rm F Lc n)) (am_Pre D cl t ad A H0 Zk as I P J) (fun _ _ _ _ _ => True) (fun _ st o u => am_End (am_rm F Lc n) st D cl t ad A H0 En K o u)
theorem am_nol_of : ∀ {as : List am_V}, am_nol as = true → ∀ v ∈ as, ∀ x, v ≠ .inr (.inl x)
  | .inl y :: r, h, v, hv, x => by
    rcases List.mem_cons.mp hv with rfl | hv
    · exact fun z => by cases z
    · exact am_nol_of (as := r) (by simpa [am_nol] using h) v hv x
  | .inr (.inl y) :: r, h, v, hv, x => by simp [am_nol] at h
  | .inr (.inr y) :: r, h, v, hv, x => by
    rcases List.mem_cons.mp hv with rfl | hv
    · exact fun z => by cases z
    · exact am_nol_of (as := r) (by simpa [am_nol] using h) v hv x
theorem am_pop_of : ∀ {n : Nat} {st acc : List am_V} {k : List am_V → List am_V → Prop}, am_pop n st acc k → ∃ pre st', st = pre ++ st' ∧ pre.length = n ∧ k (pre.reverse ++ acc) st'
  | 0, st, acc, k, h => ⟨[], st, rfl, rfl, h⟩
  | n + 1, [], acc, k, h => h.elim
  | n + 1, v :: st, acc, k, h => by
    obtain ⟨pre, st', e1, e2, e3⟩ := am_pop_of (n := n) (st := st) (acc := v :: acc) h
    exact ⟨v :: pre, st', by rw [e1]; rfl, by simp [e2], by simpa using e3⟩
theorem am_light (ad : Nat → Nat) {st : List am_V} (h : st.length ≤ 4) : ((st.map (am_v ad)).map fun v => v.category).sum ≤ 8 := by
  have : ∀ (l : List am_V), ((l.map (am_v ad)).map fun v => v.category).sum ≤ 2 * l.length := by
    intro l
    induction l with
    | nil => exact Nat.le_refl _
    | cons v r ih =>
      simp only [List.map_cons, List.sum_cons, List.length_cons]
      rcases lv_cat (am_v ad v) with z | z <;> omega
  have := this st
  omega
/-- a call under way, whatever its outcome -/
theorem so_run {l : Launch} {R : Room} {p : Program} {e : Env} {below : List Frame} {s : State} {m : MethodId} {args a : Array Value} {meth : Method} {c : Code} {U : State} {locs : List Loc} {cells slots : Nat} {y : MethodName} {S : Spec} {Pm : Array Value → State → Prop} {Qm : Array Value → State → Outcome → State → Prop}
    (hM : MetFree l y S Pm (fun _ _ _ _ _ => True) Qm) (X : Stand p l e R s m args below meth c U locs cells slots) {g : JFrame} (hg : g.method = m) (hsize : g.locals.size = c.maxLocals) {ig : Instr} {len : Nat} (hdg : decode c.code g.pc = .ok (ig, len)) {mk : MethodId} (hn : U.methodNamed? y = some mk)
    {maxL : Nat} {methY : Method} {cY : Code} (hmY : U.vm.method? mk = some methY) (hcY : methY.code = some cY) (hlY : cY.maxLocals = maxL) (h3 : (Cond.initialized y.cls).before a U = true)
    (hframes : S.room.frames + 1 ≤ R.frames) (hlocals : 2 * g.monitorRoom + (g.stack.map fun v => v.category).sum + (maxL + 11) + S.room.locals ≤ R.locals) (h4 : cells + S.room.cells ≤ R.cells) (h5 : slots + S.room.slots ≤ R.slots) (h1 : S.pre.before a U = true) (hP : Pm a (U.calling g mk a)) :
    ∃ o u, Steps p.tables e below (doInvoke e (U.setTop g) [] mk a).1 u ∧ Ended u (.java g :: below) o ∧ Qm a (U.calling g mk a) o u := by
  obtain ⟨kY, hkY, -⟩ := className_of_methodNamed hn
  have hinitY : kY.init = .initialized := Cond.initialized_spec (findClass_of_methodNamed hn) hkY h3
  have h : At U g.method c below := by rw [hg]; exact X.here
  have happ : S.appliesLoose y e.platform (U.calling g mk a) = true :=
    Spec.appliesLoose_calling (g := g) h hdg hn hkY hinitY (X.room_calling (g := g) (R' := S.room) hsize hmY hcY hframes (by rw [hlY]; exact hlocals) h4 h5) h1
  obtain ⟨mid, hmid⟩ := h.above
  have hfr : (U.setTop g).frames = (.java g :: mid) ++ below := by rw [State.frames_setTop' g h.top, hmid]; rfl
  obtain ⟨o, u, hsteps, -, hend, hq⟩ := Steps.callFree hM p X.admits X.cas X.clock (acts := []) hfr happ hP trivial
  rw [State.frames_setTop' g h.top, X.tail] at hend
  exact ⟨o, u, hsteps, hend, hq⟩
/-- an exception is on its way out of the instruction at pc -/
def am_Wx (p : Program) (l : Launch) (e : Env) (R : Room) (s : State) (m : MethodId) (args : Array Value) (below : List Frame) (meth : Method) (c : Code) (Q : State → Prop)
    (D : va_G) (cl : List vw_C) (t : Nat → ClassId) (ad : Nat → Nat) (A : Nat → Prop) (H0 : Heap) (nL : Nat) (En : Nat → String) (pc E : Nat) (ls : am_L) (I : am_I) (P : am_P) (J : am_J) (n : Nat) : Prop :=
  ∀ (H : Heap) (locs : List Loc) (cells slots : Nat) (lj : Array Slot) (rest : List Value) (x : Addr) (ce : Cell), va_P D cl (am_ws t ad I P J) H → va_D A (am_ws t ad I P J) → va_S A H0 H locs → lv_has lj nL (am_lm ad ls) →
    cells + n ≤ R.cells → slots + 6 * n ≤ R.slots → H[x]? = some ce → ce.vm = .none → s.vm.findClass (En E) = some ce.cls → ∀ T : State, T.heap = H → Stand p l e R s m args below meth c T locs cells slots →
    ∃ u, Steps p.tables e below ((T.setTop (F0 m pc lj rest)).pushFrame (.throwing x)) u ∧ Q u
section CT
variable {p : Program} {l : Launch} {e : Env} {R : Room} {s : State} {m : MethodId} {args : Array Value} {below : List Frame} {meth : Method} {c : Code} {Q : State → Prop}
variable {D : va_G} {cl : List vw_C} {t : Nat → ClassId} {ad : Nat → Nat} {A : Nat → Prop} {H0 : Heap} {nL : Nat} {cc : ByteArray} {pc nx a b n : Nat} {ls : am_L} {st : List am_V} {I : am_I} {P : am_P} {J : am_J} {En : Nat → String} {K : am_K}
theorem so_out (hlocks : meth.locks = false) (hout : ∀ x ∈ c.exceptionTable.toList, covers x pc = false) {E : Nat} (h : K (.inr E) I P J n) : am_Wx p l e R s m args below meth c (am_Q R below s D cl t ad A H0 En K) D cl t ad A H0 nL En pc E ls I P J n := by
  intro H locs cells slots lj rest x ce hP hD hS hL hc hs h1 h2 h3 T hT X
  obtain ⟨st1, hrun, hend, hW, hsm⟩ := X.leaveThrown x (g := F0 m pc lj rest) rfl rfl rfl hout hlocks
  have hh : (T.setFrames (.throwing x :: below)).heap = H := hT
  refine ⟨_, st1, .threw x, hrun, hend, .inr E, I, P, J, n, locs, cells, slots, h, hW, hsm, hS.2.2, hc, hs, by rw [hh]; exact hP, hD, ⟨by rw [hh]; exact hS.1, fun q g1 g2 => by rw [hh]; exact hS.2.1 q g1 g2, fun _ z => by cases z⟩, x, ce, rfl, by rw [hh]; exact h1, h2, h3⟩
/-- behind a call: the callee's end is the caller's next state, or the exception on its way -/
theorem so_back {C9 : Nat → am_T} {hh : List (Nat × Nat)} {st' : List am_V} {k : Nat} {F Lc : Nat} {H : Heap} {locs : List Loc} {cells slots : Nat} {lj : Array Slot} {U : State} {mk : MethodId} {av : Array Value} {o : Outcome} {u : State} {ig : Instr}
    (hx : ∀ E I' P' J' n', am_hand (am_Wa p l e R s m args below meth c Q D cl t ad A H0 nL) K I' P' J' n' E hh → am_Wx p l e R s m args below meth c Q D cl t ad A H0 nL En pc E ls I' P' J' n')
    (hL : lv_has lj nL (am_lm ad ls)) (hw : am_lw ls) (hS : va_S A H0 H locs) (hc : cells + n ≤ R.cells) (hs : slots + 6 * n ≤ R.slots)
    (X : Stand p l e R s m args below meth c U locs cells slots) (hd : decode c.code pc = .ok (ig, 3))
    (hend : Ended u (.java (F0 m pc lj (st'.map (am_v ad))) :: below) o)
    (hq : am_End (am_rm F Lc n) (U.calling (F0 m pc lj (st'.map (am_v ad))) mk av) D cl t ad A H0 En (am_ret (am_Wa p l e R s m args below meth c Q D cl t ad A H0 nL) K (pc + 3) ls st' hh) o u) :
    ∃ v, Steps p.tables e below u v ∧ Q v := by
  obtain ⟨oa, I', P', J', n', L, k', q', hK, hW, hsame, hLA, hcn, hsn, hP', hD', hS', hout⟩ := hq
  have hS2 : va_S A H0 u.heap (locs ++ L) := ⟨hS'.1, hS'.2.1, fun z hz => by
    rcases List.mem_append.mp hz with z1 | z1
    · exact hS.2.2 z z1
    · exact hLA z z1⟩
  have hcn' : k' + n' ≤ n := hcn
  have hsn' : q' + 6 * n' ≤ 6 * n := hsn
  match oa, hK, hout with
  | .inl v, hK, hout =>
    have ho : o = .returned (v.map (am_v ad)) := hout
    subst ho
    obtain ⟨T', X', -, -, hu⟩ := X.outOf (g := F0 m pc lj (st'.map (am_v ad))) rfl hd hend hW hsame
    have hheap : T'.heap = u.heap := by rw [hu]; rfl
    match v, hK, hu with
    | none, hK, hu =>
      have hK' : (am_Wa p l e R s m args below meth c Q D cl t ad A H0 nL) (pc + 3) ls st' I' P' J' n' := hK
      obtain ⟨w, a1, b1⟩ := hK' u.heap (locs ++ L) (cells + k') (slots + q') lj hP' hD' hS2 hL hw (by omega) (by omega) T' hheap X'
      exact ⟨w, by rw [hu]; exact a1, b1⟩
    | some v, hK, hu =>
      have hK' : (am_Wa p l e R s m args below meth c Q D cl t ad A H0 nL) (pc + 3) ls (v :: st') I' P' J' n' := hK
      obtain ⟨w, a1, b1⟩ := hK' u.heap (locs ++ L) (cells + k') (slots + q') lj hP' hD' hS2 hL hw (by omega) (by omega) T' hheap X'
      exact ⟨w, by rw [hu]; exact a1, b1⟩
  | .inr E, hK, hout =>
    obtain ⟨x, ce, ho, h1, h2, h3⟩ := hout
    subst ho
    obtain ⟨T', X', -, -, hu⟩ := X.outOfThrown (g := F0 m pc lj (st'.map (am_v ad))) rfl hend hW hsame
    have hheap : T'.heap = u.heap := by rw [hu]; rfl
    have h3' : s.vm.findClass (En E) = some ce.cls := by
      have z : U.vm.findClass (En E) = some ce.cls := h3
      rw [X.warmed.alike.findClass] at z
      exact z
    obtain ⟨w, a1, b1⟩ := hx E I' P' J' n' hK u.heap (locs ++ L) (cells + k') (slots + q') lj _ x ce hP' hD' hS2 hL (by omega) (by omega) h1 h2 h3' T' hheap X'
    exact ⟨w, by rw [hu]; exact a1, b1⟩
theorem so_callv (hexec : p.tables.exec = Jvm.exec) (hb : c.code = cc) {Ts : List Cond} (hts : ∀ w ∈ Ts, w.before args s = true) (hK : va_K D cl (am_tys t) s) {own : String} (hown : s.vm.findClass own = some m.cls) (hml : c.maxLocals = nL) {Zk : State → Prop} (hZ : ∀ U : State, s.WarmedH U.vm → va_S A H0 U.heap [] → Zk U)
    {C9 : Nat → am_T} {hh : List (Nat × Nat)} {y : MethodName} {bytes : ByteArray} {maxL idx k F Lc N : Nat} {ret : Option FieldType} {ws : List Cond} {CN : String} {T9 : u_T} (hcl : cl[k]? = some (CN, T9, N))
    (hlink : Cond.methodLink own idx y ∈ Ts) (hinst : Cond.instanceMethod y ∈ Ts) (hsel : Cond.selects CN y y ∈ Ts) (hcode : Cond.code y bytes maxL ret ∈ Ts) (hini : Cond.initialized y.cls ∈ Ts)
    (hy : y.cls ≠ "java/lang/invoke/MethodHandle" ∧ y.cls ≠ "java/lang/invoke/VarHandle") (hnp : (parseMethodDescriptor y.desc).map (fun d => d.parameters.length + 1) = some b)
    (hws : ∀ w ∈ ws, ∀ (a' : Array Value) (U : State), s.WarmedH U.vm → w.before a' U = true) (hini' : ∀ (a' : Array Value) (U : State), s.WarmedH U.vm → (Cond.initialized y.cls).before a' U = true)
    (hM : am_Met l D cl t ad A H0 Zk En y ws F Lc b (C9 a)) (hF : F + 1 ≤ R.frames) (hLc : 8 + (maxL + 11) + Lc ≤ R.locals)
    (hx : ∀ E I' P' J' n', am_hand (am_Wa p l e R s m args below meth c Q D cl t ad A H0 nL) K I' P' J' n' E hh → am_Wx p l e R s m args below meth c Q D cl t ad A H0 nL En pc E ls I' P' J' n')
    (hd : decode cc pc = .ok (.invokevirtual idx, 3) ∧ nx = pc + 3) (h : am_callv C9 (am_Wa p l e R s m args below meth c Q D cl t ad A H0 nL) K nx a b ls st I P J n k hh) : (am_Wa p l e R s m args below meth c Q D cl t ad A H0 nL) pc ls st I P J n := by
  obtain ⟨hd, rfl⟩ := hd
  obtain ⟨pre, st', e1, e2, h⟩ := am_pop_of h
  rw [List.append_nil] at h
  split at h
  · rename_i o as1 hpre
    obtain ⟨hk, h⟩ := h
    split at h
    · rename_i hchk
      rw [Bool.and_eq_true] at hchk
      obtain ⟨hlen, hnol⟩ := hchk
      have hlen : st'.length ≤ 4 := Nat.le_of_ble_eq_true hlen
      intro H locs cells slots lj hP hD hS hL hw hc hs
      intro T hT X
      have hpre' : pre = as1.reverse ++ [.inr (.inr (some o))] := by
        have := congrArg List.reverse hpre
        simpa using this
      have ho := am_kd_lt hk (by decide)
      have e3 := am_ws_at t ad I P J ho
      rw [am_ent5 t ad I P J hk] at e3
      obtain ⟨r9, q1, cell, q2, q3, q4, -⟩ := hP o _ e3
      have hr9 : r9 = (CN, T9, N) := Option.some.inj (q1.symm.trans hcl)
      subst hr9
      obtain ⟨-, hfc, -⟩ := hK.1 k _ hcl
      obtain ⟨mk, methM, hnamed, hmethM, hstM, habM⟩ := Cond.instanceMethod_spec (hts _ hinst)
      obtain ⟨methM', cM, hmethM', hcM, -, hlM, -, -, -, hsigM⟩ := Cond.code_spec hnamed (hts _ hcode)
      cases hmethM.symm.trans hmethM'
      obtain ⟨c2, r2, m2, s1, s2, s3, s4, kP, hkP, hkPi⟩ := Cond.selects_spec (hts _ hsel)
      cases hfc.symm.trans s1
      cases (State.methodFound?_of_named hnamed hy).symm.trans s2
      cases hnamed.symm.trans s3
      have hselP : selectMethod e.platform s.vm cell.cls mk = .method mk := by rw [Launch.admits_selectMethod X.admits, q3]; exact s4
      have hnp' : as1.length = methM.sig.parameters.length := by
        rw [hsigM] at hnp
        have z : methM.sig.parameters.length + 1 = b := Option.some.inj hnp
        have z2 : pre.length = as1.length + 1 := by rw [hpre']; simp
        omega
      have hstk : (st.map (am_v ad)) = (as1.map (am_v ad)).reverse ++ Value.ref (ad o) :: st'.map (am_v ad) := by
        rw [e1, hpre']
        simp [am_v, va_re, va_rf]
      obtain ⟨vm₁, X₁, hstep₁⟩ := X.invokevirtual hexec hown (hts _ hlink) hnamed hmethM hstM hkP hkPi hy (a := ad o) (cell := cell) (by rw [hT]; exact q2)
        (fun z h => by rw [q4] at h; cases h) hselP hmethM habM hkP hkPi (g := F0 m pc lj (st.map (am_v ad))) rfl (argsL := as1.map (am_v ad)) (rest := st'.map (am_v ad)) (by rw [List.length_map]; exact hnp') hstk (by rw [hb]; exact hd)
      have hav : (Value.ref (ad o) :: as1.map (am_v ad)) = (pre.reverse.map (am_v ad)) := by
        rw [hpre']
        simp [am_v, va_re, va_rf]
      have hSn : va_S A H0 T.heap [] := ⟨by rw [hT]; exact hS.1, fun q g1 g2 => by rw [hT]; exact hS.2.1 q g1 g2, fun _ z => by cases z⟩
      obtain ⟨o9, u, hsteps, hend, hq⟩ := so_run (hM pre.reverse I P J n _ h hnol (by rw [List.length_reverse]; exact e2)) X₁ (g := F0 m pc lj (st'.map (am_v ad))) rfl (hL.1.trans hml.symm) (by rw [hb]; exact hd) (X₁.named hnamed) (a := (Value.ref (ad o) :: as1.map (am_v ad)).toArray) (maxL := maxL)
        (by rw [X₁.warmed.alike.method?]; exact hmethM) hcM hlM (hini' _ _ X₁.warmed) hF (by
          have := am_light ad hlen
          show 2 * 0 + ((st'.map (am_v ad)).map fun v => v.category).sum + (maxL + 11) + Lc ≤ R.locals
          omega) hc hs (atoms_intro fun w hw => hws w hw _ _ X₁.warmed)
        ⟨by rw [hav], by show va_P D cl _ T.heap; rw [hT]; exact hP, hD, hSn, va_K.moved (X₁.warmed.alike) hK, hZ _ X₁.warmed hSn⟩
      obtain ⟨w, a1, b1⟩ := so_back (C9 := C9) (k := k) hx hL hw hS hc hs X₁ (by rw [hb]; exact hd) hend hq
      exact ⟨w, hstep₁ _ fun acts => by rw [doInvoke_state]; exact hsteps.trans a1, b1⟩
    · exact h.elim
  · exact h.elim
theorem so_calls (hexec : p.tables.exec = Jvm.exec) (hb : c.code = cc) {Ts : List Cond} (hts : ∀ w ∈ Ts, w.before args s = true) (hK : va_K D cl (am_tys t) s) {own : String} (hown : s.vm.findClass own = some m.cls) (hml : c.maxLocals = nL) {Zk : State → Prop} (hZ : ∀ U : State, s.WarmedH U.vm → va_S A H0 U.heap [] → Zk U)
    {C9 : Nat → am_T} {hh : List (Nat × Nat)} {y : MethodName} {bytes : ByteArray} {maxL idx F Lc : Nat} {ret : Option FieldType} {ws : List Cond}
    (hlink : Cond.methodLink own idx y ∈ Ts ∨ ∃ host, Cond.methodLinkNest own idx y host ∈ Ts) (hstat : Cond.static y ∈ Ts) (hcode : (Cond.code y bytes maxL ret ∈ Ts) ∨ ∃ hn, Cond.codeWith y bytes maxL ret hn ∈ Ts) (hini : Cond.initialized y.cls ∈ Ts)
    (hy : y.cls ≠ "java/lang/invoke/MethodHandle" ∧ y.cls ≠ "java/lang/invoke/VarHandle") (hnp : (parseMethodDescriptor y.desc).map (fun d => d.parameters.length) = some b)
    (hws : ∀ w ∈ ws, ∀ (a' : Array Value) (U : State), s.WarmedH U.vm → w.before a' U = true) (hini' : ∀ (a' : Array Value) (U : State), s.WarmedH U.vm → (Cond.initialized y.cls).before a' U = true)
    (hM : am_Met l D cl t ad A H0 Zk En y ws F Lc b (C9 a)) (hF : F + 1 ≤ R.frames) (hLc : 8 + (maxL + 11) + Lc ≤ R.locals)
    (hx : ∀ E I' P' J' n', am_hand (am_Wa p l e R s m args below meth c Q D cl t ad A H0 nL) K I' P' J' n' E hh → am_Wx p l e R s m args below meth c Q D cl t ad A H0 nL En pc E ls I' P' J' n')
    (hd : decode cc pc = .ok (.invokestatic idx, 3) ∧ nx = pc + 3) (h : am_calls C9 (am_Wa p l e R s m args below meth c Q D cl t ad A H0 nL) K nx a b ls st I P J n hh) : (am_Wa p l e R s m args below meth c Q D cl t ad A H0 nL) pc ls st I P J n := by
  obtain ⟨hd, rfl⟩ := hd
  obtain ⟨pre, st', e1, e2, h⟩ := am_pop_of h
  rw [List.append_nil] at h
  split at h
  · rename_i hchk
    rw [Bool.and_eq_true] at hchk
    obtain ⟨hlen, hnol⟩ := hchk
    have hlen : st'.length ≤ 4 := Nat.le_of_ble_eq_true hlen
    intro H locs cells slots lj hP hD hS hL hw hc hs
    intro T hT X
    obtain ⟨mk, methM, cM, hnamed, hmethM, hcM, hlM, hsigM⟩ : ∃ mk methM cM, s.methodNamed? y = some mk ∧ s.vm.method? mk = some methM ∧ methM.code = some cM ∧ cM.maxLocals = maxL ∧ parseMethodDescriptor y.desc = some methM.sig := by
      rcases hcode with hcode | ⟨hn, hcode⟩
      · obtain ⟨mk, hnamed⟩ := Cond.code_named (hts _ hcode)
        obtain ⟨methM, cM, hmethM, hcM, -, hlM, -, -, -, hsigM⟩ := Cond.code_spec hnamed (hts _ hcode)
        exact ⟨mk, methM, cM, hnamed, hmethM, hcM, hlM, hsigM⟩
      · obtain ⟨mk, methM, cM, hnamed, hmethM, hcM, -, hlM, -, -, -, hsigM⟩ := Cond.codeWith_spec (hts _ hcode)
        exact ⟨mk, methM, cM, hnamed, hmethM, hcM, hlM, hsigM⟩
    have hstatic : methM.isStatic = true := Cond.static_spec hnamed hmethM (hts _ hstat)
    obtain ⟨kP, hkP, -⟩ := className_of_methodNamed hnamed
    have hinitP : kP.init = .initialized := Cond.initialized_spec (findClass_of_methodNamed hnamed) hkP (hts _ hini)
    have hnp' : pre.reverse.length = methM.sig.parameters.length := by
      rw [hsigM] at hnp
      have z : methM.sig.parameters.length = b := Option.some.inj hnp
      rw [List.length_reverse]
      omega
    have hstk : (st.map (am_v ad)) = (pre.reverse.map (am_v ad)).reverse ++ st'.map (am_v ad) := by
      rw [e1]
      simp
    obtain ⟨vm₁, X₁, hstep₁⟩ : ∃ vm₁, Stand p l e R s m args below meth c (T.setVm vm₁) locs cells slots ∧ ∀ target, (∀ acts, Steps p.tables e below (doInvoke e ((T.setVm vm₁).setTop (F0 m pc lj (st'.map (am_v ad)))) acts mk (pre.reverse.map (am_v ad)).toArray).1 target) → Steps p.tables e below (T.setTop (F0 m pc lj (st.map (am_v ad)))) target := by
      rcases hlink with hl | ⟨host, hl⟩
      · exact X.invokestatic hexec hown (hts _ hl) hnamed hmethM hstatic hkP hinitP hy (g := F0 m pc lj (st.map (am_v ad))) rfl (argsL := pre.reverse.map (am_v ad)) (rest := st'.map (am_v ad)) (by rw [List.length_map]; exact hnp') hstk (by rw [hb]; exact hd)
      · exact X.invokestaticNest hexec hown (hts _ hl) hnamed hmethM hstatic hkP hinitP hy (g := F0 m pc lj (st.map (am_v ad))) rfl (argsL := pre.reverse.map (am_v ad)) (rest := st'.map (am_v ad)) (by rw [List.length_map]; exact hnp') hstk (by rw [hb]; exact hd)
    have hSn : va_S A H0 T.heap [] := ⟨by rw [hT]; exact hS.1, fun q g1 g2 => by rw [hT]; exact hS.2.1 q g1 g2, fun _ z => by cases z⟩
    obtain ⟨o9, u, hsteps, hend, hq⟩ := so_run (hM pre.reverse I P J n _ h hnol (by rw [List.length_reverse]; exact e2)) X₁ (g := F0 m pc lj (st'.map (am_v ad))) rfl (hL.1.trans hml.symm) (by rw [hb]; exact hd) (X₁.named hnamed) (a := (pre.reverse.map (am_v ad)).toArray) (maxL := maxL)
      (by rw [X₁.warmed.alike.method?]; exact hmethM) hcM hlM (hini' _ _ X₁.warmed) hF (by
        have := am_light ad hlen
        show 2 * 0 + ((st'.map (am_v ad)).map fun v => v.category).sum + (maxL + 11) + Lc ≤ R.locals
        omega) hc hs (atoms_intro fun w hw => hws w hw _ _ X₁.warmed)
      ⟨rfl, by show va_P D cl _ T.heap; rw [hT]; exact hP, hD, hSn, va_K.moved (X₁.warmed.alike) hK, hZ _ X₁.warmed hSn⟩
    obtain ⟨w, a1, b1⟩ := so_back (C9 := C9) (k := 0) hx hL hw hS hc hs X₁ (by rw [hb]; exact hd) hend hq
    exact ⟨w, hstep₁ _ fun acts => by rw [doInvoke_state]; exact hsteps.trans a1, b1⟩
  · exact h.elim
end CT
