/-! Constructors: worlds that grow. -/
def gw_T : List Cond := lw_tbl.filter goodWord
def gw_in (w : Cond) : Bool := decide (w ∈ lw_tbl) && goodWord w
theorem gw_in_T {w : Cond} (h : gw_in w = true) : w ∈ gw_T := by
  simp only [gw_in, Bool.and_eq_true, decide_eq_true_eq] at h
  exact List.mem_filter.mpr ⟨h.1, h.2⟩
theorem gw_hu : ∀ b, b < 9 → ∀ w ∈ u_ws (am_C b) (am_F b) (am_N b), w ∈ gw_T := fun b hb w hw => List.mem_filter.mpr ⟨am_hu b hb w hw, (by
  have : ∀ b, b < 9 → ∀ w ∈ u_ws (am_C b) (am_F b) (am_N b), goodWord w = true := by decide +kernel
  exact this b hb w hw)⟩
def cn_W (y : MethodName) (cc : ByteArray) (n : Nat) : List Cond := .code y cc n none :: gw_T
theorem cn_G {y : MethodName} {cc : ByteArray} {n : Nat} (h : gw_in (.code y cc n none) = true) : GoodIn gw_T (cn_W y cc n) := by
  intro w hw
  rcases List.mem_cons.mp hw with rfl | hw
  · exact ⟨gw_in_T h, good_of_word (List.mem_filter.mp (gw_in_T h)).2⟩
  · exact ⟨hw, good_of_word (List.mem_filter.mp hw).2⟩
/-- the tables have the class of arrays over ty -/
def cn_AO (ty : FieldType) (U : State) : Prop := (Cond.arrayOver ty).before #[] U = true
theorem cn_AO.moved {ty : FieldType} {u U : State} (hvm : u.vm.Alike U.vm) (h : cn_AO ty u) : cn_AO ty U := by
  have h1 := Cond.arrayOver_setVmC (args := #[]) (s := u) (vm' := U.vm) hvm ty
  unfold cn_AO at h
  rw [h] at h1
  exact h1
/-- constructors that the class calls as their nest mate -/
def cn_nest : List (Nat × MethodName) := [(9, ⟨"LineDebugger$Machine", "<init>", "()V"⟩), (43, ⟨"LineDebugger$Backtrace", "<init>", "()V"⟩), (50, ⟨"LineDebugger$Expression", "<init>", "()V"⟩)]
def cn_K (D : va_G) (t : Nat → ClassId) (U : State) : Prop := va_K D am_cl (am_tys t) U ∧ cn_AO (.object "LineDebugger$Rule") U ∧ cn_AO (.array .int) U ∧ ∀ x ∈ cn_nest, va_Nw (.methodLinkNest "LineDebugger" x.1 x.2 "LineDebugger") U
theorem cn_K.moved {D : va_G} {t : Nat → ClassId} {u U : State} (hW : u.WarmedH U.vm) (h : cn_K D t u) : cn_K D t U := ⟨va_K.moved hW.alike h.1, h.2.1.moved hW.alike, h.2.2.1.moved hW.alike, fun x hx => (h.2.2.2 x hx).warmM hW⟩
def cn_Pre (D : va_G) (t : Nat → ClassId) (q sz : Nat) (As : List Value) (e0 : va_E) : Array Value → State → Prop := va_Pc (.ref q :: As) (fun U => U.heap.size = sz ∧ va_P D am_cl [(q, e0)] U.heap ∧ cn_K D t U)
def cn_Post (D : va_G) (Wp : va_W → Prop) (q sz : Nat) (e0 : va_E) : Array Value → State → Outcome → State → Prop := va_Qv (fun w : va_W => Wp w) (fun w U => va_P D am_cl w U.heap ∧ va_D (va_A [(q, e0)] sz) w) (va_A [(q, e0)] sz)
/-- a constructor: e0 is the blank object, Wp what its cell and the cells that it made are -/
def cn_Met (l : Launch) (D : va_G) (t : Nat → ClassId) (y : MethodName) (cc : ByteArray) (nL F Lc mc ms : Nat) (As : List Value) (e0 : va_E) (Wp : Nat → va_W → Prop) : Prop :=
  ∀ q sz : Nat, Met l y (cn_W y cc nL) { frames := F, cells := mc, slots := ms, locals := Lc } (cn_Pre D t q sz As e0) (cn_Post D (Wp q) q sz e0) mc ms (va_A [(q, e0)] sz)
theorem cn_one {q : Nat} {e0 : va_E} {sz : Nat} : va_D (va_A [(q, e0)] sz) [(q, e0)] := ⟨fun i j x y hi hj _ => by
    have h1 : i < 1 := (List.getElem?_eq_some_iff.mp hi).1
    have h2 : j < 1 := (List.getElem?_eq_some_iff.mp hj).1
    omega, fun k x hk => va_A.in hk⟩
section CN
variable {p : Program} {l : Launch} {e : Env} {R : Room} {s : State} {m : MethodId} {args : Array Value} {below : List Frame} {meth : Method} {c : Code} {H : Heap} {locs : List Loc} {cells slots : Nat} {Q : State → Prop}
variable {cc : ByteArray} {pc : Nat} {ls : Array Slot} {rest : List Value} {D : va_G} {A : Nat → Prop} {a : Nat} {t : Nat → ClassId} {ws : va_W} {H0 : Heap} {nL : Nat} {own : String}
theorem cn_body {y : MethodName} {F Lc mc ms : Nat} {As : List Value} {e0 : va_E} {Wp : Nat → va_W → Prop} (hy : plainName y.cls = true) (hlen : (lg_sl (.ref a :: As)).length ≤ nL)
    (h : ∀ (p : Program) (e : Env) (s : State) (m : MethodId) (args : Array Value) (below : List Frame) (meth : Method) (c : Code) (q : Nat) (ls : Array Slot), p.tables.exec = Jvm.exec → c.code = cc → meth.sig.returnType = none → (∀ w ∈ gw_T, w.before args s = true) → s.vm.findClass y.cls = some m.cls → meth.locks = false → meth.name = y.name → c.maxLocals = nL → cn_K D t s →
      va_P D am_cl [(q, e0)] s.heap → va_D (va_A [(q, e0)] s.heap.size) [(q, e0)] → va_S (va_A [(q, e0)] s.heap.size) s.heap s.heap [] → lv_has ls nL (lv_args 0 (.ref q :: As)) →
      W p l e { frames := F, cells := mc, slots := ms, locals := Lc } s m args below meth c s.heap [] 0 0 (MQ below (cn_Post D (Wp q) q s.heap.size e0) args s mc ms (va_A [(q, e0)] s.heap.size)) (F0 m 0 ls [])) : cn_Met l D t y cc nL F Lc mc ms As e0 Wp := by
  intro q sz
  refine Met.ofW (cc := cc) (maxL := nL) (ret := none) hy rfl ?_
  intro p e s m args below meth c s₁ B hml hv
  obtain ⟨rfl, hsz, hP, hK⟩ := hv
  subst hsz
  have hts := atoms_spec (ws := cn_W y cc nL) B.pre
  have hlen' : (lg_sl (.ref q :: As)).length ≤ nL := hlen
  have hl := lv_entry (.ref q :: As) (n := nL) hlen'
  rw [lg_entry_eq]
  exact h p e s m _ below meth c q _ B.exec B.bytes B.returns (fun w hw => hts w (List.mem_cons_of_mem _ hw)) (findClass_of_methodNamed B.named) B.notSynchronized (name_of_methodNamed B.named B.method).1 hml hK hP cn_one va_S.rf hl
theorem cn_ret {q sz : Nat} {e0 : va_E} {mc ms : Nat} {Wp : va_W → Prop} (hx : p.tables.exec = Jvm.exec) (hb : c.code = cc) (hr : meth.sig.returnType = none) (hlocks : meth.locks = false) (hd : decode cc pc = .ok (.return_, 1)) (hsz : s.heap.size = sz) (hP : va_P D am_cl ws H) (hD : va_D (va_A [(q, e0)] sz) ws) (hS : va_S (va_A [(q, e0)] sz) s.heap H locs) (hWp : Wp ws) (hc : cells = mc) (hs : slots = ms) : W p l e R s m args below meth c H locs cells slots (MQ below (cn_Post D Wp q sz e0) args s mc ms (va_A [(q, e0)] sz)) (F0 m pc ls []) := by
  subst hc
  subst hs
  exact W.vret hx hb hr (fun t ht hW => ⟨⟨ws, rfl, hWp, by rw [ht]; exact hP, hD⟩, hS.F ht⟩) hS.2.2 hd hlocks
theorem cn_obj (hexec : p.tables.exec = Jvm.exec) (hb : c.code = cc) (hts : ∀ w ∈ gw_T, w.before args s = true) (hown : s.vm.findClass own = some m.cls) {idx : Nat} (hl : (gw_in (.methodLink own idx objectInit) && gw_in (.instanceMethod objectInit) && gw_in (.code objectInit ⟨#[0xb1]⟩ 1 none)) = true) (hsz : ls.size = c.maxLocals) (hd : decode cc pc = .ok (.invokespecial idx, 3)) (hf : 1 ≤ R.frames) (hlo : (rest.map fun v => v.category).sum + 12 ≤ R.locals)
    (kk : W p l e R s m args below meth c H locs cells slots Q (F0 m (pc + 3) ls rest)) : W p l e R s m args below meth c H locs cells slots Q (F0 m pc ls (.ref a :: rest)) := by
  simp only [Bool.and_eq_true] at hl
  refine W.objInit hexec hb hown (hts _ (gw_in_T hl.1.1)) (hts _ (gw_in_T hl.1.2)) (hts _ (gw_in_T hl.2)) rfl hsz rfl hd hf (by show 2 * 0 + _ + 12 ≤ _; omega) kk
theorem cn_arr (hexec : p.tables.exec = Jvm.exec) (hb : c.code = cc) (hts : ∀ w ∈ gw_T, w.before args s = true) {atype : ArrayType} {ty : FieldType} (hty : newarray.typeOf atype = ty) (harr : gw_in (.arrayClass ty) = true) (hK : cn_K D t s) {k : Nat} (hk : (am_tys t)[k]? = some (t k, ty)) (hno : ∀ cA, va_RA s cA ty → s.vm.findClass ("[" ++ ty.toString) = some cA) (hP : va_P D am_cl ws H) (hD : va_D A ws) (hS : va_S A H0 H locs) (hA : ∀ q, H0.size ≤ q → A q)
    {n : Int32} {N' : Nat} {a0 : vp_A} (ha : ∀ cA : ClassId, vp_cell cA a0 = arrV cA N' (fun _ => defaultValue ty)) (hn : ¬ n < 0) (hN : n.toNatClampNeg = N') (hbytes : N' * componentBytes ty ≤ 536870912) (hcells : cells + 1 ≤ R.cells) (hslots : slots + N' ≤ R.slots) (hdg : decode cc pc = .ok (.newarray atype, 2))
    (kk : ∀ (q : Nat) (H1 : Heap), va_P D am_cl (ws ++ [(q, .inl (t k, a0))]) H1 → va_D A (ws ++ [(q, .inl (t k, a0))]) → va_S A H0 H1 locs →
      W p l e R s m args below meth c H1 locs (cells + 1) (slots + N') Q (F0 m (pc + 2) ls (.ref q :: rest))) : W p l e R s m args below meth c H locs cells slots Q (F0 m pc ls (.int n :: rest)) := by
  refine va_newa hexec hb (by rw [hty]; exact hts _ (gw_in_T harr)) hty hK.1 hP hD hS hA ha hn hN hbytes hcells hslots hdg (fun q cA H1 hK2 hP1 hD1 hS1 => ?_)
  have h1 := hno _ (hK.1.2 k _ hk).2
  have h2 := hno _ (hK2.2 5 (cA, ty) rfl).2
  have h3 : cA = t k := Option.some.inj (h2.symm.trans h1)
  subst h3
  exact kk q H1 hP1 hD1 hS1
theorem cn_newi (hexec : p.tables.exec = Jvm.exec) (hb : c.code = cc) (hts : ∀ w ∈ gw_T, w.before args s = true) (hK : cn_K D t s) (hP : va_P D am_cl ws H) (hD : va_D A ws) (hS : va_S A H0 H locs) (hA : ∀ q, H0.size ≤ q → A q)
    {n : Int32} {N' : Nat} (hn : ¬ n < 0) (hN : n.toNatClampNeg = N') (hbytes : N' * 4 ≤ 536870912) (hcells : cells + 1 ≤ R.cells) (hslots : slots + N' ≤ R.slots) (hdg : decode cc pc = .ok (.newarray .int, 2))
    (kk : ∀ (q : Nat) (H1 : Heap), va_P D am_cl (ws ++ [(q, .inl (t 0, N', .inl fun _ => 0))]) H1 → va_D A (ws ++ [(q, .inl (t 0, N', .inl fun _ => 0))]) → va_S A H0 H1 locs →
      W p l e R s m args below meth c H1 locs (cells + 1) (slots + N') Q (F0 m (pc + 2) ls (.ref q :: rest))) : W p l e R s m args below meth c H locs cells slots Q (F0 m pc ls (.int n :: rest)) :=
  cn_arr hexec hb hts (ty := .int) rfl (by decide +kernel) hK (k := 0) rfl (fun _ h => h) hP hD hS hA (a0 := (N', .inl fun _ => 0)) (fun _ => rfl) hn hN hbytes hcells hslots hdg kk
theorem cn_newz (hexec : p.tables.exec = Jvm.exec) (hb : c.code = cc) (hts : ∀ w ∈ gw_T, w.before args s = true) (hK : cn_K D t s) (hP : va_P D am_cl ws H) (hD : va_D A ws) (hS : va_S A H0 H locs) (hA : ∀ q, H0.size ≤ q → A q)
    {n : Int32} {N' : Nat} (hn : ¬ n < 0) (hN : n.toNatClampNeg = N') (hbytes : N' * 1 ≤ 536870912) (hcells : cells + 1 ≤ R.cells) (hslots : slots + N' ≤ R.slots) (hdg : decode cc pc = .ok (.newarray .boolean, 2))
    (kk : ∀ (q : Nat) (H1 : Heap), va_P D am_cl (ws ++ [(q, .inl (t 1, N', .inl fun _ => 0))]) H1 → va_D A (ws ++ [(q, .inl (t 1, N', .inl fun _ => 0))]) → va_S A H0 H1 locs →
      W p l e R s m args below meth c H1 locs (cells + 1) (slots + N') Q (F0 m (pc + 2) ls (.ref q :: rest))) : W p l e R s m args below meth c H locs cells slots Q (F0 m pc ls (.int n :: rest)) :=
  cn_arr hexec hb hts (ty := .boolean) rfl (by decide +kernel) hK (k := 1) rfl (fun _ h => h) hP hD hS hA (a0 := (N', .inl fun _ => 0)) (fun _ => rfl) hn hN hbytes hcells hslots hdg kk
theorem cn_newj (hexec : p.tables.exec = Jvm.exec) (hb : c.code = cc) (hts : ∀ w ∈ gw_T, w.before args s = true) (hK : cn_K D t s) (hP : va_P D am_cl ws H) (hD : va_D A ws) (hS : va_S A H0 H locs) (hA : ∀ q, H0.size ≤ q → A q)
    {n : Int32} {N' : Nat} (hn : ¬ n < 0) (hN : n.toNatClampNeg = N') (hbytes : N' * 8 ≤ 536870912) (hcells : cells + 1 ≤ R.cells) (hslots : slots + N' ≤ R.slots) (hdg : decode cc pc = .ok (.newarray .long, 2))
    (kk : ∀ (q : Nat) (H1 : Heap), va_P D am_cl (ws ++ [(q, .inl (t 2, N', .inr (.inl fun _ => 0)))]) H1 → va_D A (ws ++ [(q, .inl (t 2, N', .inr (.inl fun _ => 0)))]) → va_S A H0 H1 locs →
      W p l e R s m args below meth c H1 locs (cells + 1) (slots + N') Q (F0 m (pc + 2) ls (.ref q :: rest))) : W p l e R s m args below meth c H locs cells slots Q (F0 m pc ls (.int n :: rest)) :=
  cn_arr hexec hb hts (ty := .long) rfl (by decide +kernel) hK (k := 2) rfl (fun _ h => h) hP hD hS hA (a0 := (N', .inr (.inl fun _ => 0))) (fun _ => rfl) hn hN hbytes hcells hslots hdg kk
theorem cn_new (hexec : p.tables.exec = Jvm.exec) (hb : c.code = cc) (hts : ∀ w ∈ gw_T, w.before args s = true) (hown : s.vm.findClass own = some m.cls) {idx : Nat} (ci : Nat) (hci : ci < 9) (hw : (gw_in (.classLink own idx (am_C ci)) && gw_in (.instantiable (am_C ci) (am_N ci)) && gw_in (.initialized (am_C ci))) = true) (hK : cn_K D t s) (hP : va_P D am_cl ws H) (hD : va_D A ws) (hS : va_S A H0 H locs) (hA : ∀ q, H0.size ≤ q → A q)
    {fs : List Value} (hfs : ∀ j, j < am_N ci → defaultValue (am_ty ci j) = vp_V fs j) (hcells : cells + 1 ≤ R.cells) (hslots : slots + am_N ci ≤ R.slots) (hdg : decode cc pc = .ok (.new idx, 3))
    (kk : ∀ (q : Nat) (H1 : Heap), va_P D am_cl (ws ++ [(q, .inr (ci, fs))]) H1 → va_D A (ws ++ [(q, .inr (ci, fs))]) → va_S A H0 H1 locs →
      W p l e R s m args below meth c H1 locs (cells + 1) (slots + am_N ci) Q (F0 m (pc + 3) ls (.ref q :: rest))) : W p l e R s m args below meth c H locs cells slots Q (F0 m pc ls rest) := by
  simp only [Bool.and_eq_true] at hw
  exact va_new (ci := ci) (C := am_C ci) (T := am_F ci) (N := am_N ci) hexec hb hts (gw_hu ci hci) (am_ty ci) (am_tyok ci hci) hown (hts _ (gw_in_T hw.1.1)) (hts _ (gw_in_T hw.1.2)) (hts _ (gw_in_T hw.2)) hK.1 hP hD hS hA (am_cl_at ci hci) hfs hcells hslots hdg kk
theorem cn_get (hexec : p.tables.exec = Jvm.exec) (hb : c.code = cc) (hts : ∀ w ∈ gw_T, w.before args s = true) (hown : s.vm.findClass own = some m.cls) {idx : Nat} (ci : Nat) (hci : ci < 9) (k : Nat) (hk : k < am_N ci) (hw : gw_in (.fieldLink own idx (am_F ci k).1 (am_F ci k).2.1 (am_F ci k).2.2.1) = true) (hK : cn_K D t s) (hP : va_P D am_cl ws H) (q0 : Nat) {fs : List Value} (he : ws[q0]? = some (a, .inr (ci, fs))) {v : Value} (hv : fs[k]? = some v) (hdg : decode cc pc = .ok (.getfield idx, 3))
    (kk : W p l e R s m args below meth c H locs cells slots Q (F0 m (pc + 3) ls (v :: rest))) : W p l e R s m args below meth c H locs cells slots Q (F0 m pc ls (.ref a :: rest)) :=
  va_get (C := am_C ci) (T := am_F ci) (N := am_N ci) hexec hb hts (gw_hu ci hci) hown hK.1 hP q0 he (am_cl_at ci hci) k hk (hts _ (gw_in_T hw)) (fun _ h => h) hv hdg kk
/-- a field of the object under construction, final or not -/
theorem cn_put (hexec : p.tables.exec = Jvm.exec) (hb : c.code = cc) (hts : ∀ w ∈ gw_T, w.before args s = true) (hown : s.vm.findClass own = some m.cls) (hin : meth.name = "<init>") {idx : Nat} (ci : Nat) (hci : ci < 9) (k : Nat) (hk : k < am_N ci) (hw : gw_in (.fieldLink own idx (am_F ci k).1 (am_F ci k).2.1 (am_F ci k).2.2.1) = true) (hdecl : (am_F ci k).1 = own) (hK : cn_K D t s) (hP : va_P D am_cl ws H) (hD : va_D A ws) (hS : va_S A H0 H locs) (q0 : Nat) {fs : List Value} (he : ws[q0]? = some (a, .inr (ci, fs))) {v : Value} (hn : narrow (am_ty ci k) v = v) (hfit : fits (am_ty ci k) v = true) (hl : k < fs.length) (hdg : decode cc pc = .ok (.putfield idx, 3))
    (kk : ∀ (H1 : Heap) (locs1 : List Loc), va_P D am_cl (ws.set q0 (a, .inr (ci, fs.set k v))) H1 → va_D A (ws.set q0 (a, .inr (ci, fs.set k v))) → va_S A H0 H1 locs1 → W p l e R s m args below meth c H1 locs1 cells slots Q (F0 m (pc + 3) ls rest)) : W p l e R s m args below meth c H locs cells slots Q (F0 m pc ls (v :: .ref a :: rest)) := by
  cases hf : (am_F ci k).2.2.2 with
  | true => exact va_putF (C := am_C ci) (T := am_F ci) (N := am_N ci) hexec hb hts (gw_hu ci hci) (am_ty ci) (am_tyok ci hci) (am_nm ci hci) hown hK.1 hP hD hS q0 he (am_cl_at ci hci) k hk (hts _ (gw_in_T hw)) (fun _ h => h) hf hin hdecl (am_tyok ci hci k hk) hn hfit hl hdg kk
  | false => exact va_put (C := am_C ci) (T := am_F ci) (N := am_N ci) hexec hb hts (gw_hu ci hci) (am_ty ci) (am_tyok ci hci) (am_nm ci hci) hown hK.1 hP hD hS q0 he (am_cl_at ci hci) k hk (hts _ (gw_in_T hw)) (fun _ h => h) hf (am_tyok ci hci k hk) hn hfit hl hdg kk
theorem cn_cont {mc ms q : Nat} {st : List Value} {e0 : va_E} {Wp : va_W → Prop} {av : Array Value} (hr : va_Run p l e R s m args below meth c H locs cells slots mc ms (F0 m pc ls st) rest (cn_Post D Wp q H.size e0 av) (va_A [(q, e0)] H.size))
    (hP : va_P D am_cl (ws ++ [(q, e0)]) H) (hD : va_D A (ws ++ [(q, e0)])) (hS : va_S A H0 H locs) (hA : ∀ q, H0.size ≤ q → A q)
    (kk : ∀ (w1 : va_W) (H1 : Heap) (locs1 : List Loc), Wp w1 → va_P D am_cl (ws ++ w1) H1 → va_D A (ws ++ w1) → va_S A H0 H1 locs1 → W p l e R s m args below meth c H1 locs1 (cells + mc) (slots + ms) Q (F0 m (pc + 3) ls rest)) : W p l e R s m args below meth c H locs cells slots Q (F0 m pc ls st) := by
  have hlast : (ws ++ [(q, e0)])[ws.length]? = some (q, e0) := by simp
  have hF : ∀ x, va_A [(q, e0)] H.size x → A x := fun x h => by
    rcases h with ⟨k, e1, h⟩ | h
    · have h1 := List.mem_of_getElem? h
      have h2 : x = q := by simpa using congrArg Prod.fst (List.mem_singleton.mp h1)
      rw [h2]
      exact hD.2 _ _ hlast
    · exact hA x (Nat.le_trans hS.1 h)
  refine va_callv hr hS (fun x _ h => hF x h) hF (fun u t9 H1 locs1 ht hvm hp hB hz1 hk1 hS1 => ?_)
  obtain ⟨hP2, hD2⟩ := hB
  rw [ht] at hP2
  have hleft : ∀ (k : Nat) (x : Nat × va_E), ws[k]? = some x → (ws ++ [(q, e0)])[k]? = some x := fun k x hx => by
    rw [List.getElem?_append_left (List.getElem?_eq_some_iff.mp hx).1]
    exact hx
  have hap : ∀ (k : Nat) (x : Nat × va_E), ws[k]? = some x → ¬ va_A [(q, e0)] H.size x.1 := fun k x hx h => by
    have hx' := hleft k x hx
    rcases h with ⟨k2, e1, h⟩ | h
    · have h1 := List.mem_singleton.mp (List.mem_of_getElem? h)
      have h2 : x.1 = q := congrArg Prod.fst h1
      have h3 := hD.1 k ws.length x (q, e0) hx' hlast h2
      have h4 := (List.getElem?_eq_some_iff.mp hx).1
      omega
    · have := (hP k x hx').lt
      omega
  refine kk u H1 locs1 hp (va_P.app (fun k x hx => ?_) hP2) (va_D.app ⟨fun i j x y hx hy h => hD.1 i j x y (hleft i x hx) (hleft j y hy) h, fun k x hx => hD.2 k x (hleft k x hx)⟩ (hD2.weaken (fun k x _ h => hF x.1 h)) (fun i j x y hx hy hxy => hap i x hx (by rw [hxy]; exact hD2.2 j y hy))) hS1
  exact (hP k x (hleft k x hx)).kept (hk1 x.1 (hP k x (hleft k x hx)).lt (hap k x hx))
theorem cn_pres {q : Nat} {As : List Value} {e0 : va_E} (hK : cn_K D t s) (hP : va_P D am_cl (ws ++ [(q, e0)]) H) : PreS s H (cn_Pre D t q H.size As e0) (.ref q :: As) := by
  have hP1 : va_P D am_cl [(q, e0)] H := fun k x hx => by
    have h1 := List.mem_singleton.mp (List.mem_of_getElem? hx)
    rw [h1]
    exact hP ws.length _ (by simp)
  exact ⟨fun a U g mk z => by obtain ⟨z0, z1, z2, z3⟩ := z; exact ⟨z0, z1, z2, cn_K.moved (u := U) (U := U.calling g mk a) (State.WarmedH.refl U) z3⟩, fun U hU hW => ⟨rfl, by rw [hU], by rw [hU]; exact hP1, hK.moved hW⟩⟩
/-- a constructor's call, on the object that was made last -/
theorem cn_call {y : MethodName} {cy : ByteArray} {nY F Lc mc ms idx q : Nat} (n : Nat) {As st : List Value} {e0 : va_E} {Wp : Nat → va_W → Prop} (hM : cn_Met l D t y cy nY F Lc mc ms As e0 Wp) (hexec : p.tables.exec = Jvm.exec) (hb : c.code = cc) (hml : c.maxLocals = nL) (hts : ∀ w ∈ gw_T, w.before args s = true) (hown : s.vm.findClass own = some m.cls)
    (hw : (gw_in (.code y cy nY none) && gw_in (.initialized y.cls) && gw_in (.methodLink own idx y) && gw_in (.instanceMethod y)) = true) (hy : y.name = "<init>") (hd : y.cls ≠ "java/lang/invoke/MethodHandle" ∧ y.cls ≠ "java/lang/invoke/VarHandle" ∧ (parseMethodDescriptor y.desc).map (fun d => d.parameters.length) = some n) (hR : F + 1 ≤ R.frames ∧ 8 + (nY + 11) + Lc ≤ R.locals)
    (hK : cn_K D t s) (hP : va_P D am_cl (ws ++ [(q, e0)]) H) (hD : va_D A (ws ++ [(q, e0)])) (hS : va_S A H0 H locs) (hA : ∀ q, H0.size ≤ q → A q) (hn : As.length = n) (hsz : ls.size = nL) (hst : st = As.reverse ++ .ref q :: rest) (hrl : (rest.map fun v => v.category).sum ≤ 8) (hdg : decode cc pc = .ok (.invokespecial idx, 3)) (hf : cells + mc ≤ R.cells ∧ slots + ms ≤ R.slots)
    (kk : ∀ (w1 : va_W) (H1 : Heap) (locs1 : List Loc), Wp q w1 → va_P D am_cl (ws ++ w1) H1 → va_D A (ws ++ w1) → va_S A H0 H1 locs1 → W p l e R s m args below meth c H1 locs1 (cells + mc) (slots + ms) Q (F0 m (pc + 3) ls rest)) : W p l e R s m args below meth c H locs cells slots Q (F0 m pc ls st) := by
  simp only [Bool.and_eq_true] at hw
  obtain ⟨⟨⟨w1, w2⟩, w3⟩, w4⟩ := hw
  exact cn_cont (va_runI (As := As) (rest := rest) ⟨hexec, hb, hml, hown, hts⟩ (hM q H.size) (cwI n hts (cn_G w1) rfl rfl rfl (hts _ (gw_in_T w2)) (hts _ (gw_in_T w3)) (hts _ (gw_in_T w4)) hy hd hR) (cn_pres hK hP) rfl hn hsz hst (lv_room hrl) hdg hf) hP hD hS hA kk
/-- the same, of a nest mate's private constructor -/
theorem cn_callN {y : MethodName} {cy : ByteArray} {nY F Lc mc ms idx q : Nat} (n : Nat) {As st : List Value} {e0 : va_E} {Wp : Nat → va_W → Prop} (hM : cn_Met l D t y cy nY F Lc mc ms As e0 Wp) (hexec : p.tables.exec = Jvm.exec) (hb : c.code = cc) (hml : c.maxLocals = nL) (hts : ∀ w ∈ gw_T, w.before args s = true) (hown : s.vm.findClass "LineDebugger" = some m.cls)
    (hw : (gw_in (.code y cy nY none) && gw_in (.initialized y.cls) && decide ((idx, y) ∈ cn_nest) && gw_in (.instanceMethod y)) = true) (hy : y.name = "<init>") (hd : y.cls ≠ "java/lang/invoke/MethodHandle" ∧ y.cls ≠ "java/lang/invoke/VarHandle" ∧ (parseMethodDescriptor y.desc).map (fun d => d.parameters.length) = some n) (hR : F + 1 ≤ R.frames ∧ 8 + (nY + 11) + Lc ≤ R.locals)
    (hK : cn_K D t s) (hP : va_P D am_cl (ws ++ [(q, e0)]) H) (hD : va_D A (ws ++ [(q, e0)])) (hS : va_S A H0 H locs) (hA : ∀ q, H0.size ≤ q → A q) (hn : As.length = n) (hsz : ls.size = nL) (hst : st = As.reverse ++ .ref q :: rest) (hrl : (rest.map fun v => v.category).sum ≤ 8) (hdg : decode cc pc = .ok (.invokespecial idx, 3)) (hf : cells + mc ≤ R.cells ∧ slots + ms ≤ R.slots)
    (kk : ∀ (w1 : va_W) (H1 : Heap) (locs1 : List Loc), Wp q w1 → va_P D am_cl (ws ++ w1) H1 → va_D A (ws ++ w1) → va_S A H0 H1 locs1 → W p l e R s m args below meth c H1 locs1 (cells + mc) (slots + ms) Q (F0 m (pc + 3) ls rest)) : W p l e R s m args below meth c H locs cells slots Q (F0 m pc ls st) := by
  simp only [Bool.and_eq_true, decide_eq_true_eq] at hw
  obtain ⟨⟨⟨w1, w2⟩, w3⟩, w4⟩ := hw
  exact cn_cont (va_runIN (As := As) (rest := rest) ⟨hexec, hb, hml, hown, hts⟩ (hM q H.size) ⟨va_cnB n hts (cn_G w1) rfl rfl rfl (hK.2.2.2 _ w3) (hts _ (gw_in_T w2)) hd hR, hy, hts _ (gw_in_T w4)⟩ (cn_pres hK hP) rfl hn hsz hst (lv_room hrl) hdg hf) hP hD hS hA kk
end CN
