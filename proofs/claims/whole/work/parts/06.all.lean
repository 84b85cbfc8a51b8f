/-! The check of a table against a method's bytes; what a checked table says is so. -/
def am_f4 (a : Nat) : Fin 4 := ⟨a % 4, Nat.mod_lt _ (by decide)⟩
def am_sw (pc : Nat) : Int → List Int → List (Int32 × Nat) → Bool
  | _, [], [] => true
  | lo, o :: os, (v, g) :: r => decide (v.toInt = lo) && decide ((pc : Int) + o = (g : Int)) && am_sw pc (lo + 1) os r
  | _, _, _ => false
def am_isr : Option FieldType → Bool
  | some (.object _) => true
  | some (.array _) => true
  | _ => false
def am_row (nL : Nat) (ret : Option FieldType) (fl : List (Nat × Nat × Nat)) (vl : List (Nat × Nat × Nat × Nat)) (sl : List (Nat × Nat × Nat)) (xl : List (Nat × Nat × Nat × Nat)) (cpl : List Nat) (hok : Nat → List (Nat × Nat) → Bool) (cc : ByteArray) (pc : Nat) (row : am_R) : Bool :=
  match row with
  | (i, nx, a, b, k, sw, hs) => match i with
    | .nop => true
    | .iconst v => (decide (decode cc pc = .ok (.iconst v, 1)) && decide (Int32.ofInt v = k) && decide (nx = pc + 1)) || ((decide (decode cc pc = .ok (.bipush v, 2)) && decide ((Int8.ofInt v).toInt32 = k) && decide (nx = pc + 2)) || (decide (decode cc pc = .ok (.sipush v, 3)) && decide ((Int16.ofInt v).toInt32 = k) && decide (nx = pc + 3)))
    | .iload _ => (decide (decode cc pc = .ok (.iload a, 2)) && decide (nx = pc + 2)) || (decide (a < 4) && decide (decode cc pc = .ok (.iload_n (am_f4 a), 1)) && decide (nx = pc + 1))
    | .aload _ => (decide (decode cc pc = .ok (.aload a, 2)) && decide (nx = pc + 2)) || (decide (a < 4) && decide (decode cc pc = .ok (.aload_n (am_f4 a), 1)) && decide (nx = pc + 1))
    | .istore _ => decide (a < nL) && ((decide (decode cc pc = .ok (.istore a, 2)) && decide (nx = pc + 2)) || (decide (a < 4) && decide (decode cc pc = .ok (.istore_n (am_f4 a), 1)) && decide (nx = pc + 1)))
    | .astore _ => decide (a < nL) && ((decide (decode cc pc = .ok (.astore a, 2)) && decide (nx = pc + 2)) || (decide (a < 4) && decide (decode cc pc = .ok (.astore_n (am_f4 a), 1)) && decide (nx = pc + 1)))
    | .iinc _ v => decide (a < nL) && decide (Int32.ofInt v = k) && decide (decode cc pc = .ok (.iinc a v, 3)) && decide (nx = pc + 3)
    | .iadd => decide (decode cc pc = .ok (.iadd, 1)) && decide (nx = pc + 1)
    | .isub => decide (decode cc pc = .ok (.isub, 1)) && decide (nx = pc + 1)
    | .imul => decide (decode cc pc = .ok (.imul, 1)) && decide (nx = pc + 1)
    | .iand => decide (decode cc pc = .ok (.iand, 1)) && decide (nx = pc + 1)
    | .ior => decide (decode cc pc = .ok (.ior, 1)) && decide (nx = pc + 1)
    | .ixor => decide (decode cc pc = .ok (.ixor, 1)) && decide (nx = pc + 1)
    | .ishl => decide (decode cc pc = .ok (.ishl, 1)) && decide (nx = pc + 1)
    | .ishr => decide (decode cc pc = .ok (.ishr, 1)) && decide (nx = pc + 1)
    | .iushr => decide (decode cc pc = .ok (.iushr, 1)) && decide (nx = pc + 1)
    | .idiv => decide (decode cc pc = .ok (.idiv, 1)) && decide (nx = pc + 1)
    | .irem => decide (decode cc pc = .ok (.irem, 1)) && decide (nx = pc + 1)
    | .dup => decide (decode cc pc = .ok (.dup, 1)) && decide (nx = pc + 1)
    | .dup2 => decide (decode cc pc = .ok (.dup2, 1)) && decide (nx = pc + 1)
    | .i2l => decide (decode cc pc = .ok (.i2l, 1)) && decide (nx = pc + 1)
    | .lcmp => decide (decode cc pc = .ok (.lcmp, 1)) && decide (nx = pc + 1)
    | .iaload => decide (decode cc pc = .ok (.iaload, 1)) && decide (nx = pc + 1)
    | .iastore => decide (decode cc pc = .ok (.iastore, 1)) && decide (nx = pc + 1)
    | .baload => decide (decode cc pc = .ok (.baload, 1)) && decide (nx = pc + 1)
    | .bastore => decide (decode cc pc = .ok (.bastore, 1)) && decide (nx = pc + 1)
    | .aaload => decide (decode cc pc = .ok (.aaload, 1)) && decide (nx = pc + 1)
    | .laload => decide (decode cc pc = .ok (.laload, 1)) && decide (nx = pc + 1)
    | .lastore => decide (decode cc pc = .ok (.lastore, 1)) && decide (nx = pc + 1)
    | .arraylength => decide (decode cc pc = .ok (.arraylength, 1)) && decide (nx = pc + 1)
    | .aconst_null => decide (decode cc pc = .ok (.aconst_null, 1)) && decide (nx = pc + 1)
    | .ifCond q o => decide (decode cc pc = .ok (.ifCond q o, 3)) && decide ((pc : Int) + o = (a : Int)) && decide (nx = pc + 3)
    | .if_icmp q o => decide (decode cc pc = .ok (.if_icmp q o, 3)) && decide ((pc : Int) + o = (a : Int)) && decide (nx = pc + 3)
    | .ifnonnull o => decide (decode cc pc = .ok (.ifnonnull o, 3)) && decide ((pc : Int) + o = (a : Int)) && decide (nx = pc + 3)
    | .goto o => decide (decode cc pc = .ok (.goto o, 3)) && decide ((pc : Int) + o = (a : Int))
    | .tableswitch d lo hi offs => decide (decode cc pc = .ok (.tableswitch d lo hi offs, b)) && decide ((pc : Int) + d = (a : Int)) && decide (hi + 1 = lo + (offs.toList.length : Int)) && am_sw pc lo offs.toList sw
    | .getfield x => decide (decode cc pc = .ok (.getfield x, 3)) && decide (nx = pc + 3) && decide ((x, b, a) ∈ fl) && decide (b < 9) && decide (a < am_N b) && decide ((am_fk b)[a]? = some (!hs.isEmpty))
    | .putfield x => decide (decode cc pc = .ok (.putfield x, 3)) && decide (nx = pc + 3) && decide ((x, b, a) ∈ fl) && decide (b < 9) && decide (a < am_N b) && decide ((am_fk b)[a]? = some (!hs.isEmpty)) && decide ((am_F b a).2.2.2 = false) && (match hs with
      | [] => decide (parseFieldDescriptor (am_F b a).2.2.1 = some .int)
      | _ => am_isr (parseFieldDescriptor (am_F b a).2.2.1))
    | .swap => sw.any fun q => decide (q.2 ∈ cpl) && decide (decode cc pc = .ok (.invokestatic q.2, 3)) && decide (nx = pc + 3)
    | .ireturn => decide (decode cc pc = .ok (.ireturn, 1)) && ((decide (b = 0) && decide (ret = some .int)) || (decide (b = 1) && decide (ret = some .boolean)))
    | .areturn => decide (decode cc pc = .ok (.areturn, 1)) && am_isr ret
    | .return_ => decide (decode cc pc = .ok (.return_, 1)) && decide (ret = none)
    | .athrow => xl.any fun q => decide (q.2.2.2 = a) && decide (decode cc pc = .ok (.new q.1, 3)) && decide (decode cc (pc + 3) = .ok (.dup, 1)) && decide (decode cc (pc + 4) = .ok (.ldc q.2.1, 2)) && decide (decode cc (pc + 6) = .ok (.invokespecial q.2.2.1, 3)) && decide (decode cc (pc + 9) = .ok (.athrow, 1))
    | .invokevirtual x => decide (decode cc pc = .ok (.invokevirtual x, 3)) && decide (nx = pc + 3) && hok pc hs && (match sw with
      | (_, q) :: _ => decide ((x, a, b, q) ∈ vl)
      | [] => false)
    | .invokestatic x => decide (decode cc pc = .ok (.invokestatic x, 3)) && decide (nx = pc + 3) && hok pc hs && decide ((x, a, b) ∈ sl)
    | _ => false
theorem am_sw_of {pc : Nat} : ∀ {lo : Int} {os : List Int} {sw : List (Int32 × Nat)}, am_sw pc lo os sw = true →
    (∀ q ∈ sw, ∃ (j : Nat) (off : Int), os[j]? = some off ∧ q.1.toInt = lo + (j : Int) ∧ (pc : Int) + off = (q.2 : Int)) ∧ (∀ j, j < os.length → ∃ q ∈ sw, q.1.toInt = lo + (j : Int))
  | _, [], [], _ => ⟨fun q hq => (by cases hq), fun j hj => absurd hj (Nat.not_lt_zero _)⟩
  | lo, o :: os, (v, g) :: r, h => by
    simp only [am_sw, Bool.and_eq_true, decide_eq_true_eq] at h
    obtain ⟨⟨h1, h2⟩, h3⟩ := h
    obtain ⟨i1, i2⟩ := am_sw_of h3
    refine ⟨fun q hq => ?_, fun j hj => ?_⟩
    · rcases List.mem_cons.mp hq with rfl | hq
      · exact ⟨0, o, rfl, by simpa using h1, h2⟩
      · obtain ⟨j, off, e1, e2, e3⟩ := i1 q hq
        exact ⟨j + 1, off, by simpa using e1, by rw [e2]; push_cast; omega, e3⟩
    · cases j with
      | zero => exact ⟨(v, g), List.mem_cons_self, by simpa using h1⟩
      | succ j =>
        obtain ⟨q, e1, e2⟩ := i2 j (by simpa using hj)
        exact ⟨q, List.mem_cons_of_mem _ e1, by rw [e2]; push_cast; omega⟩
  | _, [], _ :: _, h => by simp [am_sw] at h
  | _, _ :: _, [], h => by simp [am_sw] at h
theorem am_f4_val {a : Nat} (h : a < 4) : (am_f4 a).val = a := Nat.mod_eq_of_lt h
section ALL
variable {p : Program} {l : Launch} {e : Env} {R : Room} {s : State} {m : MethodId} {args : Array Value} {below : List Frame} {meth : Method} {c : Code}
variable {D : va_G} {t : Nat → ClassId} {ad : Nat → Nat} {A : Nat → Prop} {H0 : Heap} {nL : Nat} {cc : ByteArray} {En : Nat → String} {K : am_K}
set_option maxHeartbeats 4000000 in
theorem so_all (hexec : p.tables.exec = Jvm.exec) (hb : c.code = cc) {Ts : List Cond} (hts : ∀ w ∈ Ts, w.before args s = true) (hK : va_K D am_cl (am_tys t) s) {own : String} (hown : s.vm.findClass own = some m.cls) (hml : c.maxLocals = nL) (hlocks : meth.locks = false) {ret : Option FieldType} (hret : meth.sig.returnType = ret)
    {sc : am_S} (hX : va_X (ad 900) sc.1 sc.2 s H0) (hbl : ad 900 < H0.size) (hbA : ¬ A (ad 900)) (hu : ∀ b, b < 9 → ∀ w ∈ u_ws (am_C b) (am_F b) (am_N b), w ∈ Ts)
    {fl : List (Nat × Nat × Nat)} (hfl : ∀ q ∈ fl, Cond.fieldLink own q.1 (am_F q.2.1 q.2.2).1 (am_F q.2.1 q.2.2).2.1 (am_F q.2.1 q.2.2).2.2.1 ∈ Ts)
    {C9 : Nat → am_T} {vl : List (Nat × Nat × Nat × Nat)} {sl : List (Nat × Nat × Nat)} {xl : List (Nat × Nat × Nat × Nat)} {cpl : List Nat} {hok : Nat → List (Nat × Nat) → Bool}
    (hcp : ∀ x ∈ cpl, Cond.methodLink own x arraycopyName ∈ Ts ∧ Cond.native arraycopyName ∈ Ts ∧ Cond.static arraycopyName ∈ Ts ∧ Cond.initialized "java/lang/System" ∈ Ts ∧ 1 ≤ R.frames ∧ nativeFrameWords "java/lang/System" "arraycopy" 5 + 11 ≤ R.locals)
    (hcv : ∀ x a b k pc ls st I P J n hh, (x, a, b, k) ∈ vl → hok pc hh = true → decode cc pc = .ok (.invokevirtual x, 3) → am_callv C9 (am_Wa p l e R s m args below meth c (am_Q R below s D am_cl t ad A H0 En K) D am_cl t ad A H0 nL) K (pc + 3) a b ls st I P J n k hh → (am_Wa p l e R s m args below meth c (am_Q R below s D am_cl t ad A H0 En K) D am_cl t ad A H0 nL) pc ls st I P J n)
    (hcs : ∀ x a b pc ls st I P J n hh, (x, a, b) ∈ sl → hok pc hh = true → decode cc pc = .ok (.invokestatic x, 3) → am_calls C9 (am_Wa p l e R s m args below meth c (am_Q R below s D am_cl t ad A H0 En K) D am_cl t ad A H0 nL) K (pc + 3) a b ls st I P J n hh → (am_Wa p l e R s m args below meth c (am_Q R below s D am_cl t ad A H0 En K) D am_cl t ad A H0 nL) pc ls st I P J n)
    (hth : ∀ x y z E pc ls st I P J n, (x, y, z, E) ∈ xl → decode cc pc = .ok (.new x, 3) → decode cc (pc + 3) = .ok (.dup, 1) → decode cc (pc + 4) = .ok (.ldc y, 2) → decode cc (pc + 6) = .ok (.invokespecial z, 3) → decode cc (pc + 9) = .ok (.athrow, 1) → am_throw K E st I P J n → (am_Wa p l e R s m args below meth c (am_Q R below s D am_cl t ad A H0 En K) D am_cl t ad A H0 nL) pc ls st I P J n)
    {tb : Nat → am_R} (hrow : ∀ pc, am_row nL ret fl vl sl xl cpl hok cc pc (tb pc) = true) : am_closed sc C9 tb (am_Wa p l e R s m args below meth c (am_Q R below s D am_cl t ad A H0 En K) D am_cl t ad A H0 nL) K := by
  intro pc ls st I P J n h
  have hr := hrow pc
  generalize tb pc = row at h hr
  obtain ⟨i, nx, a, b, k, sw, hs⟩ := row
  cases i with
  | iconst v =>
    simp only [am_row, Bool.and_eq_true, Bool.or_eq_true, decide_eq_true_eq] at hr
    refine so_const hexec hb (v := v) (k := k) (nx := nx) ?_ h
    rcases hr with ⟨⟨h1, h2⟩, h3⟩ | ⟨⟨h1, h2⟩, h3⟩ | ⟨⟨h1, h2⟩, h3⟩
    · exact Or.inl ⟨h1, h2, h3⟩
    · exact Or.inr (Or.inl ⟨h1, h2, h3⟩)
    · exact Or.inr (Or.inr ⟨h1, h2, h3⟩)
  | iload x =>
    simp only [am_row, Bool.and_eq_true, Bool.or_eq_true, decide_eq_true_eq] at hr
    refine so_iload hexec hb (a := a) (nx := nx) ?_ h
    rcases hr with ⟨h1, h2⟩ | ⟨⟨h1, h2⟩, h3⟩
    · exact Or.inl ⟨h1, h2⟩
    · exact Or.inr ⟨am_f4 a, am_f4_val h1, h2, h3⟩
  | aload x =>
    simp only [am_row, Bool.and_eq_true, Bool.or_eq_true, decide_eq_true_eq] at hr
    refine so_aload hexec hb (a := a) (nx := nx) ?_ h
    rcases hr with ⟨h1, h2⟩ | ⟨⟨h1, h2⟩, h3⟩
    · exact Or.inl ⟨h1, h2⟩
    · exact Or.inr ⟨am_f4 a, am_f4_val h1, h2, h3⟩
  | istore x =>
    simp only [am_row, Bool.and_eq_true, Bool.or_eq_true, decide_eq_true_eq] at hr
    refine so_istore hexec hb (a := a) (nx := nx) hr.1 ?_ h
    rcases hr.2 with ⟨h1, h2⟩ | ⟨⟨h1, h2⟩, h3⟩
    · exact Or.inl ⟨h1, h2⟩
    · exact Or.inr ⟨am_f4 a, am_f4_val h1, h2, h3⟩
  | astore x =>
    simp only [am_row, Bool.and_eq_true, Bool.or_eq_true, decide_eq_true_eq] at hr
    refine so_astore hexec hb (a := a) (nx := nx) hr.1 ?_ h
    rcases hr.2 with ⟨h1, h2⟩ | ⟨⟨h1, h2⟩, h3⟩
    · exact Or.inl ⟨h1, h2⟩
    · exact Or.inr ⟨am_f4 a, am_f4_val h1, h2, h3⟩
  | iinc x v =>
    simp only [am_row, Bool.and_eq_true, decide_eq_true_eq] at hr
    obtain ⟨⟨⟨h1, h2⟩, h3⟩, h4⟩ := hr
    exact so_iinc hexec hb (a := a) (nx := nx) h1 h2 ⟨h3, h4⟩ h
  | iadd =>
    simp only [am_row, Bool.and_eq_true, decide_eq_true_eq] at hr
    exact so_iadd hexec hb (nx := nx) hr h
  | isub =>
    simp only [am_row, Bool.and_eq_true, decide_eq_true_eq] at hr
    exact so_isub hexec hb (nx := nx) hr h
  | imul =>
    simp only [am_row, Bool.and_eq_true, decide_eq_true_eq] at hr
    exact so_imul hexec hb (nx := nx) hr h
  | iand =>
    simp only [am_row, Bool.and_eq_true, decide_eq_true_eq] at hr
    exact so_iand hexec hb (nx := nx) hr h
  | ior =>
    simp only [am_row, Bool.and_eq_true, decide_eq_true_eq] at hr
    exact so_ior hexec hb (nx := nx) hr h
  | ixor =>
    simp only [am_row, Bool.and_eq_true, decide_eq_true_eq] at hr
    exact so_ixor hexec hb (nx := nx) hr h
  | ishl =>
    simp only [am_row, Bool.and_eq_true, decide_eq_true_eq] at hr
    exact so_ishl hexec hb (nx := nx) hr h
  | ishr =>
    simp only [am_row, Bool.and_eq_true, decide_eq_true_eq] at hr
    exact so_ishr hexec hb (nx := nx) hr h
  | iushr =>
    simp only [am_row, Bool.and_eq_true, decide_eq_true_eq] at hr
    exact so_iushr hexec hb (nx := nx) hr h
  | idiv =>
    simp only [am_row, Bool.and_eq_true, decide_eq_true_eq] at hr
    exact so_idiv hexec hb (nx := nx) hr h
  | irem =>
    simp only [am_row, Bool.and_eq_true, decide_eq_true_eq] at hr
    exact so_irem hexec hb (nx := nx) hr h
  | dup =>
    simp only [am_row, Bool.and_eq_true, decide_eq_true_eq] at hr
    exact so_dup hexec hb (nx := nx) hr h
  | dup2 =>
    simp only [am_row, Bool.and_eq_true, decide_eq_true_eq] at hr
    exact so_dup2 hexec hb (nx := nx) hr h
  | i2l =>
    simp only [am_row, Bool.and_eq_true, decide_eq_true_eq] at hr
    exact so_i2l hexec hb (nx := nx) hr h
  | lcmp =>
    simp only [am_row, Bool.and_eq_true, decide_eq_true_eq] at hr
    exact so_lcmp hexec hb (nx := nx) hr h
  | iaload =>
    simp only [am_row, Bool.and_eq_true, decide_eq_true_eq] at hr
    exact so_iald hexec hb hK hX hbl hbA (nx := nx) hr h
  | iastore =>
    simp only [am_row, Bool.and_eq_true, decide_eq_true_eq] at hr
    exact so_iast hexec hb hK (nx := nx) hr h
  | baload =>
    simp only [am_row, Bool.and_eq_true, decide_eq_true_eq] at hr
    exact so_zald hexec hb hK (nx := nx) hr h
  | bastore =>
    simp only [am_row, Bool.and_eq_true, decide_eq_true_eq] at hr
    exact so_zast hexec hb hK (nx := nx) hr h
  | aaload =>
    simp only [am_row, Bool.and_eq_true, decide_eq_true_eq] at hr
    exact so_aald hexec hb hK (nx := nx) hr h
  | laload =>
    simp only [am_row, Bool.and_eq_true, decide_eq_true_eq] at hr
    exact so_lald hexec hb hK (nx := nx) hr h
  | lastore =>
    simp only [am_row, Bool.and_eq_true, decide_eq_true_eq] at hr
    exact so_last hexec hb hK (nx := nx) hr h
  | arraylength =>
    simp only [am_row, Bool.and_eq_true, decide_eq_true_eq] at hr
    exact so_alen hexec hb hX hbl hbA (nx := nx) hr h
  | aconst_null =>
    simp only [am_row, Bool.and_eq_true, decide_eq_true_eq] at hr
    exact so_null hexec hb (nx := nx) hr h
  | ifCond q o =>
    simp only [am_row, Bool.and_eq_true, decide_eq_true_eq] at hr
    obtain ⟨⟨h1, h2⟩, h3⟩ := hr
    cases q with
    | eq => exact so_if_eq hexec hb (nx := nx) (a := a) ⟨h1, h2, h3⟩ h
    | ne => exact so_if_ne hexec hb (nx := nx) (a := a) ⟨h1, h2, h3⟩ h
    | lt => exact so_if_lt hexec hb (nx := nx) (a := a) ⟨h1, h2, h3⟩ h
    | ge => exact so_if_ge hexec hb (nx := nx) (a := a) ⟨h1, h2, h3⟩ h
    | gt => exact so_if_gt hexec hb (nx := nx) (a := a) ⟨h1, h2, h3⟩ h
    | le => exact so_if_le hexec hb (nx := nx) (a := a) ⟨h1, h2, h3⟩ h
  | if_icmp q o =>
    simp only [am_row, Bool.and_eq_true, decide_eq_true_eq] at hr
    obtain ⟨⟨h1, h2⟩, h3⟩ := hr
    cases q with
    | eq => exact so_cmp_eq hexec hb (nx := nx) (a := a) ⟨h1, h2, h3⟩ h
    | ne => exact so_cmp_ne hexec hb (nx := nx) (a := a) ⟨h1, h2, h3⟩ h
    | lt => exact so_cmp_lt hexec hb (nx := nx) (a := a) ⟨h1, h2, h3⟩ h
    | ge => exact so_cmp_ge hexec hb (nx := nx) (a := a) ⟨h1, h2, h3⟩ h
    | gt => exact so_cmp_gt hexec hb (nx := nx) (a := a) ⟨h1, h2, h3⟩ h
    | le => exact so_cmp_le hexec hb (nx := nx) (a := a) ⟨h1, h2, h3⟩ h
  | ifnonnull o =>
    simp only [am_row, Bool.and_eq_true, decide_eq_true_eq] at hr
    obtain ⟨⟨h1, h2⟩, h3⟩ := hr
    exact so_nonnull hexec hb (nx := nx) (a := a) ⟨h1, h2, h3⟩ h
  | goto o =>
    simp only [am_row, Bool.and_eq_true, decide_eq_true_eq] at hr
    exact so_goto hexec hb (a := a) hr h
  | tableswitch d lo hi offs =>
    simp only [am_row, Bool.and_eq_true, decide_eq_true_eq] at hr
    obtain ⟨⟨⟨h1, h2⟩, h3⟩, h4⟩ := hr
    obtain ⟨i1, i2⟩ := am_sw_of h4
    refine so_table hexec hb (a := a) (sw := sw) h1 h2 (fun q hq => ?_) (fun x g1 g2 => ?_) h
    · obtain ⟨j, off, e1, e2, e3⟩ := i1 q hq
      have hj : j < offs.toList.length := (List.getElem?_eq_some_iff.mp e1).1
      refine ⟨by omega, by omega, off, ?_, e3⟩
      have z : (q.1.toInt - lo).toNat = j := by omega
      rw [z, ← Array.getElem?_toList]
      exact e1
    · obtain ⟨q, e1, e2⟩ := i2 (x.toInt - lo).toNat (by omega)
      exact ⟨q, e1, Int32.toInt_inj.mp (by omega)⟩
  | getfield x =>
    simp only [am_row, Bool.and_eq_true, decide_eq_true_eq] at hr
    obtain ⟨⟨⟨⟨⟨h1, h2⟩, h3⟩, h4⟩, h5⟩, h6⟩ := hr
    match hs, h, h6 with
    | [], h, h6 => exact so_geti hexec hb hts hK hown (am_cl_at b h4) (hu b h4) h5 (hfl _ h3) h6 ⟨h1, h2⟩ h
    | q :: r, h, h6 => exact so_getr hexec hb hts hK hown (am_cl_at b h4) (hu b h4) h5 (hfl _ h3) h6 ⟨h1, h2⟩ h
  | putfield x =>
    simp only [am_row, Bool.and_eq_true, decide_eq_true_eq] at hr
    obtain ⟨⟨⟨⟨⟨⟨⟨h1, h2⟩, h3⟩, h4⟩, h5⟩, h6⟩, h7⟩, h8⟩ := hr
    match hs, h, h6, h8 with
    | [], h, h6, h8 => exact so_puti hexec hb hts hK hown (am_cl_at b h4) (hu b h4) h5 (am_tyok b h4) (am_nm b h4) h7 (of_decide_eq_true h8) (hfl _ h3) h6 ⟨h1, h2⟩ h
    | q :: r, h, h6, h8 =>
      cases hf : parseFieldDescriptor (am_F b a).2.2.1 with
      | none => rw [hf] at h8; cases h8
      | some ft =>
        rw [hf] at h8
        exact so_putr hexec hb hts hK hown (am_cl_at b h4) (hu b h4) h5 (am_tyok b h4) (am_nm b h4) h7 hf (by cases ft <;> first | exact Or.inl ⟨_, rfl⟩ | exact Or.inr ⟨_, rfl⟩ | cases h8) (hfl _ h3) h6 ⟨h1, h2⟩ h
  | swap =>
    simp only [am_row, List.any_eq_true, Bool.and_eq_true, decide_eq_true_eq] at hr
    obtain ⟨q, -, ⟨h1, h2⟩, h3⟩ := hr
    obtain ⟨g1, g2, g3, g4, g5, g6⟩ := hcp _ h1
    exact so_copy hexec hb hts hK hown hml g1 g2 g3 g4 g5 g6 ⟨h2, h3⟩ h
  | ireturn =>
    simp only [am_row, Bool.and_eq_true, Bool.or_eq_true, decide_eq_true_eq] at hr
    refine so_iret hexec hb hlocks hr.1 (b := b) ?_ h
    rcases hr.2 with ⟨g1, g2⟩ | ⟨g1, g2⟩
    · exact Or.inl ⟨g1, hret.trans g2⟩
    · exact Or.inr ⟨g1, hret.trans g2⟩
  | areturn =>
    simp only [am_row, Bool.and_eq_true, decide_eq_true_eq] at hr
    obtain ⟨h1, h2⟩ := hr
    match ret, hret, h2 with
    | some (.object z), hret, _ => exact so_aret hexec hb hlocks h1 hret (Or.inl ⟨_, rfl⟩) h
    | some (.array z), hret, _ => exact so_aret hexec hb hlocks h1 hret (Or.inr ⟨_, rfl⟩) h
  | return_ =>
    simp only [am_row, Bool.and_eq_true, decide_eq_true_eq] at hr
    exact so_vret hexec hb hlocks hr.1 (hret.trans hr.2) h
  | athrow =>
    simp only [am_row, List.any_eq_true, Bool.and_eq_true, decide_eq_true_eq] at hr
    obtain ⟨⟨x, y, z, E⟩, h0, ⟨⟨⟨⟨⟨h1, h2⟩, h3⟩, h4⟩, h5⟩, h6⟩⟩ := hr
    have h1' : E = a := h1
    subst h1'
    exact hth x y z E pc ls st I P J n h0 h2 h3 h4 h5 h6 h
  | invokevirtual x =>
    simp only [am_row, Bool.and_eq_true, decide_eq_true_eq] at hr
    obtain ⟨⟨⟨h1, rfl⟩, h3⟩, h4⟩ := hr
    match sw, h, h4 with
    | (_, q) :: _, h, h4 => exact hcv x a b q pc ls st I P J n hs (of_decide_eq_true h4) h3 h1 h
    | [], h, h4 => cases h4
  | invokestatic x =>
    simp only [am_row, Bool.and_eq_true, decide_eq_true_eq] at hr
    obtain ⟨⟨⟨h1, rfl⟩, h3⟩, h4⟩ := hr
    exact hcs x a b pc ls st I P J n hs h4 h3 h1 h
  | _ => exact absurd h id
end ALL
