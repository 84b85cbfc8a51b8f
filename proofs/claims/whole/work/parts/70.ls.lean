/-! The law's first instructions, and the world of 72 cells. -/
theorem be_succ {P : Nat → Prop} {n : Nat} (h : ∀ k, k < n → P k) (hn : P n) : ∀ k, k < n + 1 → P k := fun k hk => by
  rcases Nat.lt_succ_iff_lt_or_eq.mp hk with h1 | rfl
  · exact h k h1
  · exact hn
theorem be_zero {P : Nat → Prop} : ∀ k, k < 0 → P k := fun k hk => absurd hk (Nat.not_lt_zero k)
theorem cn_lay {D : va_G} {H : Heap} {A : Nat → Prop} {t : Nat → ClassId} {ad : Nat → Nat} {I : am_I} {P : am_P} {J : am_J} {ws : va_W} {f : Nat → Nat} (hP : va_P D am_cl ws H) (hD : va_D A ws)
    (h1 : ∀ k, k < 72 → ∃ e', ws[f k]? = some (ad k, e') ∧ (va_at D am_cl (ad k, e') H → va_at D am_cl (ad k, am_ent t ad I P J k) H)) (h2 : ∀ i, i < 72 → ∀ j, j < 72 → f i = f j → i = j) : va_P D am_cl (am_ws t ad I P J) H ∧ va_D A (am_ws t ad I P J) := by
  have hlt : ∀ (k : Nat) (q : Nat × va_E), (am_ws t ad I P J)[k]? = some q → k < 72 := fun k q hq => by
    have := (List.getElem?_eq_some_iff.mp hq).1
    simpa [am_ws] using this
  have hat : ∀ (k : Nat) (q : Nat × va_E), (am_ws t ad I P J)[k]? = some q → q = (ad k, am_ent t ad I P J k) := fun k q hq => by
    rw [am_ws_at t ad I P J (hlt k q hq)] at hq
    exact (Option.some.inj hq).symm
  refine ⟨fun k q hq => ?_, fun i j x y hx hy hxy => ?_, fun k q hq => ?_⟩
  · obtain ⟨e', g1, g2⟩ := h1 k (hlt k q hq)
    rw [hat k q hq]
    exact g2 (hP _ _ g1)
  · obtain ⟨e1, g1, -⟩ := h1 i (hlt i x hx)
    obtain ⟨e2, g2, -⟩ := h1 j (hlt j y hy)
    have e3 : ad i = ad j := by
      rw [hat i x hx, hat j y hy] at hxy
      exact hxy
    exact h2 i (hlt i x hx) j (hlt j y hy) (hD.1 _ _ _ _ g1 g2 e3)
  · obtain ⟨e1, g1, -⟩ := h1 k (hlt k q hq)
    rw [hat k q hq]
    show A (ad k)
    exact hD.2 _ _ g1
theorem dn_La_0 : decode code 0 = .ok (.new 8, 3) := by decide +kernel
theorem dn_La_3 : decode code 3 = .ok (.dup, 1) := by decide +kernel
theorem dn_La_4 : decode code 4 = .ok (.invokespecial 49, 3) := by decide +kernel
theorem dn_La_7 : decode code 7 = .ok (.astore_n 1, 1) := by decide +kernel
theorem dn_La_8 : decode code 8 = .ok (.new 50, 3) := by decide +kernel
theorem dn_La_11 : decode code 11 = .ok (.dup, 1) := by decide +kernel
theorem dn_La_12 : decode code 12 = .ok (.invokespecial 52, 3) := by decide +kernel
theorem dn_La_15 : decode code 15 = .ok (.astore_n 2, 1) := by decide +kernel
theorem dn_La_16 : decode code 16 = .ok (.iconst 1, 1) := by decide +kernel
theorem dn_La_17 : decode code 17 = .ok (.newarray .long, 2) := by decide +kernel
theorem dn_La_19 : decode code 19 = .ok (.astore_n 3, 1) := by decide +kernel
theorem dn_La_20 : decode code 20 = .ok (.iconst 0, 1) := by decide +kernel
theorem dn_La_21 : decode code 21 = .ok (.istore 4, 2) := by decide +kernel
def cn_f (k : Nat) : Nat := [0, 1, 2, 3, 4, 5, 6, 7, 8, 9, 10, 11, 12, 13, 30, 49, 50, 51, 52, 31, 40, 53, 54, 55, 56, 57, 58, 59, 60, 61, 62, 63, 64, 65, 66, 67, 68, 69, 70, 71, 14, 16, 18, 20, 22, 24, 26, 28, 15, 17, 19, 21, 23, 25, 27, 29, 32, 33, 34, 35, 36, 37, 38, 39, 41, 42, 43, 44, 45, 46, 47, 48].getD k 0
theorem cn_f_inj : ∀ i, i < 72 → ∀ j, j < 72 → cn_f i = cn_f j → i = j := by decide +kernel
set_option maxHeartbeats 4000000 in
set_option maxRecDepth 20000 in
theorem law_0 {p : Program} {l : Launch} {e : Env} {s : State} {m : MethodId} {below : List Frame} {meth : Method} {c : Code} (hfl0 : l.flags = pinnedFlags ++ [noTraceFlag]) {b L : Nat} {xs : Nat → Int32} (hL : L ≤ 2560) (C0 : lw_At p s m meth c b L xs) : W p l e room_1 s m #[Value.ref b] below meth c s.heap [] 0 0 (lw_Z below #[Value.ref b] s) (entryFrame m ([Value.ref b] : List Value).toArray 7) := by
  obtain ⟨hx, hb, hr, hml, hown, hts9, hX, hbl, hlocks, hgv⟩ := C0
  have hts : ∀ w ∈ gw_T, w.before #[Value.ref b] s = true := fun w hw => hts9 w (List.mem_filter.mp hw).1
  have htw : ∀ w ∈ wd_T, w.before #[Value.ref b] s = true := fun w hw => hts9 w (List.mem_filter.mp hw).1
  have hown : s.vm.findClass "LineDebuggerLaw" = some m.cls := hown
  obtain ⟨D, t, hK⟩ := kn_K hts9
  have hl := lv_entry [Value.ref b] (n := 7) (Nat.le_of_ble_eq_true rfl)
  rw [lg_entry_eq]
  generalize (lg_sl [Value.ref b] ++ List.replicate (7 - (lg_sl [Value.ref b]).length) Slot.unset).toArray = ls at hl ⊢
  have hl : lv_has ls 7 [(0, .ref b)] := hl
  have hA : ∀ x : Nat, s.heap.size ≤ x → (fun x => s.heap.size ≤ x) x := fun _ h => h
  have hP : va_P D am_cl [] s.heap := fun k q h => by simp at h
  have hD : va_D (fun x => s.heap.size ≤ x) [] := ⟨fun i j x y h => by simp at h, fun k q h => by simp at h⟩
  have hS : va_S (fun x => s.heap.size ≤ x) s.heap s.heap [] := va_S.rf
  refine cn_new hx hb hts hown 0 (by decide) (by decide +kernel) hK hP hD hS hA (fs := [.null, .null, .null, .null, .null, .null]) (by decide) (Nat.le_of_ble_eq_true rfl) (Nat.le_of_ble_eq_true rfl) dn_La_0 (fun q1 H hP hD hS => ?_)
  refine lv_dup hx hb dn_La_3 rfl ?_
  refine cn_call 0 (ci_L l D t) hx hb hml hts hown (by decide +kernel) rfl (by decide +kernel) ⟨Nat.le_of_ble_eq_true rfl, Nat.le_of_ble_eq_true rfl⟩ hK hP hD hS hA rfl hl.1 (rest := [.ref q1]) rfl (Nat.le_of_ble_eq_true rfl) dn_La_4 ⟨Nat.le_of_ble_eq_true rfl, Nat.le_of_ble_eq_true rfl⟩ (fun w1 H locs hw1 hP hD hS => ?_)
  obtain ⟨q2, q3, q4, q5, q6, q7, q8, q9, q10, q11, q12, q13, q14, q15, q16, q17, q18, q19, q20, q21, q22, q23, q24, q25, q26, q27, q28, q29, q30, q31, q32, rq33, q34, rq35, q36, q37, q38, q39, rfl⟩ := hw1
  have hP : va_P D am_cl [(q1, .inr (0, [.ref q2, .ref q5, .ref q9, .ref q13, .ref q31, .ref q36])), (q2, .inr (1, [.ref q3, .ref q4, .int 0, .int 0])), (q3, .inl (t 0, 64, .inl (fun _ => 0))), (q4, .inl (t 0, 8, .inl (fun _ => 0))), (q5, .inr (2, [.ref q6, .int 0, .ref q2, .ref q7, .ref q8, .int 0, .int 0])), (q6, .inl (t 0, 7, .inl (fun _ => 0))), (q7, .inl (t 1, 64, .inl (fun _ => 0))), (q8, .inl (t 0, 64, .inl (fun _ => 0))), (q9, .inr (3, [.ref q10, .int 0, .int 0, .int 0, .int 0, .int 0, .int 0, .ref q5, .ref q11, .int 0, .ref q12])), (q10, .inl (t 0, 8, .inl (fun _ => 0))), (q11, .inl (t 0, 40, .inl (fun _ => 0))), (q12, .inl (t 0, 8, .inl (fun _ => 0))), (q13, .inr (4, [.ref q14, .int 0])), (q14, .inl (t 3, 8, .inr (.inr (.inr (.inr (va_up (va_up (va_up (va_up (va_up (va_up (va_up (va_up (fun _ => none) 0 (some q15)) 1 (some q17)) 2 (some q19)) 3 (some q21)) 4 (some q23)) 5 (some q25)) 6 (some q27)) 7 (some q29))))))), (q15, .inr (7, [.int 0, .int 0, .int 0, .ref q16])), (q16, .inl (t 0, 9, .inl (fun _ => -1))), (q17, .inr (7, [.int 0, .int 0, .int 0, .ref q18])), (q18, .inl (t 0, 9, .inl (fun _ => -1))), (q19, .inr (7, [.int 0, .int 0, .int 0, .ref q20])), (q20, .inl (t 0, 9, .inl (fun _ => -1))), (q21, .inr (7, [.int 0, .int 0, .int 0, .ref q22])), (q22, .inl (t 0, 9, .inl (fun _ => -1))), (q23, .inr (7, [.int 0, .int 0, .int 0, .ref q24])), (q24, .inl (t 0, 9, .inl (fun _ => -1))), (q25, .inr (7, [.int 0, .int 0, .int 0, .ref q26])), (q26, .inl (t 0, 9, .inl (fun _ => -1))), (q27, .inr (7, [.int 0, .int 0, .int 0, .ref q28])), (q28, .inl (t 0, 9, .inl (fun _ => -1))), (q29, .inr (7, [.int 0, .int 0, .int 0, .ref q30])), (q30, .inl (t 0, 9, .inl (fun _ => -1))), (q31, .inr (5, [.ref q32, .int 0, .ref q34])), (q32, .inl (t 4, 8, .inr (.inr (.inr (.inr (fun i => if i < 8 then some (rq33 i) else none)))))), ((rq33 0), .inl (t 0, 9, .inl (fun _ => 0))), ((rq33 1), .inl (t 0, 9, .inl (fun _ => 0))), ((rq33 2), .inl (t 0, 9, .inl (fun _ => 0))), ((rq33 3), .inl (t 0, 9, .inl (fun _ => 0))), ((rq33 4), .inl (t 0, 9, .inl (fun _ => 0))), ((rq33 5), .inl (t 0, 9, .inl (fun _ => 0))), ((rq33 6), .inl (t 0, 9, .inl (fun _ => 0))), ((rq33 7), .inl (t 0, 9, .inl (fun _ => 0))), (q34, .inl (t 4, 8, .inr (.inr (.inr (.inr (fun i => if i < 8 then some (rq35 i) else none)))))), ((rq35 0), .inl (t 0, 9, .inl (fun _ => 0))), ((rq35 1), .inl (t 0, 9, .inl (fun _ => 0))), ((rq35 2), .inl (t 0, 9, .inl (fun _ => 0))), ((rq35 3), .inl (t 0, 9, .inl (fun _ => 0))), ((rq35 4), .inl (t 0, 9, .inl (fun _ => 0))), ((rq35 5), .inl (t 0, 9, .inl (fun _ => 0))), ((rq35 6), .inl (t 0, 9, .inl (fun _ => 0))), ((rq35 7), .inl (t 0, 9, .inl (fun _ => 0))), (q36, .inr (6, [.int 0, .int 0, .ref q37, .ref q38, .ref q39])), (q37, .inl (t 0, 20, .inl (fun _ => 0))), (q38, .inl (t 0, 20, .inl (fun _ => 0))), (q39, .inl (t 0, 8, .inl (fun _ => 0)))] H := hP
  have hD : va_D (fun x => s.heap.size ≤ x) [(q1, .inr (0, [.ref q2, .ref q5, .ref q9, .ref q13, .ref q31, .ref q36])), (q2, .inr (1, [.ref q3, .ref q4, .int 0, .int 0])), (q3, .inl (t 0, 64, .inl (fun _ => 0))), (q4, .inl (t 0, 8, .inl (fun _ => 0))), (q5, .inr (2, [.ref q6, .int 0, .ref q2, .ref q7, .ref q8, .int 0, .int 0])), (q6, .inl (t 0, 7, .inl (fun _ => 0))), (q7, .inl (t 1, 64, .inl (fun _ => 0))), (q8, .inl (t 0, 64, .inl (fun _ => 0))), (q9, .inr (3, [.ref q10, .int 0, .int 0, .int 0, .int 0, .int 0, .int 0, .ref q5, .ref q11, .int 0, .ref q12])), (q10, .inl (t 0, 8, .inl (fun _ => 0))), (q11, .inl (t 0, 40, .inl (fun _ => 0))), (q12, .inl (t 0, 8, .inl (fun _ => 0))), (q13, .inr (4, [.ref q14, .int 0])), (q14, .inl (t 3, 8, .inr (.inr (.inr (.inr (va_up (va_up (va_up (va_up (va_up (va_up (va_up (va_up (fun _ => none) 0 (some q15)) 1 (some q17)) 2 (some q19)) 3 (some q21)) 4 (some q23)) 5 (some q25)) 6 (some q27)) 7 (some q29))))))), (q15, .inr (7, [.int 0, .int 0, .int 0, .ref q16])), (q16, .inl (t 0, 9, .inl (fun _ => -1))), (q17, .inr (7, [.int 0, .int 0, .int 0, .ref q18])), (q18, .inl (t 0, 9, .inl (fun _ => -1))), (q19, .inr (7, [.int 0, .int 0, .int 0, .ref q20])), (q20, .inl (t 0, 9, .inl (fun _ => -1))), (q21, .inr (7, [.int 0, .int 0, .int 0, .ref q22])), (q22, .inl (t 0, 9, .inl (fun _ => -1))), (q23, .inr (7, [.int 0, .int 0, .int 0, .ref q24])), (q24, .inl (t 0, 9, .inl (fun _ => -1))), (q25, .inr (7, [.int 0, .int 0, .int 0, .ref q26])), (q26, .inl (t 0, 9, .inl (fun _ => -1))), (q27, .inr (7, [.int 0, .int 0, .int 0, .ref q28])), (q28, .inl (t 0, 9, .inl (fun _ => -1))), (q29, .inr (7, [.int 0, .int 0, .int 0, .ref q30])), (q30, .inl (t 0, 9, .inl (fun _ => -1))), (q31, .inr (5, [.ref q32, .int 0, .ref q34])), (q32, .inl (t 4, 8, .inr (.inr (.inr (.inr (fun i => if i < 8 then some (rq33 i) else none)))))), ((rq33 0), .inl (t 0, 9, .inl (fun _ => 0))), ((rq33 1), .inl (t 0, 9, .inl (fun _ => 0))), ((rq33 2), .inl (t 0, 9, .inl (fun _ => 0))), ((rq33 3), .inl (t 0, 9, .inl (fun _ => 0))), ((rq33 4), .inl (t 0, 9, .inl (fun _ => 0))), ((rq33 5), .inl (t 0, 9, .inl (fun _ => 0))), ((rq33 6), .inl (t 0, 9, .inl (fun _ => 0))), ((rq33 7), .inl (t 0, 9, .inl (fun _ => 0))), (q34, .inl (t 4, 8, .inr (.inr (.inr (.inr (fun i => if i < 8 then some (rq35 i) else none)))))), ((rq35 0), .inl (t 0, 9, .inl (fun _ => 0))), ((rq35 1), .inl (t 0, 9, .inl (fun _ => 0))), ((rq35 2), .inl (t 0, 9, .inl (fun _ => 0))), ((rq35 3), .inl (t 0, 9, .inl (fun _ => 0))), ((rq35 4), .inl (t 0, 9, .inl (fun _ => 0))), ((rq35 5), .inl (t 0, 9, .inl (fun _ => 0))), ((rq35 6), .inl (t 0, 9, .inl (fun _ => 0))), ((rq35 7), .inl (t 0, 9, .inl (fun _ => 0))), (q36, .inr (6, [.int 0, .int 0, .ref q37, .ref q38, .ref q39])), (q37, .inl (t 0, 20, .inl (fun _ => 0))), (q38, .inl (t 0, 20, .inl (fun _ => 0))), (q39, .inl (t 0, 8, .inl (fun _ => 0)))] := hD
  refine lv_astore_n hx hb dn_La_7 rfl hl (by decide) rfl (fun ls hl => ?_)
  have hl : lv_has ls 7 [(1, .ref q1), (0, .ref b)] := hl
  refine cn_new hx hb hts hown 8 (by decide) (by decide +kernel) hK hP hD hS hA (fs := [.null, .null, .int 0, .int 0, .int 0, .null, .null, .int 0, .int 0, .int 0, .int 0, .null, .null, .null, .int 0, .int 0, .int 0, .int 0, .int 0, .int 0, .int 0, .null, .null, .null, .null, .null, .int 0, .null, .int 0, .null, .int 0, .null, .null, .int 0, .null, .int 0]) (by decide) (Nat.le_of_ble_eq_true rfl) (Nat.le_of_ble_eq_true rfl) dn_La_8 (fun q40 H hP hD hS => ?_)
  refine lv_dup hx hb dn_La_11 rfl ?_
  refine cn_call 0 (ci_Mo l D t) hx hb hml hts hown (by decide +kernel) rfl (by decide +kernel) ⟨Nat.le_of_ble_eq_true rfl, Nat.le_of_ble_eq_true rfl⟩ hK hP hD hS hA rfl hl.1 (rest := [.ref q40]) rfl (Nat.le_of_ble_eq_true rfl) dn_La_12 ⟨Nat.le_of_ble_eq_true rfl, Nat.le_of_ble_eq_true rfl⟩ (fun w1 H locs hw1 hP hD hS => ?_)
  obtain ⟨q41, q42, q43, q44, q45, q46, q47, q48, q49, q50, q51, q52, q53, q54, q55, q56, q57, rfl⟩ := hw1
  have hP : va_P D am_cl [(q1, .inr (0, [.ref q2, .ref q5, .ref q9, .ref q13, .ref q31, .ref q36])), (q2, .inr (1, [.ref q3, .ref q4, .int 0, .int 0])), (q3, .inl (t 0, 64, .inl (fun _ => 0))), (q4, .inl (t 0, 8, .inl (fun _ => 0))), (q5, .inr (2, [.ref q6, .int 0, .ref q2, .ref q7, .ref q8, .int 0, .int 0])), (q6, .inl (t 0, 7, .inl (fun _ => 0))), (q7, .inl (t 1, 64, .inl (fun _ => 0))), (q8, .inl (t 0, 64, .inl (fun _ => 0))), (q9, .inr (3, [.ref q10, .int 0, .int 0, .int 0, .int 0, .int 0, .int 0, .ref q5, .ref q11, .int 0, .ref q12])), (q10, .inl (t 0, 8, .inl (fun _ => 0))), (q11, .inl (t 0, 40, .inl (fun _ => 0))), (q12, .inl (t 0, 8, .inl (fun _ => 0))), (q13, .inr (4, [.ref q14, .int 0])), (q14, .inl (t 3, 8, .inr (.inr (.inr (.inr (va_up (va_up (va_up (va_up (va_up (va_up (va_up (va_up (fun _ => none) 0 (some q15)) 1 (some q17)) 2 (some q19)) 3 (some q21)) 4 (some q23)) 5 (some q25)) 6 (some q27)) 7 (some q29))))))), (q15, .inr (7, [.int 0, .int 0, .int 0, .ref q16])), (q16, .inl (t 0, 9, .inl (fun _ => -1))), (q17, .inr (7, [.int 0, .int 0, .int 0, .ref q18])), (q18, .inl (t 0, 9, .inl (fun _ => -1))), (q19, .inr (7, [.int 0, .int 0, .int 0, .ref q20])), (q20, .inl (t 0, 9, .inl (fun _ => -1))), (q21, .inr (7, [.int 0, .int 0, .int 0, .ref q22])), (q22, .inl (t 0, 9, .inl (fun _ => -1))), (q23, .inr (7, [.int 0, .int 0, .int 0, .ref q24])), (q24, .inl (t 0, 9, .inl (fun _ => -1))), (q25, .inr (7, [.int 0, .int 0, .int 0, .ref q26])), (q26, .inl (t 0, 9, .inl (fun _ => -1))), (q27, .inr (7, [.int 0, .int 0, .int 0, .ref q28])), (q28, .inl (t 0, 9, .inl (fun _ => -1))), (q29, .inr (7, [.int 0, .int 0, .int 0, .ref q30])), (q30, .inl (t 0, 9, .inl (fun _ => -1))), (q31, .inr (5, [.ref q32, .int 0, .ref q34])), (q32, .inl (t 4, 8, .inr (.inr (.inr (.inr (fun i => if i < 8 then some (rq33 i) else none)))))), ((rq33 0), .inl (t 0, 9, .inl (fun _ => 0))), ((rq33 1), .inl (t 0, 9, .inl (fun _ => 0))), ((rq33 2), .inl (t 0, 9, .inl (fun _ => 0))), ((rq33 3), .inl (t 0, 9, .inl (fun _ => 0))), ((rq33 4), .inl (t 0, 9, .inl (fun _ => 0))), ((rq33 5), .inl (t 0, 9, .inl (fun _ => 0))), ((rq33 6), .inl (t 0, 9, .inl (fun _ => 0))), ((rq33 7), .inl (t 0, 9, .inl (fun _ => 0))), (q34, .inl (t 4, 8, .inr (.inr (.inr (.inr (fun i => if i < 8 then some (rq35 i) else none)))))), ((rq35 0), .inl (t 0, 9, .inl (fun _ => 0))), ((rq35 1), .inl (t 0, 9, .inl (fun _ => 0))), ((rq35 2), .inl (t 0, 9, .inl (fun _ => 0))), ((rq35 3), .inl (t 0, 9, .inl (fun _ => 0))), ((rq35 4), .inl (t 0, 9, .inl (fun _ => 0))), ((rq35 5), .inl (t 0, 9, .inl (fun _ => 0))), ((rq35 6), .inl (t 0, 9, .inl (fun _ => 0))), ((rq35 7), .inl (t 0, 9, .inl (fun _ => 0))), (q36, .inr (6, [.int 0, .int 0, .ref q37, .ref q38, .ref q39])), (q37, .inl (t 0, 20, .inl (fun _ => 0))), (q38, .inl (t 0, 20, .inl (fun _ => 0))), (q39, .inl (t 0, 8, .inl (fun _ => 0))), (q40, .inr (8, [.ref q41, .ref q42, .int 0, .int 0, .int 0, .ref q43, .ref q44, .int 0, .int 0, .int 0, .int 0, .ref q45, .ref q46, .ref q47, .int 0, .int 0, .int 0, .int 0, .int 0, .int 0, .int 0, .ref q48, .ref q49, .ref q50, .ref q51, .ref q52, .int 0, .ref q53, .int 0, .ref q54, .int 0, .ref q55, .ref q56, .int 0, .ref q57, .int 0])), (q41, .inl (t 0, 64, .inl (fun _ => 0))), (q42, .inl (t 0, 8, .inl (fun _ => 0))), (q43, .inl (t 0, 4, .inl (fun _ => 0))), (q44, .inl (t 0, 4, .inl (fun _ => 0))), (q45, .inl (t 0, 40, .inl (fun _ => 0))), (q46, .inl (t 0, 8, .inl (fun _ => 0))), (q47, .inl (t 0, 15, .inl (fun _ => 0))), (q48, .inl (t 0, 8, .inl (fun _ => 0))), (q49, .inl (t 0, 8, .inl (fun _ => 0))), (q50, .inl (t 0, 8, .inl (fun _ => 0))), (q51, .inl (t 0, 8, .inl (fun _ => 0))), (q52, .inl (t 0, 64, .inl (fun _ => 0))), (q53, .inl (t 0, 72, .inl (fun _ => 0))), (q54, .inl (t 0, 72, .inl (fun _ => 0))), (q55, .inl (t 0, 20, .inl (fun _ => 0))), (q56, .inl (t 0, 20, .inl (fun _ => 0))), (q57, .inl (t 0, 8, .inl (fun _ => 0)))] H := hP
  have hD : va_D (fun x => s.heap.size ≤ x) [(q1, .inr (0, [.ref q2, .ref q5, .ref q9, .ref q13, .ref q31, .ref q36])), (q2, .inr (1, [.ref q3, .ref q4, .int 0, .int 0])), (q3, .inl (t 0, 64, .inl (fun _ => 0))), (q4, .inl (t 0, 8, .inl (fun _ => 0))), (q5, .inr (2, [.ref q6, .int 0, .ref q2, .ref q7, .ref q8, .int 0, .int 0])), (q6, .inl (t 0, 7, .inl (fun _ => 0))), (q7, .inl (t 1, 64, .inl (fun _ => 0))), (q8, .inl (t 0, 64, .inl (fun _ => 0))), (q9, .inr (3, [.ref q10, .int 0, .int 0, .int 0, .int 0, .int 0, .int 0, .ref q5, .ref q11, .int 0, .ref q12])), (q10, .inl (t 0, 8, .inl (fun _ => 0))), (q11, .inl (t 0, 40, .inl (fun _ => 0))), (q12, .inl (t 0, 8, .inl (fun _ => 0))), (q13, .inr (4, [.ref q14, .int 0])), (q14, .inl (t 3, 8, .inr (.inr (.inr (.inr (va_up (va_up (va_up (va_up (va_up (va_up (va_up (va_up (fun _ => none) 0 (some q15)) 1 (some q17)) 2 (some q19)) 3 (some q21)) 4 (some q23)) 5 (some q25)) 6 (some q27)) 7 (some q29))))))), (q15, .inr (7, [.int 0, .int 0, .int 0, .ref q16])), (q16, .inl (t 0, 9, .inl (fun _ => -1))), (q17, .inr (7, [.int 0, .int 0, .int 0, .ref q18])), (q18, .inl (t 0, 9, .inl (fun _ => -1))), (q19, .inr (7, [.int 0, .int 0, .int 0, .ref q20])), (q20, .inl (t 0, 9, .inl (fun _ => -1))), (q21, .inr (7, [.int 0, .int 0, .int 0, .ref q22])), (q22, .inl (t 0, 9, .inl (fun _ => -1))), (q23, .inr (7, [.int 0, .int 0, .int 0, .ref q24])), (q24, .inl (t 0, 9, .inl (fun _ => -1))), (q25, .inr (7, [.int 0, .int 0, .int 0, .ref q26])), (q26, .inl (t 0, 9, .inl (fun _ => -1))), (q27, .inr (7, [.int 0, .int 0, .int 0, .ref q28])), (q28, .inl (t 0, 9, .inl (fun _ => -1))), (q29, .inr (7, [.int 0, .int 0, .int 0, .ref q30])), (q30, .inl (t 0, 9, .inl (fun _ => -1))), (q31, .inr (5, [.ref q32, .int 0, .ref q34])), (q32, .inl (t 4, 8, .inr (.inr (.inr (.inr (fun i => if i < 8 then some (rq33 i) else none)))))), ((rq33 0), .inl (t 0, 9, .inl (fun _ => 0))), ((rq33 1), .inl (t 0, 9, .inl (fun _ => 0))), ((rq33 2), .inl (t 0, 9, .inl (fun _ => 0))), ((rq33 3), .inl (t 0, 9, .inl (fun _ => 0))), ((rq33 4), .inl (t 0, 9, .inl (fun _ => 0))), ((rq33 5), .inl (t 0, 9, .inl (fun _ => 0))), ((rq33 6), .inl (t 0, 9, .inl (fun _ => 0))), ((rq33 7), .inl (t 0, 9, .inl (fun _ => 0))), (q34, .inl (t 4, 8, .inr (.inr (.inr (.inr (fun i => if i < 8 then some (rq35 i) else none)))))), ((rq35 0), .inl (t 0, 9, .inl (fun _ => 0))), ((rq35 1), .inl (t 0, 9, .inl (fun _ => 0))), ((rq35 2), .inl (t 0, 9, .inl (fun _ => 0))), ((rq35 3), .inl (t 0, 9, .inl (fun _ => 0))), ((rq35 4), .inl (t 0, 9, .inl (fun _ => 0))), ((rq35 5), .inl (t 0, 9, .inl (fun _ => 0))), ((rq35 6), .inl (t 0, 9, .inl (fun _ => 0))), ((rq35 7), .inl (t 0, 9, .inl (fun _ => 0))), (q36, .inr (6, [.int 0, .int 0, .ref q37, .ref q38, .ref q39])), (q37, .inl (t 0, 20, .inl (fun _ => 0))), (q38, .inl (t 0, 20, .inl (fun _ => 0))), (q39, .inl (t 0, 8, .inl (fun _ => 0))), (q40, .inr (8, [.ref q41, .ref q42, .int 0, .int 0, .int 0, .ref q43, .ref q44, .int 0, .int 0, .int 0, .int 0, .ref q45, .ref q46, .ref q47, .int 0, .int 0, .int 0, .int 0, .int 0, .int 0, .int 0, .ref q48, .ref q49, .ref q50, .ref q51, .ref q52, .int 0, .ref q53, .int 0, .ref q54, .int 0, .ref q55, .ref q56, .int 0, .ref q57, .int 0])), (q41, .inl (t 0, 64, .inl (fun _ => 0))), (q42, .inl (t 0, 8, .inl (fun _ => 0))), (q43, .inl (t 0, 4, .inl (fun _ => 0))), (q44, .inl (t 0, 4, .inl (fun _ => 0))), (q45, .inl (t 0, 40, .inl (fun _ => 0))), (q46, .inl (t 0, 8, .inl (fun _ => 0))), (q47, .inl (t 0, 15, .inl (fun _ => 0))), (q48, .inl (t 0, 8, .inl (fun _ => 0))), (q49, .inl (t 0, 8, .inl (fun _ => 0))), (q50, .inl (t 0, 8, .inl (fun _ => 0))), (q51, .inl (t 0, 8, .inl (fun _ => 0))), (q52, .inl (t 0, 64, .inl (fun _ => 0))), (q53, .inl (t 0, 72, .inl (fun _ => 0))), (q54, .inl (t 0, 72, .inl (fun _ => 0))), (q55, .inl (t 0, 20, .inl (fun _ => 0))), (q56, .inl (t 0, 20, .inl (fun _ => 0))), (q57, .inl (t 0, 8, .inl (fun _ => 0)))] := hD
  refine lv_astore_n hx hb dn_La_15 rfl hl (by decide) rfl (fun ls hl => ?_)
  have hl : lv_has ls 7 [(2, .ref q40), (1, .ref q1), (0, .ref b)] := hl
  refine lv_iconst (v := 1) hx hb dn_La_16 (by decide) ?_
  refine cn_newj hx hb hts hK hP hD hS hA (N' := 1) (by decide) (by decide) (by decide) (Nat.le_of_ble_eq_true rfl) (Nat.le_of_ble_eq_true rfl) dn_La_17 (fun q58 H hP hD hS => ?_)
  have hP : va_P D am_cl [(q1, .inr (0, [.ref q2, .ref q5, .ref q9, .ref q13, .ref q31, .ref q36])), (q2, .inr (1, [.ref q3, .ref q4, .int 0, .int 0])), (q3, .inl (t 0, 64, .inl (fun _ => 0))), (q4, .inl (t 0, 8, .inl (fun _ => 0))), (q5, .inr (2, [.ref q6, .int 0, .ref q2, .ref q7, .ref q8, .int 0, .int 0])), (q6, .inl (t 0, 7, .inl (fun _ => 0))), (q7, .inl (t 1, 64, .inl (fun _ => 0))), (q8, .inl (t 0, 64, .inl (fun _ => 0))), (q9, .inr (3, [.ref q10, .int 0, .int 0, .int 0, .int 0, .int 0, .int 0, .ref q5, .ref q11, .int 0, .ref q12])), (q10, .inl (t 0, 8, .inl (fun _ => 0))), (q11, .inl (t 0, 40, .inl (fun _ => 0))), (q12, .inl (t 0, 8, .inl (fun _ => 0))), (q13, .inr (4, [.ref q14, .int 0])), (q14, .inl (t 3, 8, .inr (.inr (.inr (.inr (va_up (va_up (va_up (va_up (va_up (va_up (va_up (va_up (fun _ => none) 0 (some q15)) 1 (some q17)) 2 (some q19)) 3 (some q21)) 4 (some q23)) 5 (some q25)) 6 (some q27)) 7 (some q29))))))), (q15, .inr (7, [.int 0, .int 0, .int 0, .ref q16])), (q16, .inl (t 0, 9, .inl (fun _ => -1))), (q17, .inr (7, [.int 0, .int 0, .int 0, .ref q18])), (q18, .inl (t 0, 9, .inl (fun _ => -1))), (q19, .inr (7, [.int 0, .int 0, .int 0, .ref q20])), (q20, .inl (t 0, 9, .inl (fun _ => -1))), (q21, .inr (7, [.int 0, .int 0, .int 0, .ref q22])), (q22, .inl (t 0, 9, .inl (fun _ => -1))), (q23, .inr (7, [.int 0, .int 0, .int 0, .ref q24])), (q24, .inl (t 0, 9, .inl (fun _ => -1))), (q25, .inr (7, [.int 0, .int 0, .int 0, .ref q26])), (q26, .inl (t 0, 9, .inl (fun _ => -1))), (q27, .inr (7, [.int 0, .int 0, .int 0, .ref q28])), (q28, .inl (t 0, 9, .inl (fun _ => -1))), (q29, .inr (7, [.int 0, .int 0, .int 0, .ref q30])), (q30, .inl (t 0, 9, .inl (fun _ => -1))), (q31, .inr (5, [.ref q32, .int 0, .ref q34])), (q32, .inl (t 4, 8, .inr (.inr (.inr (.inr (fun i => if i < 8 then some (rq33 i) else none)))))), ((rq33 0), .inl (t 0, 9, .inl (fun _ => 0))), ((rq33 1), .inl (t 0, 9, .inl (fun _ => 0))), ((rq33 2), .inl (t 0, 9, .inl (fun _ => 0))), ((rq33 3), .inl (t 0, 9, .inl (fun _ => 0))), ((rq33 4), .inl (t 0, 9, .inl (fun _ => 0))), ((rq33 5), .inl (t 0, 9, .inl (fun _ => 0))), ((rq33 6), .inl (t 0, 9, .inl (fun _ => 0))), ((rq33 7), .inl (t 0, 9, .inl (fun _ => 0))), (q34, .inl (t 4, 8, .inr (.inr (.inr (.inr (fun i => if i < 8 then some (rq35 i) else none)))))), ((rq35 0), .inl (t 0, 9, .inl (fun _ => 0))), ((rq35 1), .inl (t 0, 9, .inl (fun _ => 0))), ((rq35 2), .inl (t 0, 9, .inl (fun _ => 0))), ((rq35 3), .inl (t 0, 9, .inl (fun _ => 0))), ((rq35 4), .inl (t 0, 9, .inl (fun _ => 0))), ((rq35 5), .inl (t 0, 9, .inl (fun _ => 0))), ((rq35 6), .inl (t 0, 9, .inl (fun _ => 0))), ((rq35 7), .inl (t 0, 9, .inl (fun _ => 0))), (q36, .inr (6, [.int 0, .int 0, .ref q37, .ref q38, .ref q39])), (q37, .inl (t 0, 20, .inl (fun _ => 0))), (q38, .inl (t 0, 20, .inl (fun _ => 0))), (q39, .inl (t 0, 8, .inl (fun _ => 0))), (q40, .inr (8, [.ref q41, .ref q42, .int 0, .int 0, .int 0, .ref q43, .ref q44, .int 0, .int 0, .int 0, .int 0, .ref q45, .ref q46, .ref q47, .int 0, .int 0, .int 0, .int 0, .int 0, .int 0, .int 0, .ref q48, .ref q49, .ref q50, .ref q51, .ref q52, .int 0, .ref q53, .int 0, .ref q54, .int 0, .ref q55, .ref q56, .int 0, .ref q57, .int 0])), (q41, .inl (t 0, 64, .inl (fun _ => 0))), (q42, .inl (t 0, 8, .inl (fun _ => 0))), (q43, .inl (t 0, 4, .inl (fun _ => 0))), (q44, .inl (t 0, 4, .inl (fun _ => 0))), (q45, .inl (t 0, 40, .inl (fun _ => 0))), (q46, .inl (t 0, 8, .inl (fun _ => 0))), (q47, .inl (t 0, 15, .inl (fun _ => 0))), (q48, .inl (t 0, 8, .inl (fun _ => 0))), (q49, .inl (t 0, 8, .inl (fun _ => 0))), (q50, .inl (t 0, 8, .inl (fun _ => 0))), (q51, .inl (t 0, 8, .inl (fun _ => 0))), (q52, .inl (t 0, 64, .inl (fun _ => 0))), (q53, .inl (t 0, 72, .inl (fun _ => 0))), (q54, .inl (t 0, 72, .inl (fun _ => 0))), (q55, .inl (t 0, 20, .inl (fun _ => 0))), (q56, .inl (t 0, 20, .inl (fun _ => 0))), (q57, .inl (t 0, 8, .inl (fun _ => 0))), (q58, .inl (t 2, 1, .inr (.inl (fun _ => 0))))] H := hP
  have hD : va_D (fun x => s.heap.size ≤ x) [(q1, .inr (0, [.ref q2, .ref q5, .ref q9, .ref q13, .ref q31, .ref q36])), (q2, .inr (1, [.ref q3, .ref q4, .int 0, .int 0])), (q3, .inl (t 0, 64, .inl (fun _ => 0))), (q4, .inl (t 0, 8, .inl (fun _ => 0))), (q5, .inr (2, [.ref q6, .int 0, .ref q2, .ref q7, .ref q8, .int 0, .int 0])), (q6, .inl (t 0, 7, .inl (fun _ => 0))), (q7, .inl (t 1, 64, .inl (fun _ => 0))), (q8, .inl (t 0, 64, .inl (fun _ => 0))), (q9, .inr (3, [.ref q10, .int 0, .int 0, .int 0, .int 0, .int 0, .int 0, .ref q5, .ref q11, .int 0, .ref q12])), (q10, .inl (t 0, 8, .inl (fun _ => 0))), (q11, .inl (t 0, 40, .inl (fun _ => 0))), (q12, .inl (t 0, 8, .inl (fun _ => 0))), (q13, .inr (4, [.ref q14, .int 0])), (q14, .inl (t 3, 8, .inr (.inr (.inr (.inr (va_up (va_up (va_up (va_up (va_up (va_up (va_up (va_up (fun _ => none) 0 (some q15)) 1 (some q17)) 2 (some q19)) 3 (some q21)) 4 (some q23)) 5 (some q25)) 6 (some q27)) 7 (some q29))))))), (q15, .inr (7, [.int 0, .int 0, .int 0, .ref q16])), (q16, .inl (t 0, 9, .inl (fun _ => -1))), (q17, .inr (7, [.int 0, .int 0, .int 0, .ref q18])), (q18, .inl (t 0, 9, .inl (fun _ => -1))), (q19, .inr (7, [.int 0, .int 0, .int 0, .ref q20])), (q20, .inl (t 0, 9, .inl (fun _ => -1))), (q21, .inr (7, [.int 0, .int 0, .int 0, .ref q22])), (q22, .inl (t 0, 9, .inl (fun _ => -1))), (q23, .inr (7, [.int 0, .int 0, .int 0, .ref q24])), (q24, .inl (t 0, 9, .inl (fun _ => -1))), (q25, .inr (7, [.int 0, .int 0, .int 0, .ref q26])), (q26, .inl (t 0, 9, .inl (fun _ => -1))), (q27, .inr (7, [.int 0, .int 0, .int 0, .ref q28])), (q28, .inl (t 0, 9, .inl (fun _ => -1))), (q29, .inr (7, [.int 0, .int 0, .int 0, .ref q30])), (q30, .inl (t 0, 9, .inl (fun _ => -1))), (q31, .inr (5, [.ref q32, .int 0, .ref q34])), (q32, .inl (t 4, 8, .inr (.inr (.inr (.inr (fun i => if i < 8 then some (rq33 i) else none)))))), ((rq33 0), .inl (t 0, 9, .inl (fun _ => 0))), ((rq33 1), .inl (t 0, 9, .inl (fun _ => 0))), ((rq33 2), .inl (t 0, 9, .inl (fun _ => 0))), ((rq33 3), .inl (t 0, 9, .inl (fun _ => 0))), ((rq33 4), .inl (t 0, 9, .inl (fun _ => 0))), ((rq33 5), .inl (t 0, 9, .inl (fun _ => 0))), ((rq33 6), .inl (t 0, 9, .inl (fun _ => 0))), ((rq33 7), .inl (t 0, 9, .inl (fun _ => 0))), (q34, .inl (t 4, 8, .inr (.inr (.inr (.inr (fun i => if i < 8 then some (rq35 i) else none)))))), ((rq35 0), .inl (t 0, 9, .inl (fun _ => 0))), ((rq35 1), .inl (t 0, 9, .inl (fun _ => 0))), ((rq35 2), .inl (t 0, 9, .inl (fun _ => 0))), ((rq35 3), .inl (t 0, 9, .inl (fun _ => 0))), ((rq35 4), .inl (t 0, 9, .inl (fun _ => 0))), ((rq35 5), .inl (t 0, 9, .inl (fun _ => 0))), ((rq35 6), .inl (t 0, 9, .inl (fun _ => 0))), ((rq35 7), .inl (t 0, 9, .inl (fun _ => 0))), (q36, .inr (6, [.int 0, .int 0, .ref q37, .ref q38, .ref q39])), (q37, .inl (t 0, 20, .inl (fun _ => 0))), (q38, .inl (t 0, 20, .inl (fun _ => 0))), (q39, .inl (t 0, 8, .inl (fun _ => 0))), (q40, .inr (8, [.ref q41, .ref q42, .int 0, .int 0, .int 0, .ref q43, .ref q44, .int 0, .int 0, .int 0, .int 0, .ref q45, .ref q46, .ref q47, .int 0, .int 0, .int 0, .int 0, .int 0, .int 0, .int 0, .ref q48, .ref q49, .ref q50, .ref q51, .ref q52, .int 0, .ref q53, .int 0, .ref q54, .int 0, .ref q55, .ref q56, .int 0, .ref q57, .int 0])), (q41, .inl (t 0, 64, .inl (fun _ => 0))), (q42, .inl (t 0, 8, .inl (fun _ => 0))), (q43, .inl (t 0, 4, .inl (fun _ => 0))), (q44, .inl (t 0, 4, .inl (fun _ => 0))), (q45, .inl (t 0, 40, .inl (fun _ => 0))), (q46, .inl (t 0, 8, .inl (fun _ => 0))), (q47, .inl (t 0, 15, .inl (fun _ => 0))), (q48, .inl (t 0, 8, .inl (fun _ => 0))), (q49, .inl (t 0, 8, .inl (fun _ => 0))), (q50, .inl (t 0, 8, .inl (fun _ => 0))), (q51, .inl (t 0, 8, .inl (fun _ => 0))), (q52, .inl (t 0, 64, .inl (fun _ => 0))), (q53, .inl (t 0, 72, .inl (fun _ => 0))), (q54, .inl (t 0, 72, .inl (fun _ => 0))), (q55, .inl (t 0, 20, .inl (fun _ => 0))), (q56, .inl (t 0, 20, .inl (fun _ => 0))), (q57, .inl (t 0, 8, .inl (fun _ => 0))), (q58, .inl (t 2, 1, .inr (.inl (fun _ => 0))))] := hD
  refine lv_astore_n hx hb dn_La_19 rfl hl (by decide) rfl (fun ls hl => ?_)
  have hl : lv_has ls 7 [(3, .ref q58), (2, .ref q40), (1, .ref q1), (0, .ref b)] := hl
  refine lv_iconst (v := 0) hx hb dn_La_20 (by decide) ?_
  refine lv_istore hx hb dn_La_21 hl (by decide) rfl (fun ls hl => ?_)
  have hl : lv_has ls 7 [(4, .int 0), (3, .ref q58), (2, .ref q40), (1, .ref q1), (0, .ref b)] := hl
  have hl : lv_has ls 7 [(0, .ref b), (1, .ref q1), (2, .ref q40), (3, .ref q58), (4, .int 0)] := lv_sub hl [4, 3, 2, 1, 0] rfl
  have e0 : (0 : Int32) = nI (5 * 0) := by decide
  rw [e0] at hl
  obtain ⟨ad, had⟩ : ∃ ad : Nat → Nat, ad = fun k => match Nat.ble k 71 with | true => [q1, q2, q3, q4, q5, q6, q7, q8, q9, q10, q11, q12, q13, q14, q31, q36, q37, q38, q39, q32, q34, q40, q41, q42, q43, q44, q45, q46, q47, q48, q49, q50, q51, q52, q53, q54, q55, q56, q57, q58, q15, q17, q19, q21, q23, q25, q27, q29, q16, q18, q20, q22, q24, q26, q28, q30, (rq33 0), (rq33 1), (rq33 2), (rq33 3), (rq33 4), (rq33 5), (rq33 6), (rq33 7), (rq35 0), (rq35 1), (rq35 2), (rq35 3), (rq35 4), (rq35 5), (rq35 6), (rq35 7)].getD k 0 | false => b := ⟨_, rfl⟩
  have a0 : ad 0 = q1 := by rw [had]; rfl
  have a1 : ad 1 = q2 := by rw [had]; rfl
  have a2 : ad 2 = q3 := by rw [had]; rfl
  have a3 : ad 3 = q4 := by rw [had]; rfl
  have a4 : ad 4 = q5 := by rw [had]; rfl
  have a5 : ad 5 = q6 := by rw [had]; rfl
  have a6 : ad 6 = q7 := by rw [had]; rfl
  have a7 : ad 7 = q8 := by rw [had]; rfl
  have a8 : ad 8 = q9 := by rw [had]; rfl
  have a9 : ad 9 = q10 := by rw [had]; rfl
  have a10 : ad 10 = q11 := by rw [had]; rfl
  have a11 : ad 11 = q12 := by rw [had]; rfl
  have a12 : ad 12 = q13 := by rw [had]; rfl
  have a13 : ad 13 = q14 := by rw [had]; rfl
  have a14 : ad 14 = q31 := by rw [had]; rfl
  have a15 : ad 15 = q36 := by rw [had]; rfl
  have a16 : ad 16 = q37 := by rw [had]; rfl
  have a17 : ad 17 = q38 := by rw [had]; rfl
  have a18 : ad 18 = q39 := by rw [had]; rfl
  have a19 : ad 19 = q32 := by rw [had]; rfl
  have a20 : ad 20 = q34 := by rw [had]; rfl
  have a21 : ad 21 = q40 := by rw [had]; rfl
  have a22 : ad 22 = q41 := by rw [had]; rfl
  have a23 : ad 23 = q42 := by rw [had]; rfl
  have a24 : ad 24 = q43 := by rw [had]; rfl
  have a25 : ad 25 = q44 := by rw [had]; rfl
  have a26 : ad 26 = q45 := by rw [had]; rfl
  have a27 : ad 27 = q46 := by rw [had]; rfl
  have a28 : ad 28 = q47 := by rw [had]; rfl
  have a29 : ad 29 = q48 := by rw [had]; rfl
  have a30 : ad 30 = q49 := by rw [had]; rfl
  have a31 : ad 31 = q50 := by rw [had]; rfl
  have a32 : ad 32 = q51 := by rw [had]; rfl
  have a33 : ad 33 = q52 := by rw [had]; rfl
  have a34 : ad 34 = q53 := by rw [had]; rfl
  have a35 : ad 35 = q54 := by rw [had]; rfl
  have a36 : ad 36 = q55 := by rw [had]; rfl
  have a37 : ad 37 = q56 := by rw [had]; rfl
  have a38 : ad 38 = q57 := by rw [had]; rfl
  have a39 : ad 39 = q58 := by rw [had]; rfl
  have a40 : ad 40 = q15 := by rw [had]; rfl
  have a41 : ad 41 = q17 := by rw [had]; rfl
  have a42 : ad 42 = q19 := by rw [had]; rfl
  have a43 : ad 43 = q21 := by rw [had]; rfl
  have a44 : ad 44 = q23 := by rw [had]; rfl
  have a45 : ad 45 = q25 := by rw [had]; rfl
  have a46 : ad 46 = q27 := by rw [had]; rfl
  have a47 : ad 47 = q29 := by rw [had]; rfl
  have a48 : ad 48 = q16 := by rw [had]; rfl
  have a49 : ad 49 = q18 := by rw [had]; rfl
  have a50 : ad 50 = q20 := by rw [had]; rfl
  have a51 : ad 51 = q22 := by rw [had]; rfl
  have a52 : ad 52 = q24 := by rw [had]; rfl
  have a53 : ad 53 = q26 := by rw [had]; rfl
  have a54 : ad 54 = q28 := by rw [had]; rfl
  have a55 : ad 55 = q30 := by rw [had]; rfl
  have a56 : ad 56 = (rq33 0) := by rw [had]; rfl
  have a57 : ad 57 = (rq33 1) := by rw [had]; rfl
  have a58 : ad 58 = (rq33 2) := by rw [had]; rfl
  have a59 : ad 59 = (rq33 3) := by rw [had]; rfl
  have a60 : ad 60 = (rq33 4) := by rw [had]; rfl
  have a61 : ad 61 = (rq33 5) := by rw [had]; rfl
  have a62 : ad 62 = (rq33 6) := by rw [had]; rfl
  have a63 : ad 63 = (rq33 7) := by rw [had]; rfl
  have a64 : ad 64 = (rq35 0) := by rw [had]; rfl
  have a65 : ad 65 = (rq35 1) := by rw [had]; rfl
  have a66 : ad 66 = (rq35 2) := by rw [had]; rfl
  have a67 : ad 67 = (rq35 3) := by rw [had]; rfl
  have a68 : ad 68 = (rq35 4) := by rw [had]; rfl
  have a69 : ad 69 = (rq35 5) := by rw [had]; rfl
  have a70 : ad 70 = (rq35 6) := by rw [had]; rfl
  have a71 : ad 71 = (rq35 7) := by rw [had]; rfl
  have a900 : ad 900 = b := by rw [had]
  clear had
  obtain ⟨Ws, hWs⟩ : ∃ Ws : va_W, Ws = [(q1, .inr (0, [.ref q2, .ref q5, .ref q9, .ref q13, .ref q31, .ref q36])), (q2, .inr (1, [.ref q3, .ref q4, .int 0, .int 0])), (q3, .inl (t 0, 64, .inl (fun _ => 0))), (q4, .inl (t 0, 8, .inl (fun _ => 0))), (q5, .inr (2, [.ref q6, .int 0, .ref q2, .ref q7, .ref q8, .int 0, .int 0])), (q6, .inl (t 0, 7, .inl (fun _ => 0))), (q7, .inl (t 1, 64, .inl (fun _ => 0))), (q8, .inl (t 0, 64, .inl (fun _ => 0))), (q9, .inr (3, [.ref q10, .int 0, .int 0, .int 0, .int 0, .int 0, .int 0, .ref q5, .ref q11, .int 0, .ref q12])), (q10, .inl (t 0, 8, .inl (fun _ => 0))), (q11, .inl (t 0, 40, .inl (fun _ => 0))), (q12, .inl (t 0, 8, .inl (fun _ => 0))), (q13, .inr (4, [.ref q14, .int 0])), (q14, .inl (t 3, 8, .inr (.inr (.inr (.inr (va_up (va_up (va_up (va_up (va_up (va_up (va_up (va_up (fun _ => none) 0 (some q15)) 1 (some q17)) 2 (some q19)) 3 (some q21)) 4 (some q23)) 5 (some q25)) 6 (some q27)) 7 (some q29))))))), (q15, .inr (7, [.int 0, .int 0, .int 0, .ref q16])), (q16, .inl (t 0, 9, .inl (fun _ => -1))), (q17, .inr (7, [.int 0, .int 0, .int 0, .ref q18])), (q18, .inl (t 0, 9, .inl (fun _ => -1))), (q19, .inr (7, [.int 0, .int 0, .int 0, .ref q20])), (q20, .inl (t 0, 9, .inl (fun _ => -1))), (q21, .inr (7, [.int 0, .int 0, .int 0, .ref q22])), (q22, .inl (t 0, 9, .inl (fun _ => -1))), (q23, .inr (7, [.int 0, .int 0, .int 0, .ref q24])), (q24, .inl (t 0, 9, .inl (fun _ => -1))), (q25, .inr (7, [.int 0, .int 0, .int 0, .ref q26])), (q26, .inl (t 0, 9, .inl (fun _ => -1))), (q27, .inr (7, [.int 0, .int 0, .int 0, .ref q28])), (q28, .inl (t 0, 9, .inl (fun _ => -1))), (q29, .inr (7, [.int 0, .int 0, .int 0, .ref q30])), (q30, .inl (t 0, 9, .inl (fun _ => -1))), (q31, .inr (5, [.ref q32, .int 0, .ref q34])), (q32, .inl (t 4, 8, .inr (.inr (.inr (.inr (fun i => if i < 8 then some (rq33 i) else none)))))), ((rq33 0), .inl (t 0, 9, .inl (fun _ => 0))), ((rq33 1), .inl (t 0, 9, .inl (fun _ => 0))), ((rq33 2), .inl (t 0, 9, .inl (fun _ => 0))), ((rq33 3), .inl (t 0, 9, .inl (fun _ => 0))), ((rq33 4), .inl (t 0, 9, .inl (fun _ => 0))), ((rq33 5), .inl (t 0, 9, .inl (fun _ => 0))), ((rq33 6), .inl (t 0, 9, .inl (fun _ => 0))), ((rq33 7), .inl (t 0, 9, .inl (fun _ => 0))), (q34, .inl (t 4, 8, .inr (.inr (.inr (.inr (fun i => if i < 8 then some (rq35 i) else none)))))), ((rq35 0), .inl (t 0, 9, .inl (fun _ => 0))), ((rq35 1), .inl (t 0, 9, .inl (fun _ => 0))), ((rq35 2), .inl (t 0, 9, .inl (fun _ => 0))), ((rq35 3), .inl (t 0, 9, .inl (fun _ => 0))), ((rq35 4), .inl (t 0, 9, .inl (fun _ => 0))), ((rq35 5), .inl (t 0, 9, .inl (fun _ => 0))), ((rq35 6), .inl (t 0, 9, .inl (fun _ => 0))), ((rq35 7), .inl (t 0, 9, .inl (fun _ => 0))), (q36, .inr (6, [.int 0, .int 0, .ref q37, .ref q38, .ref q39])), (q37, .inl (t 0, 20, .inl (fun _ => 0))), (q38, .inl (t 0, 20, .inl (fun _ => 0))), (q39, .inl (t 0, 8, .inl (fun _ => 0))), (q40, .inr (8, [.ref q41, .ref q42, .int 0, .int 0, .int 0, .ref q43, .ref q44, .int 0, .int 0, .int 0, .int 0, .ref q45, .ref q46, .ref q47, .int 0, .int 0, .int 0, .int 0, .int 0, .int 0, .int 0, .ref q48, .ref q49, .ref q50, .ref q51, .ref q52, .int 0, .ref q53, .int 0, .ref q54, .int 0, .ref q55, .ref q56, .int 0, .ref q57, .int 0])), (q41, .inl (t 0, 64, .inl (fun _ => 0))), (q42, .inl (t 0, 8, .inl (fun _ => 0))), (q43, .inl (t 0, 4, .inl (fun _ => 0))), (q44, .inl (t 0, 4, .inl (fun _ => 0))), (q45, .inl (t 0, 40, .inl (fun _ => 0))), (q46, .inl (t 0, 8, .inl (fun _ => 0))), (q47, .inl (t 0, 15, .inl (fun _ => 0))), (q48, .inl (t 0, 8, .inl (fun _ => 0))), (q49, .inl (t 0, 8, .inl (fun _ => 0))), (q50, .inl (t 0, 8, .inl (fun _ => 0))), (q51, .inl (t 0, 8, .inl (fun _ => 0))), (q52, .inl (t 0, 64, .inl (fun _ => 0))), (q53, .inl (t 0, 72, .inl (fun _ => 0))), (q54, .inl (t 0, 72, .inl (fun _ => 0))), (q55, .inl (t 0, 20, .inl (fun _ => 0))), (q56, .inl (t 0, 20, .inl (fun _ => 0))), (q57, .inl (t 0, 8, .inl (fun _ => 0))), (q58, .inl (t 2, 1, .inr (.inl (fun _ => 0))))] := ⟨_, rfl⟩
  rw [← hWs] at hP hD
  have e0 : am_ent t ad am_I0 (am_p0 0) (fun _ _ => 0) 0 = .inr (0, [.ref q2, .ref q5, .ref q9, .ref q13, .ref q31, .ref q36]) := by
    show (Sum.inr (0, [.ref (ad 1), .ref (ad 4), .ref (ad 8), .ref (ad 12), .ref (ad 14), .ref (ad 15)]) : va_E) = _
    rw [a1, a4, a8, a12, a14, a15]
  have p0 := be_succ (n := 0) (P := fun k => ∃ e', Ws[cn_f k]? = some (ad k, e') ∧ (va_at D am_cl (ad k, e') H → va_at D am_cl (ad k, am_ent t ad am_I0 (am_p0 0) (fun _ _ => 0) k) H)) be_zero ⟨.inr (0, [.ref q2, .ref q5, .ref q9, .ref q13, .ref q31, .ref q36]), by rw [hWs, a0]; rfl, fun h => by rw [e0]; exact h⟩
  have e1 : am_ent t ad am_I0 (am_p0 0) (fun _ _ => 0) 1 = .inr (1, [.ref q3, .ref q4, .int 0, .int 0]) := by
    show (Sum.inr (1, [.ref (ad 2), .ref (ad 3), .int 0, .int 0]) : va_E) = _
    rw [a2, a3]
  have p1 := be_succ (n := 1) (P := fun k => ∃ e', Ws[cn_f k]? = some (ad k, e') ∧ (va_at D am_cl (ad k, e') H → va_at D am_cl (ad k, am_ent t ad am_I0 (am_p0 0) (fun _ _ => 0) k) H)) p0 ⟨.inr (1, [.ref q3, .ref q4, .int 0, .int 0]), by rw [hWs, a1]; rfl, fun h => by rw [e1]; exact h⟩
  have p2 := be_succ (n := 2) (P := fun k => ∃ e', Ws[cn_f k]? = some (ad k, e') ∧ (va_at D am_cl (ad k, e') H → va_at D am_cl (ad k, am_ent t ad am_I0 (am_p0 0) (fun _ _ => 0) k) H)) p1 ⟨.inl (t 0, 64, .inl (fun _ => 0)), by rw [hWs, a2]; rfl, fun h => h⟩
  have p3 := be_succ (n := 3) (P := fun k => ∃ e', Ws[cn_f k]? = some (ad k, e') ∧ (va_at D am_cl (ad k, e') H → va_at D am_cl (ad k, am_ent t ad am_I0 (am_p0 0) (fun _ _ => 0) k) H)) p2 ⟨.inl (t 0, 8, .inl (fun _ => 0)), by rw [hWs, a3]; rfl, fun h => h⟩
  have e4 : am_ent t ad am_I0 (am_p0 0) (fun _ _ => 0) 4 = .inr (2, [.ref q6, .int 0, .ref q2, .ref q7, .ref q8, .int 0, .int 0]) := by
    show (Sum.inr (2, [.ref (ad 5), .int 0, .ref (ad 1), .ref (ad 6), .ref (ad 7), .int 0, .int 0]) : va_E) = _
    rw [a5, a1, a6, a7]
  have p4 := be_succ (n := 4) (P := fun k => ∃ e', Ws[cn_f k]? = some (ad k, e') ∧ (va_at D am_cl (ad k, e') H → va_at D am_cl (ad k, am_ent t ad am_I0 (am_p0 0) (fun _ _ => 0) k) H)) p3 ⟨.inr (2, [.ref q6, .int 0, .ref q2, .ref q7, .ref q8, .int 0, .int 0]), by rw [hWs, a4]; rfl, fun h => by rw [e4]; exact h⟩
  have p5 := be_succ (n := 5) (P := fun k => ∃ e', Ws[cn_f k]? = some (ad k, e') ∧ (va_at D am_cl (ad k, e') H → va_at D am_cl (ad k, am_ent t ad am_I0 (am_p0 0) (fun _ _ => 0) k) H)) p4 ⟨.inl (t 0, 7, .inl (fun _ => 0)), by rw [hWs, a5]; rfl, fun h => h⟩
  have p6 := be_succ (n := 6) (P := fun k => ∃ e', Ws[cn_f k]? = some (ad k, e') ∧ (va_at D am_cl (ad k, e') H → va_at D am_cl (ad k, am_ent t ad am_I0 (am_p0 0) (fun _ _ => 0) k) H)) p5 ⟨.inl (t 1, 64, .inl (fun _ => 0)), by rw [hWs, a6]; rfl, fun h => h⟩
  have p7 := be_succ (n := 7) (P := fun k => ∃ e', Ws[cn_f k]? = some (ad k, e') ∧ (va_at D am_cl (ad k, e') H → va_at D am_cl (ad k, am_ent t ad am_I0 (am_p0 0) (fun _ _ => 0) k) H)) p6 ⟨.inl (t 0, 64, .inl (fun _ => 0)), by rw [hWs, a7]; rfl, fun h => h⟩
  have e8 : am_ent t ad am_I0 (am_p0 0) (fun _ _ => 0) 8 = .inr (3, [.ref q10, .int 0, .int 0, .int 0, .int 0, .int 0, .int 0, .ref q5, .ref q11, .int 0, .ref q12]) := by
    show (Sum.inr (3, [.ref (ad 9), .int 0, .int 0, .int 0, .int 0, .int 0, .int 0, .ref (ad 4), .ref (ad 10), .int 0, .ref (ad 11)]) : va_E) = _
    rw [a9, a4, a10, a11]
  have p8 := be_succ (n := 8) (P := fun k => ∃ e', Ws[cn_f k]? = some (ad k, e') ∧ (va_at D am_cl (ad k, e') H → va_at D am_cl (ad k, am_ent t ad am_I0 (am_p0 0) (fun _ _ => 0) k) H)) p7 ⟨.inr (3, [.ref q10, .int 0, .int 0, .int 0, .int 0, .int 0, .int 0, .ref q5, .ref q11, .int 0, .ref q12]), by rw [hWs, a8]; rfl, fun h => by rw [e8]; exact h⟩
  have p9 := be_succ (n := 9) (P := fun k => ∃ e', Ws[cn_f k]? = some (ad k, e') ∧ (va_at D am_cl (ad k, e') H → va_at D am_cl (ad k, am_ent t ad am_I0 (am_p0 0) (fun _ _ => 0) k) H)) p8 ⟨.inl (t 0, 8, .inl (fun _ => 0)), by rw [hWs, a9]; rfl, fun h => h⟩
  have p10 := be_succ (n := 10) (P := fun k => ∃ e', Ws[cn_f k]? = some (ad k, e') ∧ (va_at D am_cl (ad k, e') H → va_at D am_cl (ad k, am_ent t ad am_I0 (am_p0 0) (fun _ _ => 0) k) H)) p9 ⟨.inl (t 0, 40, .inl (fun _ => 0)), by rw [hWs, a10]; rfl, fun h => h⟩
  have p11 := be_succ (n := 11) (P := fun k => ∃ e', Ws[cn_f k]? = some (ad k, e') ∧ (va_at D am_cl (ad k, e') H → va_at D am_cl (ad k, am_ent t ad am_I0 (am_p0 0) (fun _ _ => 0) k) H)) p10 ⟨.inl (t 0, 8, .inl (fun _ => 0)), by rw [hWs, a11]; rfl, fun h => h⟩
  have e12 : am_ent t ad am_I0 (am_p0 0) (fun _ _ => 0) 12 = .inr (4, [.ref q14, .int 0]) := by
    show (Sum.inr (4, [.ref (ad 13), .int 0]) : va_E) = _
    rw [a13]
  have p12 := be_succ (n := 12) (P := fun k => ∃ e', Ws[cn_f k]? = some (ad k, e') ∧ (va_at D am_cl (ad k, e') H → va_at D am_cl (ad k, am_ent t ad am_I0 (am_p0 0) (fun _ _ => 0) k) H)) p11 ⟨.inr (4, [.ref q14, .int 0]), by rw [hWs, a12]; rfl, fun h => by rw [e12]; exact h⟩
  have g13 : ∀ j, j < 8 → (va_up (va_up (va_up (va_up (va_up (va_up (va_up (va_up (fun _ => none) 0 (some q15)) 1 (some q17)) 2 (some q19)) 3 (some q21)) 4 (some q23)) 5 (some q25)) 6 (some q27)) 7 (some q29)) j = ((am_p0 0 13 j).map ad) := fun j hj => by
    rcases (show j = 0 ∨ j = 1 ∨ j = 2 ∨ j = 3 ∨ j = 4 ∨ j = 5 ∨ j = 6 ∨ j = 7 by omega) with rfl | rfl | rfl | rfl | rfl | rfl | rfl | rfl
    · show _ = some (ad 40)
      rw [a40]
      rfl
    · show _ = some (ad 41)
      rw [a41]
      rfl
    · show _ = some (ad 42)
      rw [a42]
      rfl
    · show _ = some (ad 43)
      rw [a43]
      rfl
    · show _ = some (ad 44)
      rw [a44]
      rfl
    · show _ = some (ad 45)
      rw [a45]
      rfl
    · show _ = some (ad 46)
      rw [a46]
      rfl
    · show _ = some (ad 47)
      rw [a47]
      rfl
  have p13 := be_succ (n := 13) (P := fun k => ∃ e', Ws[cn_f k]? = some (ad k, e') ∧ (va_at D am_cl (ad k, e') H → va_at D am_cl (ad k, am_ent t ad am_I0 (am_p0 0) (fun _ _ => 0) k) H)) p12 ⟨.inl (t 3, 8, .inr (.inr (.inr (.inr (va_up (va_up (va_up (va_up (va_up (va_up (va_up (va_up (fun _ => none) 0 (some q15)) 1 (some q17)) 2 (some q19)) 3 (some q21)) 4 (some q23)) 5 (some q25)) 6 (some q27)) 7 (some q29)))))), by rw [hWs, a13]; rfl, fun h => h.trans (congrArg some (cn_arrQ g13))⟩
  have e14 : am_ent t ad am_I0 (am_p0 0) (fun _ _ => 0) 14 = .inr (5, [.ref q32, .int 0, .ref q34]) := by
    show (Sum.inr (5, [.ref (ad 19), .int 0, .ref (ad 20)]) : va_E) = _
    rw [a19, a20]
  have p14 := be_succ (n := 14) (P := fun k => ∃ e', Ws[cn_f k]? = some (ad k, e') ∧ (va_at D am_cl (ad k, e') H → va_at D am_cl (ad k, am_ent t ad am_I0 (am_p0 0) (fun _ _ => 0) k) H)) p13 ⟨.inr (5, [.ref q32, .int 0, .ref q34]), by rw [hWs, a14]; rfl, fun h => by rw [e14]; exact h⟩
  have e15 : am_ent t ad am_I0 (am_p0 0) (fun _ _ => 0) 15 = .inr (6, [.int 0, .int 0, .ref q37, .ref q38, .ref q39]) := by
    show (Sum.inr (6, [.int 0, .int 0, .ref (ad 16), .ref (ad 17), .ref (ad 18)]) : va_E) = _
    rw [a16, a17, a18]
  have p15 := be_succ (n := 15) (P := fun k => ∃ e', Ws[cn_f k]? = some (ad k, e') ∧ (va_at D am_cl (ad k, e') H → va_at D am_cl (ad k, am_ent t ad am_I0 (am_p0 0) (fun _ _ => 0) k) H)) p14 ⟨.inr (6, [.int 0, .int 0, .ref q37, .ref q38, .ref q39]), by rw [hWs, a15]; rfl, fun h => by rw [e15]; exact h⟩
  have p16 := be_succ (n := 16) (P := fun k => ∃ e', Ws[cn_f k]? = some (ad k, e') ∧ (va_at D am_cl (ad k, e') H → va_at D am_cl (ad k, am_ent t ad am_I0 (am_p0 0) (fun _ _ => 0) k) H)) p15 ⟨.inl (t 0, 20, .inl (fun _ => 0)), by rw [hWs, a16]; rfl, fun h => h⟩
  have p17 := be_succ (n := 17) (P := fun k => ∃ e', Ws[cn_f k]? = some (ad k, e') ∧ (va_at D am_cl (ad k, e') H → va_at D am_cl (ad k, am_ent t ad am_I0 (am_p0 0) (fun _ _ => 0) k) H)) p16 ⟨.inl (t 0, 20, .inl (fun _ => 0)), by rw [hWs, a17]; rfl, fun h => h⟩
  have p18 := be_succ (n := 18) (P := fun k => ∃ e', Ws[cn_f k]? = some (ad k, e') ∧ (va_at D am_cl (ad k, e') H → va_at D am_cl (ad k, am_ent t ad am_I0 (am_p0 0) (fun _ _ => 0) k) H)) p17 ⟨.inl (t 0, 8, .inl (fun _ => 0)), by rw [hWs, a18]; rfl, fun h => h⟩
  have g19 : ∀ j, j < 8 → (fun i => if i < 8 then some (rq33 i) else none) j = ((am_p0 0 19 j).map ad) := fun j hj => by
    rcases (show j = 0 ∨ j = 1 ∨ j = 2 ∨ j = 3 ∨ j = 4 ∨ j = 5 ∨ j = 6 ∨ j = 7 by omega) with rfl | rfl | rfl | rfl | rfl | rfl | rfl | rfl
    · show _ = some (ad 56)
      rw [a56]
      rfl
    · show _ = some (ad 57)
      rw [a57]
      rfl
    · show _ = some (ad 58)
      rw [a58]
      rfl
    · show _ = some (ad 59)
      rw [a59]
      rfl
    · show _ = some (ad 60)
      rw [a60]
      rfl
    · show _ = some (ad 61)
      rw [a61]
      rfl
    · show _ = some (ad 62)
      rw [a62]
      rfl
    · show _ = some (ad 63)
      rw [a63]
      rfl
  have p19 := be_succ (n := 19) (P := fun k => ∃ e', Ws[cn_f k]? = some (ad k, e') ∧ (va_at D am_cl (ad k, e') H → va_at D am_cl (ad k, am_ent t ad am_I0 (am_p0 0) (fun _ _ => 0) k) H)) p18 ⟨.inl (t 4, 8, .inr (.inr (.inr (.inr (fun i => if i < 8 then some (rq33 i) else none))))), by rw [hWs, a19]; rfl, fun h => h.trans (congrArg some (cn_arrQ g19))⟩
  have g20 : ∀ j, j < 8 → (fun i => if i < 8 then some (rq35 i) else none) j = ((am_p0 0 20 j).map ad) := fun j hj => by
    rcases (show j = 0 ∨ j = 1 ∨ j = 2 ∨ j = 3 ∨ j = 4 ∨ j = 5 ∨ j = 6 ∨ j = 7 by omega) with rfl | rfl | rfl | rfl | rfl | rfl | rfl | rfl
    · show _ = some (ad 64)
      rw [a64]
      rfl
    · show _ = some (ad 65)
      rw [a65]
      rfl
    · show _ = some (ad 66)
      rw [a66]
      rfl
    · show _ = some (ad 67)
      rw [a67]
      rfl
    · show _ = some (ad 68)
      rw [a68]
      rfl
    · show _ = some (ad 69)
      rw [a69]
      rfl
    · show _ = some (ad 70)
      rw [a70]
      rfl
    · show _ = some (ad 71)
      rw [a71]
      rfl
  have p20 := be_succ (n := 20) (P := fun k => ∃ e', Ws[cn_f k]? = some (ad k, e') ∧ (va_at D am_cl (ad k, e') H → va_at D am_cl (ad k, am_ent t ad am_I0 (am_p0 0) (fun _ _ => 0) k) H)) p19 ⟨.inl (t 4, 8, .inr (.inr (.inr (.inr (fun i => if i < 8 then some (rq35 i) else none))))), by rw [hWs, a20]; rfl, fun h => h.trans (congrArg some (cn_arrQ g20))⟩
  have e21 : am_ent t ad am_I0 (am_p0 0) (fun _ _ => 0) 21 = .inr (8, [.ref q41, .ref q42, .int 0, .int 0, .int 0, .ref q43, .ref q44, .int 0, .int 0, .int 0, .int 0, .ref q45, .ref q46, .ref q47, .int 0, .int 0, .int 0, .int 0, .int 0, .int 0, .int 0, .ref q48, .ref q49, .ref q50, .ref q51, .ref q52, .int 0, .ref q53, .int 0, .ref q54, .int 0, .ref q55, .ref q56, .int 0, .ref q57, .int 0]) := by
    show (Sum.inr (8, [.ref (ad 22), .ref (ad 23), .int 0, .int 0, .int 0, .ref (ad 24), .ref (ad 25), .int 0, .int 0, .int 0, .int 0, .ref (ad 26), .ref (ad 27), .ref (ad 28), .int 0, .int 0, .int 0, .int 0, .int 0, .int 0, .int 0, .ref (ad 29), .ref (ad 30), .ref (ad 31), .ref (ad 32), .ref (ad 33), .int 0, .ref (ad 34), .int 0, .ref (ad 35), .int 0, .ref (ad 36), .ref (ad 37), .int 0, .ref (ad 38), .int 0]) : va_E) = _
    rw [a22, a23, a24, a25, a26, a27, a28, a29, a30, a31, a32, a33, a34, a35, a36, a37, a38]
  have p21 := be_succ (n := 21) (P := fun k => ∃ e', Ws[cn_f k]? = some (ad k, e') ∧ (va_at D am_cl (ad k, e') H → va_at D am_cl (ad k, am_ent t ad am_I0 (am_p0 0) (fun _ _ => 0) k) H)) p20 ⟨.inr (8, [.ref q41, .ref q42, .int 0, .int 0, .int 0, .ref q43, .ref q44, .int 0, .int 0, .int 0, .int 0, .ref q45, .ref q46, .ref q47, .int 0, .int 0, .int 0, .int 0, .int 0, .int 0, .int 0, .ref q48, .ref q49, .ref q50, .ref q51, .ref q52, .int 0, .ref q53, .int 0, .ref q54, .int 0, .ref q55, .ref q56, .int 0, .ref q57, .int 0]), by rw [hWs, a21]; rfl, fun h => by rw [e21]; exact h⟩
  have p22 := be_succ (n := 22) (P := fun k => ∃ e', Ws[cn_f k]? = some (ad k, e') ∧ (va_at D am_cl (ad k, e') H → va_at D am_cl (ad k, am_ent t ad am_I0 (am_p0 0) (fun _ _ => 0) k) H)) p21 ⟨.inl (t 0, 64, .inl (fun _ => 0)), by rw [hWs, a22]; rfl, fun h => h⟩
  have p23 := be_succ (n := 23) (P := fun k => ∃ e', Ws[cn_f k]? = some (ad k, e') ∧ (va_at D am_cl (ad k, e') H → va_at D am_cl (ad k, am_ent t ad am_I0 (am_p0 0) (fun _ _ => 0) k) H)) p22 ⟨.inl (t 0, 8, .inl (fun _ => 0)), by rw [hWs, a23]; rfl, fun h => h⟩
  have p24 := be_succ (n := 24) (P := fun k => ∃ e', Ws[cn_f k]? = some (ad k, e') ∧ (va_at D am_cl (ad k, e') H → va_at D am_cl (ad k, am_ent t ad am_I0 (am_p0 0) (fun _ _ => 0) k) H)) p23 ⟨.inl (t 0, 4, .inl (fun _ => 0)), by rw [hWs, a24]; rfl, fun h => h⟩
  have p25 := be_succ (n := 25) (P := fun k => ∃ e', Ws[cn_f k]? = some (ad k, e') ∧ (va_at D am_cl (ad k, e') H → va_at D am_cl (ad k, am_ent t ad am_I0 (am_p0 0) (fun _ _ => 0) k) H)) p24 ⟨.inl (t 0, 4, .inl (fun _ => 0)), by rw [hWs, a25]; rfl, fun h => h⟩
  have p26 := be_succ (n := 26) (P := fun k => ∃ e', Ws[cn_f k]? = some (ad k, e') ∧ (va_at D am_cl (ad k, e') H → va_at D am_cl (ad k, am_ent t ad am_I0 (am_p0 0) (fun _ _ => 0) k) H)) p25 ⟨.inl (t 0, 40, .inl (fun _ => 0)), by rw [hWs, a26]; rfl, fun h => h⟩
  have p27 := be_succ (n := 27) (P := fun k => ∃ e', Ws[cn_f k]? = some (ad k, e') ∧ (va_at D am_cl (ad k, e') H → va_at D am_cl (ad k, am_ent t ad am_I0 (am_p0 0) (fun _ _ => 0) k) H)) p26 ⟨.inl (t 0, 8, .inl (fun _ => 0)), by rw [hWs, a27]; rfl, fun h => h⟩
  have p28 := be_succ (n := 28) (P := fun k => ∃ e', Ws[cn_f k]? = some (ad k, e') ∧ (va_at D am_cl (ad k, e') H → va_at D am_cl (ad k, am_ent t ad am_I0 (am_p0 0) (fun _ _ => 0) k) H)) p27 ⟨.inl (t 0, 15, .inl (fun _ => 0)), by rw [hWs, a28]; rfl, fun h => h⟩
  have p29 := be_succ (n := 29) (P := fun k => ∃ e', Ws[cn_f k]? = some (ad k, e') ∧ (va_at D am_cl (ad k, e') H → va_at D am_cl (ad k, am_ent t ad am_I0 (am_p0 0) (fun _ _ => 0) k) H)) p28 ⟨.inl (t 0, 8, .inl (fun _ => 0)), by rw [hWs, a29]; rfl, fun h => h⟩
  have p30 := be_succ (n := 30) (P := fun k => ∃ e', Ws[cn_f k]? = some (ad k, e') ∧ (va_at D am_cl (ad k, e') H → va_at D am_cl (ad k, am_ent t ad am_I0 (am_p0 0) (fun _ _ => 0) k) H)) p29 ⟨.inl (t 0, 8, .inl (fun _ => 0)), by rw [hWs, a30]; rfl, fun h => h⟩
  have p31 := be_succ (n := 31) (P := fun k => ∃ e', Ws[cn_f k]? = some (ad k, e') ∧ (va_at D am_cl (ad k, e') H → va_at D am_cl (ad k, am_ent t ad am_I0 (am_p0 0) (fun _ _ => 0) k) H)) p30 ⟨.inl (t 0, 8, .inl (fun _ => 0)), by rw [hWs, a31]; rfl, fun h => h⟩
  have p32 := be_succ (n := 32) (P := fun k => ∃ e', Ws[cn_f k]? = some (ad k, e') ∧ (va_at D am_cl (ad k, e') H → va_at D am_cl (ad k, am_ent t ad am_I0 (am_p0 0) (fun _ _ => 0) k) H)) p31 ⟨.inl (t 0, 8, .inl (fun _ => 0)), by rw [hWs, a32]; rfl, fun h => h⟩
  have p33 := be_succ (n := 33) (P := fun k => ∃ e', Ws[cn_f k]? = some (ad k, e') ∧ (va_at D am_cl (ad k, e') H → va_at D am_cl (ad k, am_ent t ad am_I0 (am_p0 0) (fun _ _ => 0) k) H)) p32 ⟨.inl (t 0, 64, .inl (fun _ => 0)), by rw [hWs, a33]; rfl, fun h => h⟩
  have p34 := be_succ (n := 34) (P := fun k => ∃ e', Ws[cn_f k]? = some (ad k, e') ∧ (va_at D am_cl (ad k, e') H → va_at D am_cl (ad k, am_ent t ad am_I0 (am_p0 0) (fun _ _ => 0) k) H)) p33 ⟨.inl (t 0, 72, .inl (fun _ => 0)), by rw [hWs, a34]; rfl, fun h => h⟩
  have p35 := be_succ (n := 35) (P := fun k => ∃ e', Ws[cn_f k]? = some (ad k, e') ∧ (va_at D am_cl (ad k, e') H → va_at D am_cl (ad k, am_ent t ad am_I0 (am_p0 0) (fun _ _ => 0) k) H)) p34 ⟨.inl (t 0, 72, .inl (fun _ => 0)), by rw [hWs, a35]; rfl, fun h => h⟩
  have p36 := be_succ (n := 36) (P := fun k => ∃ e', Ws[cn_f k]? = some (ad k, e') ∧ (va_at D am_cl (ad k, e') H → va_at D am_cl (ad k, am_ent t ad am_I0 (am_p0 0) (fun _ _ => 0) k) H)) p35 ⟨.inl (t 0, 20, .inl (fun _ => 0)), by rw [hWs, a36]; rfl, fun h => h⟩
  have p37 := be_succ (n := 37) (P := fun k => ∃ e', Ws[cn_f k]? = some (ad k, e') ∧ (va_at D am_cl (ad k, e') H → va_at D am_cl (ad k, am_ent t ad am_I0 (am_p0 0) (fun _ _ => 0) k) H)) p36 ⟨.inl (t 0, 20, .inl (fun _ => 0)), by rw [hWs, a37]; rfl, fun h => h⟩
  have p38 := be_succ (n := 38) (P := fun k => ∃ e', Ws[cn_f k]? = some (ad k, e') ∧ (va_at D am_cl (ad k, e') H → va_at D am_cl (ad k, am_ent t ad am_I0 (am_p0 0) (fun _ _ => 0) k) H)) p37 ⟨.inl (t 0, 8, .inl (fun _ => 0)), by rw [hWs, a38]; rfl, fun h => h⟩
  have p39 := be_succ (n := 39) (P := fun k => ∃ e', Ws[cn_f k]? = some (ad k, e') ∧ (va_at D am_cl (ad k, e') H → va_at D am_cl (ad k, am_ent t ad am_I0 (am_p0 0) (fun _ _ => 0) k) H)) p38 ⟨.inl (t 2, 1, .inr (.inl (fun _ => 0))), by rw [hWs, a39]; rfl, fun h => h⟩
  have e40 : am_ent t ad am_I0 (am_p0 0) (fun _ _ => 0) 40 = .inr (7, [.int 0, .int 0, .int 0, .ref q16]) := by
    show (Sum.inr (7, [.int 0, .int 0, .int 0, .ref (ad 48)]) : va_E) = _
    rw [a48]
  have p40 := be_succ (n := 40) (P := fun k => ∃ e', Ws[cn_f k]? = some (ad k, e') ∧ (va_at D am_cl (ad k, e') H → va_at D am_cl (ad k, am_ent t ad am_I0 (am_p0 0) (fun _ _ => 0) k) H)) p39 ⟨.inr (7, [.int 0, .int 0, .int 0, .ref q16]), by rw [hWs, a40]; rfl, fun h => by rw [e40]; exact h⟩
  have e41 : am_ent t ad am_I0 (am_p0 0) (fun _ _ => 0) 41 = .inr (7, [.int 0, .int 0, .int 0, .ref q18]) := by
    show (Sum.inr (7, [.int 0, .int 0, .int 0, .ref (ad 49)]) : va_E) = _
    rw [a49]
  have p41 := be_succ (n := 41) (P := fun k => ∃ e', Ws[cn_f k]? = some (ad k, e') ∧ (va_at D am_cl (ad k, e') H → va_at D am_cl (ad k, am_ent t ad am_I0 (am_p0 0) (fun _ _ => 0) k) H)) p40 ⟨.inr (7, [.int 0, .int 0, .int 0, .ref q18]), by rw [hWs, a41]; rfl, fun h => by rw [e41]; exact h⟩
  have e42 : am_ent t ad am_I0 (am_p0 0) (fun _ _ => 0) 42 = .inr (7, [.int 0, .int 0, .int 0, .ref q20]) := by
    show (Sum.inr (7, [.int 0, .int 0, .int 0, .ref (ad 50)]) : va_E) = _
    rw [a50]
  have p42 := be_succ (n := 42) (P := fun k => ∃ e', Ws[cn_f k]? = some (ad k, e') ∧ (va_at D am_cl (ad k, e') H → va_at D am_cl (ad k, am_ent t ad am_I0 (am_p0 0) (fun _ _ => 0) k) H)) p41 ⟨.inr (7, [.int 0, .int 0, .int 0, .ref q20]), by rw [hWs, a42]; rfl, fun h => by rw [e42]; exact h⟩
  have e43 : am_ent t ad am_I0 (am_p0 0) (fun _ _ => 0) 43 = .inr (7, [.int 0, .int 0, .int 0, .ref q22]) := by
    show (Sum.inr (7, [.int 0, .int 0, .int 0, .ref (ad 51)]) : va_E) = _
    rw [a51]
  have p43 := be_succ (n := 43) (P := fun k => ∃ e', Ws[cn_f k]? = some (ad k, e') ∧ (va_at D am_cl (ad k, e') H → va_at D am_cl (ad k, am_ent t ad am_I0 (am_p0 0) (fun _ _ => 0) k) H)) p42 ⟨.inr (7, [.int 0, .int 0, .int 0, .ref q22]), by rw [hWs, a43]; rfl, fun h => by rw [e43]; exact h⟩
  have e44 : am_ent t ad am_I0 (am_p0 0) (fun _ _ => 0) 44 = .inr (7, [.int 0, .int 0, .int 0, .ref q24]) := by
    show (Sum.inr (7, [.int 0, .int 0, .int 0, .ref (ad 52)]) : va_E) = _
    rw [a52]
  have p44 := be_succ (n := 44) (P := fun k => ∃ e', Ws[cn_f k]? = some (ad k, e') ∧ (va_at D am_cl (ad k, e') H → va_at D am_cl (ad k, am_ent t ad am_I0 (am_p0 0) (fun _ _ => 0) k) H)) p43 ⟨.inr (7, [.int 0, .int 0, .int 0, .ref q24]), by rw [hWs, a44]; rfl, fun h => by rw [e44]; exact h⟩
  have e45 : am_ent t ad am_I0 (am_p0 0) (fun _ _ => 0) 45 = .inr (7, [.int 0, .int 0, .int 0, .ref q26]) := by
    show (Sum.inr (7, [.int 0, .int 0, .int 0, .ref (ad 53)]) : va_E) = _
    rw [a53]
  have p45 := be_succ (n := 45) (P := fun k => ∃ e', Ws[cn_f k]? = some (ad k, e') ∧ (va_at D am_cl (ad k, e') H → va_at D am_cl (ad k, am_ent t ad am_I0 (am_p0 0) (fun _ _ => 0) k) H)) p44 ⟨.inr (7, [.int 0, .int 0, .int 0, .ref q26]), by rw [hWs, a45]; rfl, fun h => by rw [e45]; exact h⟩
  have e46 : am_ent t ad am_I0 (am_p0 0) (fun _ _ => 0) 46 = .inr (7, [.int 0, .int 0, .int 0, .ref q28]) := by
    show (Sum.inr (7, [.int 0, .int 0, .int 0, .ref (ad 54)]) : va_E) = _
    rw [a54]
  have p46 := be_succ (n := 46) (P := fun k => ∃ e', Ws[cn_f k]? = some (ad k, e') ∧ (va_at D am_cl (ad k, e') H → va_at D am_cl (ad k, am_ent t ad am_I0 (am_p0 0) (fun _ _ => 0) k) H)) p45 ⟨.inr (7, [.int 0, .int 0, .int 0, .ref q28]), by rw [hWs, a46]; rfl, fun h => by rw [e46]; exact h⟩
  have e47 : am_ent t ad am_I0 (am_p0 0) (fun _ _ => 0) 47 = .inr (7, [.int 0, .int 0, .int 0, .ref q30]) := by
    show (Sum.inr (7, [.int 0, .int 0, .int 0, .ref (ad 55)]) : va_E) = _
    rw [a55]
  have p47 := be_succ (n := 47) (P := fun k => ∃ e', Ws[cn_f k]? = some (ad k, e') ∧ (va_at D am_cl (ad k, e') H → va_at D am_cl (ad k, am_ent t ad am_I0 (am_p0 0) (fun _ _ => 0) k) H)) p46 ⟨.inr (7, [.int 0, .int 0, .int 0, .ref q30]), by rw [hWs, a47]; rfl, fun h => by rw [e47]; exact h⟩
  have p48 := be_succ (n := 48) (P := fun k => ∃ e', Ws[cn_f k]? = some (ad k, e') ∧ (va_at D am_cl (ad k, e') H → va_at D am_cl (ad k, am_ent t ad am_I0 (am_p0 0) (fun _ _ => 0) k) H)) p47 ⟨.inl (t 0, 9, .inl (fun _ => -1)), by rw [hWs, a48]; rfl, fun h => h⟩
  have p49 := be_succ (n := 49) (P := fun k => ∃ e', Ws[cn_f k]? = some (ad k, e') ∧ (va_at D am_cl (ad k, e') H → va_at D am_cl (ad k, am_ent t ad am_I0 (am_p0 0) (fun _ _ => 0) k) H)) p48 ⟨.inl (t 0, 9, .inl (fun _ => -1)), by rw [hWs, a49]; rfl, fun h => h⟩
  have p50 := be_succ (n := 50) (P := fun k => ∃ e', Ws[cn_f k]? = some (ad k, e') ∧ (va_at D am_cl (ad k, e') H → va_at D am_cl (ad k, am_ent t ad am_I0 (am_p0 0) (fun _ _ => 0) k) H)) p49 ⟨.inl (t 0, 9, .inl (fun _ => -1)), by rw [hWs, a50]; rfl, fun h => h⟩
  have p51 := be_succ (n := 51) (P := fun k => ∃ e', Ws[cn_f k]? = some (ad k, e') ∧ (va_at D am_cl (ad k, e') H → va_at D am_cl (ad k, am_ent t ad am_I0 (am_p0 0) (fun _ _ => 0) k) H)) p50 ⟨.inl (t 0, 9, .inl (fun _ => -1)), by rw [hWs, a51]; rfl, fun h => h⟩
  have p52 := be_succ (n := 52) (P := fun k => ∃ e', Ws[cn_f k]? = some (ad k, e') ∧ (va_at D am_cl (ad k, e') H → va_at D am_cl (ad k, am_ent t ad am_I0 (am_p0 0) (fun _ _ => 0) k) H)) p51 ⟨.inl (t 0, 9, .inl (fun _ => -1)), by rw [hWs, a52]; rfl, fun h => h⟩
  have p53 := be_succ (n := 53) (P := fun k => ∃ e', Ws[cn_f k]? = some (ad k, e') ∧ (va_at D am_cl (ad k, e') H → va_at D am_cl (ad k, am_ent t ad am_I0 (am_p0 0) (fun _ _ => 0) k) H)) p52 ⟨.inl (t 0, 9, .inl (fun _ => -1)), by rw [hWs, a53]; rfl, fun h => h⟩
  have p54 := be_succ (n := 54) (P := fun k => ∃ e', Ws[cn_f k]? = some (ad k, e') ∧ (va_at D am_cl (ad k, e') H → va_at D am_cl (ad k, am_ent t ad am_I0 (am_p0 0) (fun _ _ => 0) k) H)) p53 ⟨.inl (t 0, 9, .inl (fun _ => -1)), by rw [hWs, a54]; rfl, fun h => h⟩
  have p55 := be_succ (n := 55) (P := fun k => ∃ e', Ws[cn_f k]? = some (ad k, e') ∧ (va_at D am_cl (ad k, e') H → va_at D am_cl (ad k, am_ent t ad am_I0 (am_p0 0) (fun _ _ => 0) k) H)) p54 ⟨.inl (t 0, 9, .inl (fun _ => -1)), by rw [hWs, a55]; rfl, fun h => h⟩
  have p56 := be_succ (n := 56) (P := fun k => ∃ e', Ws[cn_f k]? = some (ad k, e') ∧ (va_at D am_cl (ad k, e') H → va_at D am_cl (ad k, am_ent t ad am_I0 (am_p0 0) (fun _ _ => 0) k) H)) p55 ⟨.inl (t 0, 9, .inl (fun _ => 0)), by rw [hWs, a56]; rfl, fun h => h⟩
  have p57 := be_succ (n := 57) (P := fun k => ∃ e', Ws[cn_f k]? = some (ad k, e') ∧ (va_at D am_cl (ad k, e') H → va_at D am_cl (ad k, am_ent t ad am_I0 (am_p0 0) (fun _ _ => 0) k) H)) p56 ⟨.inl (t 0, 9, .inl (fun _ => 0)), by rw [hWs, a57]; rfl, fun h => h⟩
  have p58 := be_succ (n := 58) (P := fun k => ∃ e', Ws[cn_f k]? = some (ad k, e') ∧ (va_at D am_cl (ad k, e') H → va_at D am_cl (ad k, am_ent t ad am_I0 (am_p0 0) (fun _ _ => 0) k) H)) p57 ⟨.inl (t 0, 9, .inl (fun _ => 0)), by rw [hWs, a58]; rfl, fun h => h⟩
  have p59 := be_succ (n := 59) (P := fun k => ∃ e', Ws[cn_f k]? = some (ad k, e') ∧ (va_at D am_cl (ad k, e') H → va_at D am_cl (ad k, am_ent t ad am_I0 (am_p0 0) (fun _ _ => 0) k) H)) p58 ⟨.inl (t 0, 9, .inl (fun _ => 0)), by rw [hWs, a59]; rfl, fun h => h⟩
  have p60 := be_succ (n := 60) (P := fun k => ∃ e', Ws[cn_f k]? = some (ad k, e') ∧ (va_at D am_cl (ad k, e') H → va_at D am_cl (ad k, am_ent t ad am_I0 (am_p0 0) (fun _ _ => 0) k) H)) p59 ⟨.inl (t 0, 9, .inl (fun _ => 0)), by rw [hWs, a60]; rfl, fun h => h⟩
  have p61 := be_succ (n := 61) (P := fun k => ∃ e', Ws[cn_f k]? = some (ad k, e') ∧ (va_at D am_cl (ad k, e') H → va_at D am_cl (ad k, am_ent t ad am_I0 (am_p0 0) (fun _ _ => 0) k) H)) p60 ⟨.inl (t 0, 9, .inl (fun _ => 0)), by rw [hWs, a61]; rfl, fun h => h⟩
  have p62 := be_succ (n := 62) (P := fun k => ∃ e', Ws[cn_f k]? = some (ad k, e') ∧ (va_at D am_cl (ad k, e') H → va_at D am_cl (ad k, am_ent t ad am_I0 (am_p0 0) (fun _ _ => 0) k) H)) p61 ⟨.inl (t 0, 9, .inl (fun _ => 0)), by rw [hWs, a62]; rfl, fun h => h⟩
  have p63 := be_succ (n := 63) (P := fun k => ∃ e', Ws[cn_f k]? = some (ad k, e') ∧ (va_at D am_cl (ad k, e') H → va_at D am_cl (ad k, am_ent t ad am_I0 (am_p0 0) (fun _ _ => 0) k) H)) p62 ⟨.inl (t 0, 9, .inl (fun _ => 0)), by rw [hWs, a63]; rfl, fun h => h⟩
  have p64 := be_succ (n := 64) (P := fun k => ∃ e', Ws[cn_f k]? = some (ad k, e') ∧ (va_at D am_cl (ad k, e') H → va_at D am_cl (ad k, am_ent t ad am_I0 (am_p0 0) (fun _ _ => 0) k) H)) p63 ⟨.inl (t 0, 9, .inl (fun _ => 0)), by rw [hWs, a64]; rfl, fun h => h⟩
  have p65 := be_succ (n := 65) (P := fun k => ∃ e', Ws[cn_f k]? = some (ad k, e') ∧ (va_at D am_cl (ad k, e') H → va_at D am_cl (ad k, am_ent t ad am_I0 (am_p0 0) (fun _ _ => 0) k) H)) p64 ⟨.inl (t 0, 9, .inl (fun _ => 0)), by rw [hWs, a65]; rfl, fun h => h⟩
  have p66 := be_succ (n := 66) (P := fun k => ∃ e', Ws[cn_f k]? = some (ad k, e') ∧ (va_at D am_cl (ad k, e') H → va_at D am_cl (ad k, am_ent t ad am_I0 (am_p0 0) (fun _ _ => 0) k) H)) p65 ⟨.inl (t 0, 9, .inl (fun _ => 0)), by rw [hWs, a66]; rfl, fun h => h⟩
  have p67 := be_succ (n := 67) (P := fun k => ∃ e', Ws[cn_f k]? = some (ad k, e') ∧ (va_at D am_cl (ad k, e') H → va_at D am_cl (ad k, am_ent t ad am_I0 (am_p0 0) (fun _ _ => 0) k) H)) p66 ⟨.inl (t 0, 9, .inl (fun _ => 0)), by rw [hWs, a67]; rfl, fun h => h⟩
  have p68 := be_succ (n := 68) (P := fun k => ∃ e', Ws[cn_f k]? = some (ad k, e') ∧ (va_at D am_cl (ad k, e') H → va_at D am_cl (ad k, am_ent t ad am_I0 (am_p0 0) (fun _ _ => 0) k) H)) p67 ⟨.inl (t 0, 9, .inl (fun _ => 0)), by rw [hWs, a68]; rfl, fun h => h⟩
  have p69 := be_succ (n := 69) (P := fun k => ∃ e', Ws[cn_f k]? = some (ad k, e') ∧ (va_at D am_cl (ad k, e') H → va_at D am_cl (ad k, am_ent t ad am_I0 (am_p0 0) (fun _ _ => 0) k) H)) p68 ⟨.inl (t 0, 9, .inl (fun _ => 0)), by rw [hWs, a69]; rfl, fun h => h⟩
  have p70 := be_succ (n := 70) (P := fun k => ∃ e', Ws[cn_f k]? = some (ad k, e') ∧ (va_at D am_cl (ad k, e') H → va_at D am_cl (ad k, am_ent t ad am_I0 (am_p0 0) (fun _ _ => 0) k) H)) p69 ⟨.inl (t 0, 9, .inl (fun _ => 0)), by rw [hWs, a70]; rfl, fun h => h⟩
  have p71 := be_succ (n := 71) (P := fun k => ∃ e', Ws[cn_f k]? = some (ad k, e') ∧ (va_at D am_cl (ad k, e') H → va_at D am_cl (ad k, am_ent t ad am_I0 (am_p0 0) (fun _ _ => 0) k) H)) p70 ⟨.inl (t 0, 9, .inl (fun _ => 0)), by rw [hWs, a71]; rfl, fun h => h⟩
  obtain ⟨hP9, hD9⟩ := cn_lay (ws := Ws) (t := t) (ad := ad) (I := am_I0) (P := am_p0 0) (J := fun _ _ => 0) (f := cn_f) hP hD p71 cn_f_inj
  refine law_23 (ad := ad) (sc := (L, xs)) (A := fun x => s.heap.size ≤ x) hfl0 hx hb hml hr hlocks hown htw hK.1 ⟨⟨kn_Zk hts9 hgv, kn_Nc hgv⟩, by rw [a900]; exact hX⟩ (fun q h => h) (by rw [a900]; exact hbl) hL (J := fun _ _ => 0) hP9 hD9 hS ?_ (by decide) (by decide)
  show lv_has ls 7 [(0, .ref (ad 900)), (1, .ref (ad 0)), (2, .ref (ad 21)), (3, .ref (ad 39)), (4, .int (nI (5 * 0)))]
  rw [a900, a0, a21, a39]
  exact hl
