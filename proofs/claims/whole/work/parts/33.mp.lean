/-! The reference: steps, putBreak, takeBreak, word. -/
def mo_u : Nat → Int32
  | 0 => 1
  | _ + 1 => 0
theorem ok_msteps_loop {sc : am_S} {C : Nat → am_T} (h16 : am_has C 16 (T_adr cs_adr)) (h22 : am_has C 22 T_mstep) {q n m c : Nat} {J : am_J} {K : am_K} {V : am_W} (hD : am_drop V) (hV : am_closed sc C tb_Mo_steps V K) (hm : m ≤ 4) (hc : c ≤ 200) :
    ∀ (k i : Nat) (I : am_I), i + k = c → I 21 4 = nI m → K (.inl (some (.inl (mo_sts m k (mo_u i) I).1))) (mo_sts m k (mo_u i) I).2 (am_p0 q) J n →
      V 2 [(0, .inr (.inr (some 21))), (1, .inl (nI c)), (2, .inl (nI i))] [] I (am_p0 q) J n := by
  intro k
  induction k with
  | zero =>
    intro i I hi em hK
    apply hV; apply hV; apply hV
    refine ⟨fun h => ?_, fun h => absurd (nI_le (by omega) (by omega)) h⟩
    apply hV; apply hV
    exact hK
  | succ k ih =>
    intro i I hi em hK
    have at17 : V 17 [(0, .inr (.inr (some 21))), (1, .inl (nI c)), (2, .inl (nI i))] [.inl (mo_u i), .inr (.inr (some 21))] I (am_p0 q) J n := by
      apply hV
      refine ⟨rfl, ?_⟩
      refine h22 _ _ _ _ _ _ ⟨rfl, ⟨_, rfl⟩, m, hm, em, ?_⟩
      have hag := mo_st_ag (mo_u i) m I
      unfold mo_sts at hK
      generalize mo_st (mo_u i) m I = y at hag hK ⊢
      obtain ⟨s, X⟩ := y
      have e4 : X 21 4 = nI m := (hag.2 4 (by omega) (by omega)).trans em
      have next : K (.inl (some (.inl (mo_sts m k 0 X).1))) (mo_sts m k 0 X).2 (am_p0 q) J n → V 57 [(0, .inr (.inr (some 21))), (1, .inl (nI c)), (2, .inl (nI i)), (3, .inl s)] [] X (am_p0 q) J n := by
        intro hK
        apply hD 3
        apply hV; apply hV
        show V 2 [(0, .inr (.inr (some 21))), (1, .inl (nI c)), (2, .inl (nI i + 1))] [] X (am_p0 q) J n
        rw [← nI_succ]
        exact ih (i + 1) X (by omega) e4 hK
      have hK : K (.inl (some (.inl (if s = 1 then match cs_brk (pm_at (X 22) (X 21 2)) with | true => (2, X) | false => mo_sts m k 0 X else (s, X) : Int32 × am_I).1))) (if s = 1 then match cs_brk (pm_at (X 22) (X 21 2)) with | true => (2, X) | false => mo_sts m k 0 X else (s, X) : Int32 × am_I).2 (am_p0 q) J n := hK
      show V 20 [(0, .inr (.inr (some 21))), (1, .inl (nI c)), (2, .inl (nI i))] [.inl s] X (am_p0 q) J n
      apply hV; apply hV; apply hV; apply hV
      refine ⟨fun h1 => ?_, fun h1 => ?_⟩
      · rw [if_pos h1] at hK
        apply hV; apply hV
        refine ⟨rfl, ?_⟩
        apply hV
        refine h16 _ _ _ _ _ _ ?_
        apply hV
        refine ⟨fun h2 => ?_, fun h2 => ?_⟩
        · have h2' := cs_b0 h2
          have e : cs_brk (pm_at (X 22) (X 21 2)) = false := by
            unfold pm_at
            rw [h2']
            show cs_brk 14 = false
            decide
          simp only [e] at hK
          exact next hK
        · have h2' : cs_adr (X 21 2) = true := cs_b1 h2
          have e : cs_brk (pm_at (X 22) (X 21 2)) = decide (X 22 (X 21 2).toNatClampNeg &&& 15 = 15) := by
            unfold pm_at
            rw [h2']
            rfl
          rw [e] at hK
          apply hV; apply hV
          refine ⟨rfl, ?_⟩
          apply hV; apply hV
          refine ⟨rfl, ?_⟩
          apply hV
          refine ⟨show vp_in (X 21 2) 64 from cs_adr_in h2', ?_⟩
          apply hV; apply hV; apply hV; apply hV
          refine ⟨fun h3 => ?_, fun h3 => ?_⟩
          · have h3' : X 22 (X 21 2).toNatClampNeg &&& 15 = 15 := h3
            simp only [h3', decide_true] at hK
            apply hV; apply hV
            exact hK
          · have h3' : ¬ X 22 (X 21 2).toNatClampNeg &&& 15 = 15 := h3
            simp only [h3', decide_false] at hK
            exact next hK
      · rw [if_neg h1] at hK
        apply hV; apply hV
        exact hK
    apply hV; apply hV; apply hV
    refine ⟨fun h => absurd h (nI_ge (by omega) (by omega)), fun h => ?_⟩
    apply hV; apply hV; apply hV
    refine ⟨fun h1 => ?_, fun h1 => ?_⟩
    · apply hV; apply hV
      have e0 : i = 0 := (nI_eq (by omega) (by omega)).1 (show nI i = nI 0 from h1)
      subst e0
      exact at17
    · apply hV
      cases i with
      | zero => exact absurd rfl h1
      | succ i => exact at17
def T_msteps : am_T := fun as I P J n K => match as with
  | [.inr (.inr (some o)), .inl v] => o = 21 ∧ (∃ q, P = am_p0 q) ∧ ∃ m c, m ≤ 4 ∧ I 21 4 = nI m ∧ c ≤ 200 ∧ v = nI c ∧ K (.inl (some (.inl (mo_sts m c 1 I).1))) (mo_sts m c 1 I).2 P J n
  | _ => False
theorem ok_msteps (sc : am_S) (C : Nat → am_T) (h16 : am_has C 16 (T_adr cs_adr)) (h22 : am_has C 22 T_mstep) : am_ok sc C tb_Mo_steps T_msteps := by
  intro as I P J n K hT V hD hV
  unfold T_msteps at hT
  split at hT
  · rename_i o v
    obtain ⟨rfl, ⟨q, rfl⟩, m, c, hm, em, hc, rfl, hK⟩ := hT
    show V 0 [(0, .inr (.inr (some 21))), (1, .inl (nI c))] [] I (am_p0 q) J n
    apply hV; apply hV
    exact ok_msteps_loop h16 h22 hD hV hm hc c 0 I (by omega) em hK
  · exact hT.elim
/-- status s and, where it is 0, value y -/
def mo_an (X : am_I) (s y : Int32) : am_I := am_ui (am_ui X 21 8 s) 21 9 (if s = 0 then y else 0)
def mo_may (a : Int32) (m : Nat) (I : am_I) : Bool := cs_adr a && (mo_bk (I 24) a 0 m).isNone && !decide (I 21 4 = 4)
def T_mputBreak : am_T := fun as I P J n K => match as with
  | [.inr (.inr (some o)), .inl a] => o = 21 ∧ (∃ q, P = am_p0 q) ∧ ∃ m, m ≤ 4 ∧ I 21 4 = nI m ∧ (mo_may a m I = true → K (.inl none) (mo_an (am_ui (am_ui (am_ui (am_ui I 24 m a) 25 m (I 22 a.toNatClampNeg)) 22 a.toNatClampNeg 15) 21 4 (I 21 4 + 1)) 0 0) P J n) ∧ (mo_may a m I = false → K (.inl none) (mo_an I 1 0) P J n)
  | _ => False
theorem mo_ob_ge {x : Option Nat} (hx : ∀ k, x = some k → k < 2 ^ 31) : (0 ≤ mo_ob x ↔ x.isNone = false) ∧ (mo_ob x < 0 ↔ x.isNone = true) := by
  cases x with
  | none => exact ⟨by decide, by decide⟩
  | some k => exact ⟨⟨fun _ => rfl, fun _ => nI_pos' (hx k rfl)⟩, ⟨fun h => absurd h (nI_pos (hx k rfl)), fun h => by cases h⟩⟩
theorem mo_bk_lt {f : Nat → Int32} {a : Int32} {m : Nat} (hm : m ≤ 4) : ∀ k, mo_bk f a 0 m = some k → k < 2 ^ 31 := fun k h => by
  have := (mo_bk_some h).1
  omega
theorem ok_mputBreak (sc : am_S) (C : Nat → am_T) (h16 : am_has C 16 (T_adr cs_adr)) (h18 : am_has C 18 T_mbreakOf) (h24 : am_has C 24 T_manswer) : am_ok sc C tb_Mo_putBreak T_mputBreak := by
  intro as I P J n K hT V hD hV
  unfold T_mputBreak at hT
  split at hT
  · rename_i o a
    obtain ⟨rfl, ⟨q, rfl⟩, m, hm, em, hK1, hK2⟩ := hT
    show V 0 [(0, .inr (.inr (some 21))), (1, .inl a)] [] I (am_p0 q) J n
    have no : mo_may a m I = false → V 23 [(0, .inr (.inr (some 21))), (1, .inl a)] [] I (am_p0 q) J n := by
      intro h
      apply hV; apply hV; apply hV; apply hV
      refine ⟨rfl, ?_⟩
      refine h24 _ _ _ _ _ _ ⟨rfl, ?_⟩
      apply hV
      exact hK2 h
    apply hV; apply hV
    refine h16 _ _ _ _ _ _ ?_
    apply hV
    refine ⟨fun h => no (by simp [mo_may, cs_b0 h]), fun h => ?_⟩
    have ha := cs_b1 h
    apply hV; apply hV; apply hV
    refine ⟨rfl, ?_⟩
    refine h18 _ _ _ _ _ _ ⟨rfl, ⟨_, rfl⟩, m, hm, em, ?_⟩
    have hge := mo_ob_ge (mo_bk_lt (f := I 24) (a := a) hm)
    apply hV
    refine ⟨fun h1 => no (by simp [mo_may, hge.1.1 h1]), fun h1 => ?_⟩
    have h1' : (mo_bk (I 24) a 0 m).isNone = true := by
      cases e : (mo_bk (I 24) a 0 m).isNone with
      | true => rfl
      | false => exact absurd (hge.1.2 e) h1
    apply hV; apply hV
    refine ⟨rfl, ?_⟩
    apply hV; apply hV
    refine ⟨fun h2 => ?_, fun h2 => ?_⟩
    · have h2' : I 21 4 = 4 := h2
      exact no (by simp [mo_may, h2'])
    have h2' : ¬ I 21 4 = 4 := h2
    have hK := hK1 (by simp [mo_may, ha, h1', h2'])
    have hm4 : m < 4 := by
      apply Nat.lt_of_le_of_ne hm
      intro e
      rw [e] at em
      exact h2' em
    have e2 : (I 21 4).toNatClampNeg = m := by rw [em]; exact nI_clamp (by omega)
    have i4 : vp_in (I 21 4) 4 := by rw [em]; exact nI_in hm4 (by omega)
    apply hV; apply hV
    refine ⟨rfl, ?_⟩
    apply hV; apply hV
    refine ⟨rfl, ?_⟩
    apply hV; apply hV
    refine ⟨i4, ?_⟩
    rw [e2]
    apply hV; apply hV
    refine ⟨rfl, ?_⟩
    apply hV; apply hV
    refine ⟨rfl, ?_⟩
    apply hV; apply hV
    refine ⟨rfl, ?_⟩
    apply hV; apply hV
    refine ⟨show vp_in a 64 from cs_adr_in ha, ?_⟩
    apply hV
    refine ⟨i4, ?_⟩
    have e3 : (am_ui I 24 m a 21 4).toNatClampNeg = m := e2
    rw [e3]
    apply hV; apply hV
    refine ⟨rfl, ?_⟩
    apply hV; apply hV; apply hV
    refine ⟨show vp_in a 64 from cs_adr_in ha, ?_⟩
    apply hV; apply hV; apply hV
    refine ⟨rfl, ?_⟩
    apply hV; apply hV; apply hV
    refine ⟨rfl, ?_⟩
    apply hV; apply hV; apply hV; apply hV
    refine ⟨rfl, ?_⟩
    refine h24 _ _ _ _ _ _ ⟨rfl, ?_⟩
    apply hV
    exact hK
  · exact hT.elim
/-- the places from k on, as far as e, get what stands one place further -/
def mo_sh (k e : Nat) (f : Nat → Int32) : Nat → Int32 := fun j => if k ≤ j ∧ j < e then f (j + 1) else f j
theorem mo_sh_0 (k : Nat) (f : Nat → Int32) : mo_sh k k f = f := by
  funext j
  unfold mo_sh
  rw [if_neg (by omega)]
theorem mo_sh_s {k e : Nat} (h : k ≤ e) (f : Nat → Int32) : upd (mo_sh k e f) e (mo_sh k e f (e + 1)) = mo_sh k (e + 1) f := by
  funext j
  rw [pb_upd]
  unfold mo_sh
  by_cases hj : j = e
  · subst hj
    rw [if_pos rfl, if_neg (by omega), if_pos (by omega)]
  · rw [if_neg hj]
    by_cases h2 : k ≤ j ∧ j < e
    · rw [if_pos h2, if_pos (by omega)]
    · rw [if_neg h2, if_neg (by omega)]
def T_mtakeBreak : am_T := fun as I P J n K => match as with
  | [.inr (.inr (some o)), .inl a] => o = 21 ∧ (∃ q, P = am_p0 q) ∧ ∃ m, m ≤ 4 ∧ I 21 4 = nI m ∧ (mo_bk (I 24) a 0 m = none → K (.inl none) (mo_an I 1 0) P J n) ∧ ∀ k, mo_bk (I 24) a 0 m = some k → vp_in a 64 ∧
      ∀ X : am_I, X 24 = mo_sh k (m - 1) (I 24) → X 25 = mo_sh k (m - 1) (I 25) → X 22 = upd (I 22) a.toNatClampNeg (I 25 k) → X 21 = upd (I 21) 4 (nI (m - 1)) → (∀ j, ¬ (j = 21 ∨ j = 22 ∨ j = 24 ∨ j = 25) → X j = I j) → K (.inl none) (mo_an X 0 0) P J n
  | _ => False
theorem ok_mtakeBreak (sc : am_S) (C : Nat → am_T) (h18 : am_has C 18 T_mbreakOf) (h24 : am_has C 24 T_manswer) : am_ok sc C tb_Mo_takeBreak T_mtakeBreak := by
  intro as I P J n K hT V hD hV
  unfold T_mtakeBreak at hT
  split at hT
  · rename_i o a
    obtain ⟨rfl, ⟨q, rfl⟩, m, hm, em, hK1, hK2⟩ := hT
    show V 0 [(0, .inr (.inr (some 21))), (1, .inl a)] [] I (am_p0 q) J n
    apply hV; apply hV; apply hV
    refine ⟨rfl, ?_⟩
    refine h18 _ _ _ _ _ _ ⟨rfl, ⟨_, rfl⟩, m, hm, em, ?_⟩
    cases eb : mo_bk (I 24) a 0 m with
    | none =>
      apply hV; apply hV; apply hV
      refine ⟨fun h => absurd h (by decide), fun h => ?_⟩
      apply hV; apply hV; apply hV; apply hV
      refine ⟨rfl, ?_⟩
      refine h24 _ _ _ _ _ _ ⟨rfl, ?_⟩
      apply hV
      exact hK1 eb
    | some k =>
      obtain ⟨hk, -⟩ := mo_bk_some eb
      obtain ⟨ha, hK⟩ := hK2 k eb
      clear hK1 hK2
      obtain ⟨e, rfl⟩ : ∃ e, m = e + 1 := ⟨m - 1, by omega⟩
      have e2 : (nI k).toNatClampNeg = k := nI_clamp (by omega)
      show V 5 [(0, .inr (.inr (some 21))), (1, .inl a)] [.inl (nI k)] I (am_p0 q) J n
      have loop : ∀ (d j : Nat) (X : am_I), j + d = e → k ≤ j → X 24 = mo_sh k j (I 24) → X 25 = mo_sh k j (I 25) → X 22 = upd (I 22) a.toNatClampNeg (I 25 k) → X 21 = upd (I 21) 4 (nI e) → (∀ i, ¬ (i = 21 ∨ i = 22 ∨ i = 24 ∨ i = 25) → X i = I i) →
          V 41 [(0, .inr (.inr (some 21))), (1, .inl a), (2, .inl (nI k)), (3, .inl (nI j))] [] X (am_p0 q) J n := by
        intro d
        induction d with
        | zero =>
          intro j X hj hkj x24 x25 x22 x21 xo
          have xe : X 21 4 = nI e := by rw [x21]; rfl
          have hj' : j = e := by omega
          subst hj'
          apply hV; apply hV; apply hV
          refine ⟨rfl, ?_⟩
          rw [xe]
          apply hV
          refine ⟨fun h => ?_, fun h => absurd (nI_le (by omega) (by omega)) h⟩
          apply hV; apply hV; apply hV; apply hV
          refine ⟨rfl, ?_⟩
          refine h24 _ _ _ _ _ _ ⟨rfl, ?_⟩
          apply hV
          exact hK X x24 x25 x22 x21 xo
        | succ d ih =>
          intro j X hj hkj x24 x25 x22 x21 xo
          have xe : X 21 4 = nI e := by rw [x21]; rfl
          have ej : (nI j).toNatClampNeg = j := nI_clamp (by omega)
          have ej1 : (nI j + 1).toNatClampNeg = j + 1 := by rw [nI_1]; exact nI_clamp (by omega)
          have ij : vp_in (nI j) 4 := nI_in (by omega) (by omega)
          have ij1 : vp_in (nI j + 1) 4 := by rw [nI_1]; exact nI_in (by omega) (by omega)
          apply hV; apply hV; apply hV
          refine ⟨rfl, ?_⟩
          rw [xe]
          apply hV
          refine ⟨fun h => absurd h (nI_ge (by omega) (by omega)), fun h => ?_⟩
          apply hV; apply hV
          refine ⟨rfl, ?_⟩
          apply hV; apply hV; apply hV
          refine ⟨rfl, ?_⟩
          apply hV; apply hV; apply hV; apply hV
          refine ⟨ij1, ?_⟩
          rw [ej1]
          apply hV
          refine ⟨ij, ?_⟩
          rw [ej]
          apply hV; apply hV
          refine ⟨rfl, ?_⟩
          apply hV; apply hV; apply hV
          refine ⟨rfl, ?_⟩
          apply hV; apply hV; apply hV; apply hV
          refine ⟨ij1, ?_⟩
          rw [ej1]
          apply hV
          refine ⟨ij, ?_⟩
          rw [ej]
          apply hV; apply hV
          show V 41 [(0, .inr (.inr (some 21))), (1, .inl a), (2, .inl (nI k)), (3, .inl (nI j + 1))] [] (am_ui (am_ui X 24 j (X 24 (j + 1))) 25 j (X 25 (j + 1))) (am_p0 q) J n
          rw [← nI_succ]
          refine ih (j + 1) _ (by omega) (by omega) ?_ ?_ x22 x21 (fun i hi => ?_)
          · show upd (X 24) j (X 24 (j + 1)) = _
            rw [x24]
            exact mo_sh_s hkj _
          · show upd (X 25) j (X 25 (j + 1)) = _
            rw [x25]
            exact mo_sh_s hkj _
          · rw [am_ui_ne _ _ _ (by omega), am_ui_ne _ _ _ (by omega)]
            exact xo i hi
      apply hV; apply hV; apply hV
      refine ⟨fun h => ?_, fun h => absurd (nI_pos' (by omega)) h⟩
      apply hV; apply hV
      refine ⟨rfl, ?_⟩
      apply hV; apply hV; apply hV
      refine ⟨rfl, ?_⟩
      apply hV; apply hV
      refine ⟨show vp_in (nI k) 4 from nI_in (by omega) (by omega), ?_⟩
      rw [e2]
      apply hV
      refine ⟨ha, ?_⟩
      apply hV; apply hV; apply hV
      refine ⟨rfl, ?_⟩
      apply hV; apply hV; apply hV
      refine ⟨rfl, ?_⟩
      apply hV; apply hV
      have e5 : (am_ui I 22 a.toNatClampNeg (I 25 k) 21 4) - 1 = nI e := by
        show I 21 4 - 1 = nI e
        rw [em]
        exact nI_pred e
      refine loop (e - k) k _ (by omega) (Nat.le_refl k) ?_ ?_ ?_ ?_ (fun i hi => ?_)
      · exact (mo_sh_0 k _).symm
      · exact (mo_sh_0 k _).symm
      · rfl
      · show upd (I 21) 4 _ = _
        rw [e5]
      · rw [am_ui_ne _ _ _ (by omega), am_ui_ne _ _ _ (by omega)]
  · exact hT.elim
def mo_wd (a v u : Int32) (m : Nat) (I : am_I) : am_I := match mo_bk (I 24) a 0 m with
  | some k => if u = 0 then mo_an I 0 (I 25 k) else mo_an (am_ui I 25 k v) 0 0
  | none => if u = 0 then mo_an I 0 (I 22 a.toNatClampNeg) else mo_an (am_ui I 22 a.toNatClampNeg v) 0 0
def T_mword : am_T := fun as I P J n K => match as with
  | [.inr (.inr (some o)), .inl a, .inl v, .inl u] => o = 21 ∧ (∃ q, P = am_p0 q) ∧ ∃ m, m ≤ 4 ∧ I 21 4 = nI m ∧ (cs_adr a = true → K (.inl none) (mo_wd a v u m I) P J n) ∧ (cs_adr a = false → K (.inl none) (mo_an I 1 0) P J n)
  | _ => False
theorem ok_mword (sc : am_S) (C : Nat → am_T) (h16 : am_has C 16 (T_adr cs_adr)) (h18 : am_has C 18 T_mbreakOf) (h24 : am_has C 24 T_manswer) : am_ok sc C tb_Mo_word T_mword := by
  intro as I P J n K hT V hD hV
  unfold T_mword at hT
  split at hT
  · rename_i o a v u
    obtain ⟨rfl, ⟨q, rfl⟩, m, hm, em, hK1, hK2⟩ := hT
    show V 0 [(0, .inr (.inr (some 21))), (1, .inl a), (2, .inl v), (3, .inl u)] [] I (am_p0 q) J n
    apply hV; apply hV
    refine h16 _ _ _ _ _ _ ?_
    apply hV
    refine ⟨fun h => ?_, fun h => ?_⟩
    · apply hV; apply hV; apply hV; apply hV
      refine ⟨rfl, ?_⟩
      refine h24 _ _ _ _ _ _ ⟨rfl, ?_⟩
      apply hV
      exact hK2 (cs_b0 h)
    have ha := cs_b1 h
    have hK := hK1 ha
    unfold mo_wd at hK
    apply hV; apply hV; apply hV
    refine ⟨rfl, ?_⟩
    refine h18 _ _ _ _ _ _ ⟨rfl, ⟨_, rfl⟩, m, hm, em, ?_⟩
    have ia : vp_in a 64 := cs_adr_in ha
    cases eb : mo_bk (I 24) a 0 m with
    | none =>
      have ng : ¬ ((0 : Int32) ≤ mo_ob none) := by decide
      have nl : (mo_ob none : Int32) < 0 := by decide
      simp only [eb] at hK
      repeat' first
        | apply hV
        | (change (_ → V _ _ _ _ _ _ _) ∧ _; refine ⟨fun h => ?_, fun h => ?_⟩)
        | exact absurd nl (by with_reducible assumption)
        | (change am_kd _ = (5, _) ∧ _; refine ⟨rfl, ?_⟩)
        | (change vp_in _ 64 ∧ _; refine ⟨ia, ?_⟩)
        | refine h24 _ _ _ _ _ _ ⟨rfl, ?_⟩
        | fail
      all_goals try change K _ _ _ _ _
      all_goals first
        | (rw [if_pos (by with_reducible assumption)] at hK; exact hK)
        | (rw [if_neg (by with_reducible assumption)] at hK; exact hK)
        | (exfalso; simp_all; done)
    | some k =>
      obtain ⟨hk, -⟩ := mo_bk_some eb
      have e2 : (mo_ob (some k)).toNatClampNeg = k := nI_clamp (by omega)
      have ik : vp_in (mo_ob (some k)) 4 := nI_in (by omega) (by omega)
      have nl : ¬ (mo_ob (some k) : Int32) < 0 := nI_pos (by omega)
      simp only [eb] at hK
      rw [← e2] at hK
      generalize mo_ob (some k) = z at e2 ik nl hK ⊢
      clear e2
      repeat' first
        | apply hV
        | (change (_ → V _ _ _ _ _ _ _) ∧ _; refine ⟨fun h => ?_, fun h => ?_⟩)
        | exact absurd (by with_reducible assumption) nl
        | (change am_kd _ = (5, _) ∧ _; refine ⟨rfl, ?_⟩)
        | (change vp_in _ 4 ∧ _; refine ⟨ik, ?_⟩)
        | refine h24 _ _ _ _ _ _ ⟨rfl, ?_⟩
        | fail
      all_goals try change K _ _ _ _ _
      all_goals first
        | (rw [if_pos (by with_reducible assumption)] at hK; exact hK)
        | (rw [if_neg (by with_reducible assumption)] at hK; exact hK)
        | (exfalso; simp_all; done)
  · exact hT.elim
