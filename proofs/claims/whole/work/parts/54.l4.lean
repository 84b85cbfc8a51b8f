/-! All contracts by number; the law's loop. -/
def am_CT (j : Nat) : am_T := match Nat.ble j 49 with
  | true => match Nat.ble j 24 with
    | true => match Nat.ble j 12 with
      | true => match Nat.ble j 6 with
        | true => match Nat.ble j 3 with
          | true => match Nat.ble j 1 with
            | true => match Nat.ble j 0 with
              | true => T_load
              | false => T_fault
            | false => match Nat.ble j 2 with
              | true => T_request
              | false => T_byteAt
          | false => match Nat.ble j 5 with
            | true => match Nat.ble j 4 with
              | true => T_rule
              | false => T_save
            | false => T_unwind
        | false => match Nat.ble j 9 with
          | true => match Nat.ble j 8 with
            | true => match Nat.ble j 7 with
              | true => T_frame
              | false => T_operation
            | false => T_drop
          | false => match Nat.ble j 11 with
            | true => match Nat.ble j 10 with
              | true => T_evaluate
              | false => T_count
            | false => T_adr cs_adr
      | false => match Nat.ble j 18 with
        | true => match Nat.ble j 15 with
          | true => match Nat.ble j 14 with
            | true => match Nat.ble j 13 with
              | true => T_adr cs_reg
              | false => T_adr cs_slo
            | false => T_mthrown
          | false => match Nat.ble j 17 with
            | true => match Nat.ble j 16 with
              | true => T_adr cs_adr
              | false => T_mload
            | false => T_mbreakOf
        | false => match Nat.ble j 21 with
          | true => match Nat.ble j 20 with
            | true => match Nat.ble j 19 with
              | true => T_mdone
              | false => T_mset
            | false => T_mmoved
          | false => match Nat.ble j 23 with
            | true => match Nat.ble j 22 with
              | true => T_mstep
              | false => T_msteps
            | false => T_manswer
    | false => match Nat.ble j 37 with
      | true => match Nat.ble j 31 with
        | true => match Nat.ble j 28 with
          | true => match Nat.ble j 26 with
            | true => match Nat.ble j 25 with
              | true => T_mputBreak
              | false => T_mtakeBreak
            | false => match Nat.ble j 27 with
              | true => T_mword
              | false => T_mperform
          | false => match Nat.ble j 30 with
            | true => match Nat.ble j 29 with
              | true => T_mput
              | false => T_msum
            | false => T_mread
        | false => match Nat.ble j 34 with
          | true => match Nat.ble j 33 with
            | true => match Nat.ble j 32 with
              | true => T_marrives
              | false => T_msend
            | false => T_manswered
          | false => match Nat.ble j 36 with
            | true => match Nat.ble j 35 with
              | true => T_mask
              | false => T_mfault
            | false => T_mrequest
      | false => match Nat.ble j 43 with
        | true => match Nat.ble j 40 with
          | true => match Nat.ble j 39 with
            | true => match Nat.ble j 38 with
              | true => T_mbyteAt
              | false => T_mrule
            | false => T_msave
          | false => match Nat.ble j 42 with
            | true => match Nat.ble j 41 with
              | true => T_mruleOf
              | false => T_mfetch
            | false => T_mnext
        | false => match Nat.ble j 46 with
          | true => match Nat.ble j 45 with
            | true => match Nat.ble j 44 with
              | true => T_munwind
              | false => T_mframe
            | false => T_moperation
          | false => match Nat.ble j 48 with
            | true => match Nat.ble j 47 with
              | true => T_mdrop
              | false => T_mpush
            | false => T_mjoin
  | false => match Nat.ble j 74 with
    | true => match Nat.ble j 62 with
      | true => match Nat.ble j 56 with
        | true => match Nat.ble j 53 with
          | true => match Nat.ble j 51 with
            | true => match Nat.ble j 50 with
              | true => T_mwordOnTop
              | false => T_moperate
            | false => match Nat.ble j 52 with
              | true => T_mevaluate
              | false => T_mcount
          | false => match Nat.ble j 55 with
            | true => match Nat.ble j 54 with
              | true => T_hasFrame
              | false => T_askMachine
            | false => T_askCaller
        | false => match Nat.ble j 59 with
          | true => match Nat.ble j 58 with
            | true => match Nat.ble j 57 with
              | true => T_keep
              | false => T_word
            | false => T_putWord
          | false => match Nat.ble j 61 with
            | true => match Nat.ble j 60 with
              | true => T_sum
              | false => T_putSum
            | false => T_append
      | false => match Nat.ble j 68 with
        | true => match Nat.ble j 65 with
          | true => match Nat.ble j 64 with
            | true => match Nat.ble j 63 with
              | true => T_top
              | false => T_apply
            | false => T_need
          | false => match Nat.ble j 67 with
            | true => match Nat.ble j 66 with
              | true => T_push
              | false => T_change
            | false => T_combine
        | false => match Nat.ble j 71 with
          | true => match Nat.ble j 70 with
            | true => match Nat.ble j 69 with
              | true => T_tellFault
              | false => T_ask
            | false => T_writeRequest
          | false => match Nat.ble j 73 with
            | true => match Nat.ble j 72 with
              | true => T_carry
              | false => T_takeFault
            | false => T_adr cs_brk
    | false => match Nat.ble j 86 with
      | true => match Nat.ble j 80 with
        | true => match Nat.ble j 77 with
          | true => match Nat.ble j 76 with
            | true => match Nat.ble j 75 with
              | true => T_atPc
              | false => T_execute
            | false => T_calc
          | false => match Nat.ble j 79 with
            | true => match Nat.ble j 78 with
              | true => T_rtAppend
              | false => T_firstFor
            | false => T_receive
        | false => match Nat.ble j 83 with
          | true => match Nat.ble j 82 with
            | true => match Nat.ble j 81 with
              | true => T_perform
              | false => T_refuse
            | false => T_has
          | false => match Nat.ble j 85 with
            | true => match Nat.ble j 84 with
              | true => T_writeRegister
              | false => T_readWord
            | false => T_writeWord
      | false => match Nat.ble j 92 with
        | true => match Nat.ble j 89 with
          | true => match Nat.ble j 88 with
            | true => match Nat.ble j 87 with
              | true => T_putBreakpoint
              | false => T_takeBreakpoint
            | false => T_first
          | false => match Nat.ble j 91 with
            | true => match Nat.ble j 90 with
              | true => T_run
              | false => T_La_fault
            | false => T_La_request
        | false => match Nat.ble j 95 with
          | true => match Nat.ble j 94 with
            | true => match Nat.ble j 93 with
              | true => T_La_rule
              | false => T_La_save
            | false => T_La_unwind
          | false => match Nat.ble j 97 with
            | true => match Nat.ble j 96 with
              | true => T_La_frame
              | false => T_La_operation
            | false => T_La_evaluate
theorem ct_0 : am_has am_CT 0 (T_load) := fun _ _ _ _ _ _ h => h
theorem ct_1 : am_has am_CT 1 (T_fault) := fun _ _ _ _ _ _ h => h
theorem ct_2 : am_has am_CT 2 (T_request) := fun _ _ _ _ _ _ h => h
theorem ct_3 : am_has am_CT 3 (T_byteAt) := fun _ _ _ _ _ _ h => h
theorem ct_4 : am_has am_CT 4 (T_rule) := fun _ _ _ _ _ _ h => h
theorem ct_5 : am_has am_CT 5 (T_save) := fun _ _ _ _ _ _ h => h
theorem ct_6 : am_has am_CT 6 (T_unwind) := fun _ _ _ _ _ _ h => h
theorem ct_7 : am_has am_CT 7 (T_frame) := fun _ _ _ _ _ _ h => h
theorem ct_8 : am_has am_CT 8 (T_operation) := fun _ _ _ _ _ _ h => h
theorem ct_9 : am_has am_CT 9 (T_drop) := fun _ _ _ _ _ _ h => h
theorem ct_10 : am_has am_CT 10 (T_evaluate) := fun _ _ _ _ _ _ h => h
theorem ct_11 : am_has am_CT 11 (T_count) := fun _ _ _ _ _ _ h => h
theorem ct_12 : am_has am_CT 12 (T_adr cs_adr) := fun _ _ _ _ _ _ h => h
theorem ct_13 : am_has am_CT 13 (T_adr cs_reg) := fun _ _ _ _ _ _ h => h
theorem ct_14 : am_has am_CT 14 (T_adr cs_slo) := fun _ _ _ _ _ _ h => h
theorem ct_15 : am_has am_CT 15 (T_mthrown) := fun _ _ _ _ _ _ h => h
theorem ct_16 : am_has am_CT 16 (T_adr cs_adr) := fun _ _ _ _ _ _ h => h
theorem ct_17 : am_has am_CT 17 (T_mload) := fun _ _ _ _ _ _ h => h
theorem ct_18 : am_has am_CT 18 (T_mbreakOf) := fun _ _ _ _ _ _ h => h
theorem ct_19 : am_has am_CT 19 (T_mdone) := fun _ _ _ _ _ _ h => h
theorem ct_20 : am_has am_CT 20 (T_mset) := fun _ _ _ _ _ _ h => h
theorem ct_21 : am_has am_CT 21 (T_mmoved) := fun _ _ _ _ _ _ h => h
theorem ct_22 : am_has am_CT 22 (T_mstep) := fun _ _ _ _ _ _ h => h
theorem ct_23 : am_has am_CT 23 (T_msteps) := fun _ _ _ _ _ _ h => h
theorem ct_24 : am_has am_CT 24 (T_manswer) := fun _ _ _ _ _ _ h => h
theorem ct_25 : am_has am_CT 25 (T_mputBreak) := fun _ _ _ _ _ _ h => h
theorem ct_26 : am_has am_CT 26 (T_mtakeBreak) := fun _ _ _ _ _ _ h => h
theorem ct_27 : am_has am_CT 27 (T_mword) := fun _ _ _ _ _ _ h => h
theorem ct_28 : am_has am_CT 28 (T_mperform) := fun _ _ _ _ _ _ h => h
theorem ct_29 : am_has am_CT 29 (T_mput) := fun _ _ _ _ _ _ h => h
theorem ct_30 : am_has am_CT 30 (T_msum) := fun _ _ _ _ _ _ h => h
theorem ct_31 : am_has am_CT 31 (T_mread) := fun _ _ _ _ _ _ h => h
theorem ct_32 : am_has am_CT 32 (T_marrives) := fun _ _ _ _ _ _ h => h
theorem ct_33 : am_has am_CT 33 (T_msend) := fun _ _ _ _ _ _ h => h
theorem ct_34 : am_has am_CT 34 (T_manswered) := fun _ _ _ _ _ _ h => h
theorem ct_35 : am_has am_CT 35 (T_mask) := fun _ _ _ _ _ _ h => h
theorem ct_36 : am_has am_CT 36 (T_mfault) := fun _ _ _ _ _ _ h => h
theorem ct_37 : am_has am_CT 37 (T_mrequest) := fun _ _ _ _ _ _ h => h
theorem ct_38 : am_has am_CT 38 (T_mbyteAt) := fun _ _ _ _ _ _ h => h
theorem ct_39 : am_has am_CT 39 (T_mrule) := fun _ _ _ _ _ _ h => h
theorem ct_40 : am_has am_CT 40 (T_msave) := fun _ _ _ _ _ _ h => h
theorem ct_41 : am_has am_CT 41 (T_mruleOf) := fun _ _ _ _ _ _ h => h
theorem ct_42 : am_has am_CT 42 (T_mfetch) := fun _ _ _ _ _ _ h => h
theorem ct_43 : am_has am_CT 43 (T_mnext) := fun _ _ _ _ _ _ h => h
theorem ct_44 : am_has am_CT 44 (T_munwind) := fun _ _ _ _ _ _ h => h
theorem ct_45 : am_has am_CT 45 (T_mframe) := fun _ _ _ _ _ _ h => h
theorem ct_46 : am_has am_CT 46 (T_moperation) := fun _ _ _ _ _ _ h => h
theorem ct_47 : am_has am_CT 47 (T_mdrop) := fun _ _ _ _ _ _ h => h
theorem ct_48 : am_has am_CT 48 (T_mpush) := fun _ _ _ _ _ _ h => h
theorem ct_49 : am_has am_CT 49 (T_mjoin) := fun _ _ _ _ _ _ h => h
theorem ct_50 : am_has am_CT 50 (T_mwordOnTop) := fun _ _ _ _ _ _ h => h
theorem ct_51 : am_has am_CT 51 (T_moperate) := fun _ _ _ _ _ _ h => h
theorem ct_52 : am_has am_CT 52 (T_mevaluate) := fun _ _ _ _ _ _ h => h
theorem ct_53 : am_has am_CT 53 (T_mcount) := fun _ _ _ _ _ _ h => h
theorem ct_54 : am_has am_CT 54 (T_hasFrame) := fun _ _ _ _ _ _ h => h
theorem ct_55 : am_has am_CT 55 (T_askMachine) := fun _ _ _ _ _ _ h => h
theorem ct_56 : am_has am_CT 56 (T_askCaller) := fun _ _ _ _ _ _ h => h
theorem ct_57 : am_has am_CT 57 (T_keep) := fun _ _ _ _ _ _ h => h
theorem ct_58 : am_has am_CT 58 (T_word) := fun _ _ _ _ _ _ h => h
theorem ct_59 : am_has am_CT 59 (T_putWord) := fun _ _ _ _ _ _ h => h
theorem ct_60 : am_has am_CT 60 (T_sum) := fun _ _ _ _ _ _ h => h
theorem ct_61 : am_has am_CT 61 (T_putSum) := fun _ _ _ _ _ _ h => h
theorem ct_62 : am_has am_CT 62 (T_append) := fun _ _ _ _ _ _ h => h
theorem ct_63 : am_has am_CT 63 (T_top) := fun _ _ _ _ _ _ h => h
theorem ct_64 : am_has am_CT 64 (T_apply) := fun _ _ _ _ _ _ h => h
theorem ct_65 : am_has am_CT 65 (T_need) := fun _ _ _ _ _ _ h => h
theorem ct_66 : am_has am_CT 66 (T_push) := fun _ _ _ _ _ _ h => h
theorem ct_67 : am_has am_CT 67 (T_change) := fun _ _ _ _ _ _ h => h
theorem ct_68 : am_has am_CT 68 (T_combine) := fun _ _ _ _ _ _ h => h
theorem ct_69 : am_has am_CT 69 (T_tellFault) := fun _ _ _ _ _ _ h => h
theorem ct_70 : am_has am_CT 70 (T_ask) := fun _ _ _ _ _ _ h => h
theorem ct_71 : am_has am_CT 71 (T_writeRequest) := fun _ _ _ _ _ _ h => h
theorem ct_72 : am_has am_CT 72 (T_carry) := fun _ _ _ _ _ _ h => h
theorem ct_73 : am_has am_CT 73 (T_takeFault) := fun _ _ _ _ _ _ h => h
theorem ct_74 : am_has am_CT 74 (T_adr cs_brk) := fun _ _ _ _ _ _ h => h
theorem ct_75 : am_has am_CT 75 (T_atPc) := fun _ _ _ _ _ _ h => h
theorem ct_76 : am_has am_CT 76 (T_execute) := fun _ _ _ _ _ _ h => h
theorem ct_77 : am_has am_CT 77 (T_calc) := fun _ _ _ _ _ _ h => h
theorem ct_78 : am_has am_CT 78 (T_rtAppend) := fun _ _ _ _ _ _ h => h
theorem ct_79 : am_has am_CT 79 (T_firstFor) := fun _ _ _ _ _ _ h => h
theorem ct_80 : am_has am_CT 80 (T_receive) := fun _ _ _ _ _ _ h => h
theorem ct_81 : am_has am_CT 81 (T_perform) := fun _ _ _ _ _ _ h => h
theorem ct_82 : am_has am_CT 82 (T_refuse) := fun _ _ _ _ _ _ h => h
theorem ct_83 : am_has am_CT 83 (T_has) := fun _ _ _ _ _ _ h => h
theorem ct_84 : am_has am_CT 84 (T_writeRegister) := fun _ _ _ _ _ _ h => h
theorem ct_85 : am_has am_CT 85 (T_readWord) := fun _ _ _ _ _ _ h => h
theorem ct_86 : am_has am_CT 86 (T_writeWord) := fun _ _ _ _ _ _ h => h
theorem ct_87 : am_has am_CT 87 (T_putBreakpoint) := fun _ _ _ _ _ _ h => h
theorem ct_88 : am_has am_CT 88 (T_takeBreakpoint) := fun _ _ _ _ _ _ h => h
theorem ct_89 : am_has am_CT 89 (T_first) := fun _ _ _ _ _ _ h => h
theorem ct_90 : am_has am_CT 90 (T_run) := fun _ _ _ _ _ _ h => h
theorem ct_91 : am_has am_CT 91 (T_La_fault) := fun _ _ _ _ _ _ h => h
theorem ct_92 : am_has am_CT 92 (T_La_request) := fun _ _ _ _ _ _ h => h
theorem ct_93 : am_has am_CT 93 (T_La_rule) := fun _ _ _ _ _ _ h => h
theorem ct_94 : am_has am_CT 94 (T_La_save) := fun _ _ _ _ _ _ h => h
theorem ct_95 : am_has am_CT 95 (T_La_unwind) := fun _ _ _ _ _ _ h => h
theorem ct_96 : am_has am_CT 96 (T_La_frame) := fun _ _ _ _ _ _ h => h
theorem ct_97 : am_has am_CT 97 (T_La_operation) := fun _ _ _ _ _ _ h => h
theorem ct_98 : am_has am_CT 98 (T_La_evaluate) := fun _ _ _ _ _ _ h => h
theorem rt_same {t N q : Nat} {I : am_I} (hq : q < 2) (h : RT t N q I) : RT (t + 1) N q I := ⟨RK_t h.1 (by omega), h.2⟩
theorem law_loop {sc : am_S} {K : am_K} {V : am_W} (hD : am_drop V) (hV : am_closed sc am_CT tb_La_law V K) (hlen : sc.1 ≤ 2560) (hK : ∀ I P J n, K (.inl (some (.inl 1))) I P J n) :
    ∀ (d k N q n : Nat) (I : am_I) (J : am_J) (ls : am_L), k + d = 512 → N ≤ 100 * k → q < 2 → 512 ≤ n + k → RT k N q I → V 23 ((0, .inr (.inr (some 900))) :: (1, .inr (.inr (some 0))) :: (2, .inr (.inr (some 21))) :: (3, .inr (.inr (some 39))) :: (4, .inl (nI (5 * k))) :: ls) [] I (am_p0 q) J n := by
  have out : ∀ (k q n : Nat) (I : am_I) (J : am_J), V 718 [(0, .inr (.inr (some 900))), (1, .inr (.inr (some 0))), (2, .inr (.inr (some 21))), (3, .inr (.inr (some 39))), (4, .inl (nI (5 * k)))] [] I (am_p0 q) J n := by
    intro k q n I J
    apply hV; apply hV
    exact ⟨Or.inr rfl, hK _ _ _ _⟩
  intro d
  induction d with
  | zero =>
    intro k N q n I J ls hk hN hq hn hR
    apply hD 5
    show V 23 [(0, .inr (.inr (some 900))), (1, .inr (.inr (some 0))), (2, .inr (.inr (some 21))), (3, .inr (.inr (some 39))), (4, .inl (nI (5 * k)))] [] I (am_p0 q) J n
    apply hV; apply hV; apply hV
    refine ⟨rfl, ?_⟩
    apply hV; apply hV; apply hV
    refine ⟨fun _ => out k q n I J, fun h => absurd ?_ h⟩
    show nI sc.1 - nI 5 < nI (5 * k)
    rw [Int32.lt_iff_toInt_lt, pk_sub_toInt (by omega) (by omega), nI_toInt (by omega)]
    omega
  | succ d ih =>
    intro k N q n I J ls hk hN hq hn hR
    apply hD 5
    show V 23 [(0, .inr (.inr (some 900))), (1, .inr (.inr (some 0))), (2, .inr (.inr (some 21))), (3, .inr (.inr (some 39))), (4, .inl (nI (5 * k)))] [] I (am_p0 q) J n
    apply hV; apply hV; apply hV
    refine ⟨rfl, ?_⟩
    apply hV; apply hV; apply hV
    refine ⟨fun _ => out k q n I J, fun h => ?_⟩
    have hl : 5 * k + 5 ≤ sc.1 := by
      have h : ¬ nI sc.1 - nI 5 < nI (5 * k) := h
      rw [Int32.lt_iff_toInt_lt, pk_sub_toInt (by omega) (by omega), nI_toInt (by omega)] at h
      omega
    have hs : ∀ a, a ≤ 4 → vp_in (nI (5 * k) + nI a) sc.1 := fun a ha => by
      rw [nI_add]
      exact nI_in (by omega) (by omega)
    have next : law_nx V k N n := by
      intro I' q' J' N' n' ls' h1 h2 h3 h4
      apply hV; apply hV
      show V 23 ((0, .inr (.inr (some 900))) :: (1, .inr (.inr (some 0))) :: (2, .inr (.inr (some 21))) :: (3, .inr (.inr (some 39))) :: (4, .inl (nI (5 * k) + nI 5)) :: ls') [] I' (am_p0 q') J' n'
      rw [nI_add, show 5 * k + 5 = 5 * (k + 1) by omega]
      exact ih (k + 1) N' q' n' I' J' ls' (by omega) (by omega) h1 (by omega) h4
    have hk5 : k < 512 := by omega
    have hn1 : 1 ≤ n := by omega
    apply hV; apply hV; apply hV
    refine ⟨show vp_in (nI (5 * k)) sc.1 from nI_in (by omega) (by omega), ?_⟩
    apply hV; apply hV; apply hV
    refine ⟨fun _ => law_load ct_0 ct_17 hV hk5 hN hq hn1 hR hs next, fun _ => ?_⟩
    refine ⟨fun _ => law_fault ct_15 ct_91 ct_36 hV hk5 hN hq hn1 hR hs next, fun _ => ?_⟩
    refine ⟨fun _ => law_request ct_15 ct_92 ct_37 hV hk5 hN hq hn1 hR hs next, fun _ => ?_⟩
    refine ⟨fun _ => law_byteAt ct_3 ct_38 hV hk5 hN hq hn1 hR hs next, fun _ => ?_⟩
    refine ⟨fun _ => law_rule ct_15 ct_93 ct_39 hV hk5 hN hq hn1 hR hs next, fun _ => ?_⟩
    refine ⟨fun _ => law_save ct_15 ct_94 ct_40 hV hk5 hN hq hn1 hR hs next, fun _ => ?_⟩
    refine ⟨fun _ => law_unwind ct_15 ct_95 ct_44 hV hk5 hN hq hn1 hR hs next, fun _ => ?_⟩
    refine ⟨fun _ => law_frame ct_15 ct_96 ct_45 hV hk5 hN hq hn1 hR hs next, fun _ => ?_⟩
    refine ⟨fun _ => law_operation ct_15 ct_97 ct_46 hV hk5 hN hq hn1 hR hs next, fun _ => ?_⟩
    refine ⟨fun _ => law_drop ct_9 ct_47 hV hk5 hN hq hn1 hR hs next, fun _ => ?_⟩
    refine ⟨fun _ => law_evaluate ct_15 ct_98 ct_52 hV hk5 hN hq hn1 hR hs next, fun _ => ?_⟩
    refine ⟨fun _ => law_count ct_11 ct_53 hV hk5 hN hq hn1 hR hs next, fun _ => ?_⟩
    exact next I q J N n [] hq (by omega) (by omega) (rt_same hq hR)
/-- the memory at the law's beginning: 0 everywhere, but no slot in a rule -/
def am_I0 : am_I := fun k => if 48 ≤ k ∧ k < 56 then fun _ => -1 else fun _ => 0
theorem am_I0_0 {k : Nat} (h : ¬ (48 ≤ k ∧ k < 56)) (a : Nat) : am_I0 k a = 0 := by unfold am_I0; rw [if_neg h]
theorem am_I0_1 {j : Nat} (h : j < 8) (a : Nat) : am_I0 (48 + j) a = -1 := by unfold am_I0; rw [if_pos (by omega)]
theorem RT_0 : RT 0 0 0 am_I0 := by
  have z : ∀ k, ¬ (48 ≤ k ∧ k < 56) → ∀ a, am_I0 k a = 0 := fun k h a => am_I0_0 h a
  refine ⟨⟨0, 0, 0, ⟨⟨rfl, rfl, rfl, rfl⟩, ⟨by omega, rfl, rfl, fun k hk => absurd hk (by omega), fun a ha h => absurd (z 6 (by omega) a) h, fun k l hk => absurd hk (by omega)⟩, ⟨rfl, fun k hk => ?_, ⟨0, by omega, rfl⟩, Or.inl rfl⟩, ⟨by omega, rfl, rfl, 0, by omega, rfl, fun i hi => absurd hi (by omega)⟩, ⟨rfl, rfl, rfl, rfl⟩, fun k hk => rfl⟩, fun k hk => rfl, rfl, rfl, Or.inl ⟨rfl, rfl⟩, by omega⟩, ⟨0, by omega, rfl, rfl, fun j hj => absurd hj (by omega), fun j hj p hp => Or.inl (am_I0_1 hj p), fun j _ hj p hp => am_I0_1 hj p⟩, ⟨0, by omega, rfl, rfl, fun f hf => absurd hf (by omega)⟩, ⟨0, by omega, rfl, rfl, fun a ha => absurd ha (by omega)⟩⟩
  show am_I0 5 k = an 0 0 0 k
  have e : ∀ k, k < 7 → an 0 0 0 k = 0 := by decide +kernel
  rw [e k hk]
  rfl
