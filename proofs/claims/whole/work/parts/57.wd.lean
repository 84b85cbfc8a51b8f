/-! The tables' words: each holds wherever the tables are only warmer. -/
def wd_str : Cond → Bool
  | .stringRef .. => true
  | _ => false
def wd_ok (w : Cond) : Bool := goodWord w || Jvm.Free.Fmt.ridesM w || wd_str w
theorem wd_ride {w : Cond} (h : wd_ok w = true) {a a' : Array Value} {s U : State} (hW : s.WarmedH U.vm) (hb : w.before a s = true) : w.before a' U = true := by
  simp only [wd_ok, Bool.or_eq_true] at h
  rcases h with (h | h) | h
  · exact word_at hW (good_of_word h) hb
  · exact Jvm.Free.Fmt.rides_of_M w h hW hb
  · unfold wd_str at h
    split at h
    · exact Cond.stringRef_warmed hW hb
    · cases h
/-- the words that every method is given -/
def wd_T : List Cond := lw_tbl.filter wd_ok
theorem wd_mem {w : Cond} (h : w ∈ lw_tbl) (h2 : wd_ok w = true) : w ∈ wd_T := List.mem_filter.mpr ⟨h, h2⟩
theorem wd_all (L : List Cond) (h : L.all (fun w => decide (w ∈ lw_tbl) && wd_ok w) = true) : ∀ w ∈ L, w ∈ wd_T := fun w hw => by
  have h1 := List.all_eq_true.mp h w hw
  simp only [Bool.and_eq_true, decide_eq_true_eq] at h1
  exact wd_mem h1.1 h1.2
theorem wd_pay {a : Array Value} {s : State} (hts : ∀ w ∈ wd_T, w.before a s = true) : ∀ w ∈ wd_T, ∀ (a' : Array Value) (U : State), s.WarmedH U.vm → w.before a' U = true :=
  fun w hw a' U hW => wd_ride (List.mem_filter.mp hw).2 hW (hts w hw)
theorem wd_hu : ∀ b, b < 9 → ∀ w ∈ u_ws (am_C b) (am_F b) (am_N b), w ∈ wd_T := fun b hb w hw => wd_mem (am_hu b hb w hw) (by
  have : ∀ b, b < 9 → ∀ w ∈ u_ws (am_C b) (am_F b) (am_N b), wd_ok w = true := by decide +kernel
  exact this b hb w hw)
