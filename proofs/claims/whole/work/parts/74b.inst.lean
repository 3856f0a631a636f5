/-! ===== the law's own methods, one by one ===== -/
section WMM
variable {l : Launch} {B : Nat} {D : va_G} {G : GG} {L : GL} {adK adV adM : Nat → Nat} {hp hp1 : HP} {f : Nat → Int64} {g : Nat → UInt64}
def wlk1 : List Jvm.Cond := [.methodLink RL 94 (nameOf 114), .methodLink RL 97 (nameOf 115), .methodLink RL 100 (nameOf 116), .methodLink RL 103 (nameOf 117), .methodLink RL 106 (nameOf 118), .methodLink RL 109 (nameOf 119), .methodLink RL 112 (nameOf 120), .methodLink RL 115 (nameOf 121), .methodLink RL 118 (nameOf 122), .methodLink RL 121 (nameOf 123), .methodLink RL 124 (nameOf 125), .methodLink RL 127 (nameOf 126), .methodLink RL 130 (nameOf 127), .methodLink RL 133 (nameOf 128), .methodLink RL 136 (nameOf 129), .methodLink RL 140 (nameOf 130), .methodLink RL 144 (nameOf 131), .methodLink RL 147 (nameOf 133), .methodLink RL 150 (nameOf 134), .methodLink RL 153 (nameOf 135), .methodLink RL 156 (nameOf 136), .methodLink RL 159 (nameOf 138), .methodLink RL 162 (nameOf 139)]
theorem wlk1_at {w : Jvm.Cond} (i : Nat) (h : wlk1[i]? = some w) : w ∈ lwG := by
  have key : (wlk1.all (fun w => decide (w ∈ lw_tbl) && goodWord w)) = true := by decide +kernel
  have h := List.all_eq_true.mp key w (List.mem_of_getElem? h)
  simp only [Bool.and_eq_true, decide_eq_true_eq] at h
  exact List.mem_filter.mpr h
theorem wm_freeIn (hfl : l.stackTraces = false) {a0 : Int32} {r : Int32 ⊕ Nat} {b : Int32} {t : Int32} (hc : Calls 9 114 (vR (9, 0, 0) :: [vI a0]) hp (rsT rsI r hp1)) (hag : agr [1, 3] r b t) : ∃ f1, WrM l B D G L adK adV adM yL_freeIn cL_freeIn 4 [(0, 9, 12, 20), (0, 9, 15, 13)] [.ref B, .int a0, .ref (B + 326)] hp f g t hp1 f1 g ∧ (t = 0 → f1 0 = b.toInt64) := by
  have hd1 : decode cL_freeIn 0 = .ok (.aload_n 2, 1) ∧ decode cL_freeIn 1 = .ok (.iconst 0, 1) ∧ decode cL_freeIn 2 = .ok (.aload_n 0, 1) ∧ decode cL_freeIn 3 = .ok (.iload_n 1, 1) ∧ decode cL_freeIn 4 = .ok (.invokevirtual 94, 3) := by decide +kernel
  rcases r with x | E
  · have hd2 : decode cL_freeIn 7 = .ok (.i2l, 1) ∧ decode cL_freeIn 8 = .ok (.lastore, 1) ∧ decode cL_freeIn 9 = .ok (.goto 9, 3) ∧ decode cL_freeIn 18 = .ok (.iconst 0, 1) ∧ decode cL_freeIn 19 = .ok (.ireturn, 1) := by decide +kernel
    obtain ⟨rfl, rfl⟩ := hag
    exact ⟨_, wr_1i (by decide) rfl hd1 hd2 (by decide) (by decide) rfl rfl rfl (wlk1_at 0 rfl) hc, fun _ => rfl⟩
  · obtain ⟨i, hi, rfl⟩ := hag
    rcases i with _ | _ | i
    · cases hi
      exact ⟨f, wx_1 (E := 1) (k := 1) (kv := nI 1) (by decide) rfl hd1 [] ⟨0, 9, 12, 20⟩ [⟨0, 9, 15, 13⟩] rfl (by decide) (by decide) (by decide) rfl (by decide) (by decide +kernel) hfl (by decide) rfl rfl rfl (wlk1_at 0 rfl) hc, fun h => absurd h (by decide)⟩
    · cases hi
      exact ⟨f, wx_1 (E := 3) (k := 2) (kv := nI 2) (by decide) rfl hd1 [⟨0, 9, 12, 20⟩] ⟨0, 9, 15, 13⟩ [] rfl (by decide) (by decide) (by decide) rfl (by decide) (by decide +kernel) hfl (by decide) rfl rfl rfl (wlk1_at 0 rfl) hc, fun h => absurd h (by decide)⟩
    · cases hi
theorem wm_paceOf (hfl : l.stackTraces = false) {a0 : Int32} {a1 : Int32} {r : Int32 ⊕ Nat} {b : Int32} {t : Int32} (hc : Calls 9 115 (vR (9, 0, 0) :: [vI a0, vI a1]) hp (rsT rsI r hp1)) (hag : agr [1, 3] r b t) : ∃ f1, WrM l B D G L adK adV adM yL_paceOf cL_paceOf 5 [(0, 10, 13, 20), (0, 10, 17, 13)] [.ref B, .int a0, .int a1, .ref (B + 326)] hp f g t hp1 f1 g ∧ (t = 0 → f1 0 = b.toInt64) := by
  have hd1 : decode cL_paceOf 0 = .ok (.aload_n 3, 1) ∧ decode cL_paceOf 1 = .ok (.iconst 0, 1) ∧ decode cL_paceOf 2 = .ok (.aload_n 0, 1) ∧ decode cL_paceOf 3 = .ok (.iload_n 1, 1) ∧ decode cL_paceOf 4 = .ok (.iload_n 2, 1) ∧ decode cL_paceOf 5 = .ok (.invokevirtual 97, 3) := by decide +kernel
  rcases r with x | E
  · have hd2 : decode cL_paceOf 8 = .ok (.i2l, 1) ∧ decode cL_paceOf 9 = .ok (.lastore, 1) ∧ decode cL_paceOf 10 = .ok (.goto 11, 3) ∧ decode cL_paceOf 21 = .ok (.iconst 0, 1) ∧ decode cL_paceOf 22 = .ok (.ireturn, 1) := by decide +kernel
    obtain ⟨rfl, rfl⟩ := hag
    exact ⟨_, wr_2i (by decide) rfl hd1 hd2 (by decide) (by decide) rfl rfl rfl (wlk1_at 1 rfl) hc, fun _ => rfl⟩
  · obtain ⟨i, hi, rfl⟩ := hag
    rcases i with _ | _ | i
    · cases hi
      exact ⟨f, wx_2 (E := 1) (k := 1) (kv := nI 1) (by decide) rfl hd1 [] ⟨0, 10, 13, 20⟩ [⟨0, 10, 17, 13⟩] rfl (by decide) (by decide) (by decide) rfl (by decide) (by decide +kernel) hfl (by decide) rfl rfl rfl (wlk1_at 1 rfl) hc, fun h => absurd h (by decide)⟩
    · cases hi
      exact ⟨f, wx_2 (E := 3) (k := 2) (kv := nI 2) (by decide) rfl hd1 [⟨0, 10, 13, 20⟩] ⟨0, 10, 17, 13⟩ [] rfl (by decide) (by decide) (by decide) rfl (by decide) (by decide +kernel) hfl (by decide) rfl rfl rfl (wlk1_at 1 rfl) hc, fun h => absurd h (by decide)⟩
    · cases hi
theorem wm_worstPair (hfl : l.stackTraces = false) {r : Int32 ⊕ Nat} {b : Int32} {t : Int32} (hc : Calls 9 116 (vR (9, 0, 0) :: []) hp (rsT rsI r hp1)) (hag : agr [1] r b t) : ∃ f1, WrM l B D G L adK adV adM yL_worstPair cL_worstPair 3 [(0, 8, 11, 20)] [.ref B, .ref (B + 326)] hp f g t hp1 f1 g ∧ (t = 0 → f1 0 = b.toInt64) := by
  have hd1 : decode cL_worstPair 0 = .ok (.aload_n 1, 1) ∧ decode cL_worstPair 1 = .ok (.iconst 0, 1) ∧ decode cL_worstPair 2 = .ok (.aload_n 0, 1) ∧ decode cL_worstPair 3 = .ok (.invokevirtual 100, 3) := by decide +kernel
  rcases r with x | E
  · have hd2 : decode cL_worstPair 6 = .ok (.i2l, 1) ∧ decode cL_worstPair 7 = .ok (.lastore, 1) ∧ decode cL_worstPair 8 = .ok (.goto 6, 3) ∧ decode cL_worstPair 14 = .ok (.iconst 0, 1) ∧ decode cL_worstPair 15 = .ok (.ireturn, 1) := by decide +kernel
    obtain ⟨rfl, rfl⟩ := hag
    exact ⟨_, wr_0i (by decide) rfl hd1 hd2 (by decide) (by decide) rfl rfl rfl (wlk1_at 2 rfl) hc, fun _ => rfl⟩
  · obtain ⟨i, hi, rfl⟩ := hag
    rcases i with _ | i
    · cases hi
      exact ⟨f, wx_0 (E := 1) (k := 1) (kv := nI 1) (by decide) rfl hd1 [] ⟨0, 8, 11, 20⟩ [] rfl (by decide) (by decide) (by decide) rfl (by decide) (by decide +kernel) hfl (by decide) rfl rfl rfl (wlk1_at 2 rfl) hc, fun h => absurd h (by decide)⟩
    · cases hi
theorem wm_wouldType (hfl : l.stackTraces = false) {a0 : Int32} {a1 : Int32} {r : Int32 ⊕ Nat} {b : Int32} {t : Int32} (hc : Calls 9 117 (vR (9, 0, 0) :: [vI a0, vI a1]) hp (rsT rsI r hp1)) (hag : agr [1, 3, 2] r b t) : ∃ f1, WrM l B D G L adK adV adM yL_wouldType cL_wouldType 5 [(0, 10, 13, 20), (0, 10, 17, 13), (0, 10, 21, 15)] [.ref B, .int a0, .int a1, .ref (B + 326)] hp f g t hp1 f1 g ∧ (t = 0 → f1 0 = b.toInt64) := by
  have hd1 : decode cL_wouldType 0 = .ok (.aload_n 3, 1) ∧ decode cL_wouldType 1 = .ok (.iconst 0, 1) ∧ decode cL_wouldType 2 = .ok (.aload_n 0, 1) ∧ decode cL_wouldType 3 = .ok (.iload_n 1, 1) ∧ decode cL_wouldType 4 = .ok (.iload_n 2, 1) ∧ decode cL_wouldType 5 = .ok (.invokevirtual 103, 3) := by decide +kernel
  rcases r with x | E
  · have hd2 : decode cL_wouldType 8 = .ok (.i2l, 1) ∧ decode cL_wouldType 9 = .ok (.lastore, 1) ∧ decode cL_wouldType 10 = .ok (.goto 15, 3) ∧ decode cL_wouldType 25 = .ok (.iconst 0, 1) ∧ decode cL_wouldType 26 = .ok (.ireturn, 1) := by decide +kernel
    obtain ⟨rfl, rfl⟩ := hag
    exact ⟨_, wr_2i (by decide) rfl hd1 hd2 (by decide) (by decide) rfl rfl rfl (wlk1_at 3 rfl) hc, fun _ => rfl⟩
  · obtain ⟨i, hi, rfl⟩ := hag
    rcases i with _ | _ | _ | i
    · cases hi
      exact ⟨f, wx_2 (E := 1) (k := 1) (kv := nI 1) (by decide) rfl hd1 [] ⟨0, 10, 13, 20⟩ [⟨0, 10, 17, 13⟩, ⟨0, 10, 21, 15⟩] rfl (by decide) (by decide) (by decide) rfl (by decide) (by decide +kernel) hfl (by decide) rfl rfl rfl (wlk1_at 3 rfl) hc, fun h => absurd h (by decide)⟩
    · cases hi
      exact ⟨f, wx_2 (E := 3) (k := 2) (kv := nI 2) (by decide) rfl hd1 [⟨0, 10, 13, 20⟩] ⟨0, 10, 17, 13⟩ [⟨0, 10, 21, 15⟩] rfl (by decide) (by decide) (by decide) rfl (by decide) (by decide +kernel) hfl (by decide) rfl rfl rfl (wlk1_at 3 rfl) hc, fun h => absurd h (by decide)⟩
    · cases hi
      exact ⟨f, wx_2 (E := 2) (k := 3) (kv := nI 3) (by decide) rfl hd1 [⟨0, 10, 13, 20⟩, ⟨0, 10, 17, 13⟩] ⟨0, 10, 21, 15⟩ [] rfl (by decide) (by decide) (by decide) rfl (by decide) (by decide +kernel) hfl (by decide) rfl rfl rfl (wlk1_at 3 rfl) hc, fun h => absurd h (by decide)⟩
    · cases hi
theorem wm_paceFor (hfl : l.stackTraces = false) {a0 : Int32} {r : Int32 ⊕ Nat} {b : Int32} {t : Int32} (hc : Calls 9 118 (vR (9, 0, 0) :: [vI a0]) hp (rsT rsI r hp1)) (hag : agr [1, 3] r b t) : ∃ f1, WrM l B D G L adK adV adM yL_paceFor cL_paceFor 4 [(0, 9, 12, 20), (0, 9, 15, 13)] [.ref B, .int a0, .ref (B + 326)] hp f g t hp1 f1 g ∧ (t = 0 → f1 0 = b.toInt64) := by
  have hd1 : decode cL_paceFor 0 = .ok (.aload_n 2, 1) ∧ decode cL_paceFor 1 = .ok (.iconst 0, 1) ∧ decode cL_paceFor 2 = .ok (.aload_n 0, 1) ∧ decode cL_paceFor 3 = .ok (.iload_n 1, 1) ∧ decode cL_paceFor 4 = .ok (.invokevirtual 106, 3) := by decide +kernel
  rcases r with x | E
  · have hd2 : decode cL_paceFor 7 = .ok (.i2l, 1) ∧ decode cL_paceFor 8 = .ok (.lastore, 1) ∧ decode cL_paceFor 9 = .ok (.goto 9, 3) ∧ decode cL_paceFor 18 = .ok (.iconst 0, 1) ∧ decode cL_paceFor 19 = .ok (.ireturn, 1) := by decide +kernel
    obtain ⟨rfl, rfl⟩ := hag
    exact ⟨_, wr_1i (by decide) rfl hd1 hd2 (by decide) (by decide) rfl rfl rfl (wlk1_at 4 rfl) hc, fun _ => rfl⟩
  · obtain ⟨i, hi, rfl⟩ := hag
    rcases i with _ | _ | i
    · cases hi
      exact ⟨f, wx_1 (E := 1) (k := 1) (kv := nI 1) (by decide) rfl hd1 [] ⟨0, 9, 12, 20⟩ [⟨0, 9, 15, 13⟩] rfl (by decide) (by decide) (by decide) rfl (by decide) (by decide +kernel) hfl (by decide) rfl rfl rfl (wlk1_at 4 rfl) hc, fun h => absurd h (by decide)⟩
    · cases hi
      exact ⟨f, wx_1 (E := 3) (k := 2) (kv := nI 2) (by decide) rfl hd1 [⟨0, 9, 12, 20⟩] ⟨0, 9, 15, 13⟩ [] rfl (by decide) (by decide) (by decide) rfl (by decide) (by decide +kernel) hfl (by decide) rfl rfl rfl (wlk1_at 4 rfl) hc, fun h => absurd h (by decide)⟩
    · cases hi
theorem wm_keysTo (hfl : l.stackTraces = false) {a0 : Int32} {r : Int32 ⊕ Nat} {b : Int32} {t : Int32} (hc : Calls 9 119 (vR (9, 0, 0) :: [vI a0]) hp (rsT rsI r hp1)) (hag : agr [1, 3] r b t) : ∃ f1, WrM l B D G L adK adV adM yL_keysTo cL_keysTo 4 [(0, 9, 12, 20), (0, 9, 15, 13)] [.ref B, .int a0, .ref (B + 326)] hp f g t hp1 f1 g ∧ (t = 0 → f1 0 = b.toInt64) := by
  have hd1 : decode cL_keysTo 0 = .ok (.aload_n 2, 1) ∧ decode cL_keysTo 1 = .ok (.iconst 0, 1) ∧ decode cL_keysTo 2 = .ok (.aload_n 0, 1) ∧ decode cL_keysTo 3 = .ok (.iload_n 1, 1) ∧ decode cL_keysTo 4 = .ok (.invokevirtual 109, 3) := by decide +kernel
  rcases r with x | E
  · have hd2 : decode cL_keysTo 7 = .ok (.i2l, 1) ∧ decode cL_keysTo 8 = .ok (.lastore, 1) ∧ decode cL_keysTo 9 = .ok (.goto 9, 3) ∧ decode cL_keysTo 18 = .ok (.iconst 0, 1) ∧ decode cL_keysTo 19 = .ok (.ireturn, 1) := by decide +kernel
    obtain ⟨rfl, rfl⟩ := hag
    exact ⟨_, wr_1i (by decide) rfl hd1 hd2 (by decide) (by decide) rfl rfl rfl (wlk1_at 5 rfl) hc, fun _ => rfl⟩
  · obtain ⟨i, hi, rfl⟩ := hag
    rcases i with _ | _ | i
    · cases hi
      exact ⟨f, wx_1 (E := 1) (k := 1) (kv := nI 1) (by decide) rfl hd1 [] ⟨0, 9, 12, 20⟩ [⟨0, 9, 15, 13⟩] rfl (by decide) (by decide) (by decide) rfl (by decide) (by decide +kernel) hfl (by decide) rfl rfl rfl (wlk1_at 5 rfl) hc, fun h => absurd h (by decide)⟩
    · cases hi
      exact ⟨f, wx_1 (E := 3) (k := 2) (kv := nI 2) (by decide) rfl hd1 [⟨0, 9, 12, 20⟩] ⟨0, 9, 15, 13⟩ [] rfl (by decide) (by decide) (by decide) rfl (by decide) (by decide +kernel) hfl (by decide) rfl rfl rfl (wlk1_at 5 rfl) hc, fun h => absurd h (by decide)⟩
    · cases hi
theorem wm_printsLeft (hfl : l.stackTraces = false) {r : Int32 ⊕ Nat} {b : Int32} {t : Int32} (hc : Calls 9 120 (vR (9, 0, 0) :: []) hp (rsT rsI r hp1)) (hag : agr [1] r b t) : ∃ f1, WrM l B D G L adK adV adM yL_printsLeft cL_printsLeft 3 [(0, 8, 11, 20)] [.ref B, .ref (B + 326)] hp f g t hp1 f1 g ∧ (t = 0 → f1 0 = b.toInt64) := by
  have hd1 : decode cL_printsLeft 0 = .ok (.aload_n 1, 1) ∧ decode cL_printsLeft 1 = .ok (.iconst 0, 1) ∧ decode cL_printsLeft 2 = .ok (.aload_n 0, 1) ∧ decode cL_printsLeft 3 = .ok (.invokevirtual 112, 3) := by decide +kernel
  rcases r with x | E
  · have hd2 : decode cL_printsLeft 6 = .ok (.i2l, 1) ∧ decode cL_printsLeft 7 = .ok (.lastore, 1) ∧ decode cL_printsLeft 8 = .ok (.goto 6, 3) ∧ decode cL_printsLeft 14 = .ok (.iconst 0, 1) ∧ decode cL_printsLeft 15 = .ok (.ireturn, 1) := by decide +kernel
    obtain ⟨rfl, rfl⟩ := hag
    exact ⟨_, wr_0i (by decide) rfl hd1 hd2 (by decide) (by decide) rfl rfl rfl (wlk1_at 6 rfl) hc, fun _ => rfl⟩
  · obtain ⟨i, hi, rfl⟩ := hag
    rcases i with _ | i
    · cases hi
      exact ⟨f, wx_0 (E := 1) (k := 1) (kv := nI 1) (by decide) rfl hd1 [] ⟨0, 8, 11, 20⟩ [] rfl (by decide) (by decide) (by decide) rfl (by decide) (by decide +kernel) hfl (by decide) rfl rfl rfl (wlk1_at 6 rfl) hc, fun h => absurd h (by decide)⟩
    · cases hi
theorem wm_writeLine (hfl : l.stackTraces = false) {a0 : Int32} {r : Int32 ⊕ Nat} {b : Int32} {t : Int32} (hc : Calls 9 121 (vR (9, 0, 0) :: [vI a0]) hp (rsT rsI r hp1)) (hag : agr [1, 3] r b t) : ∃ f1, WrM l B D G L adK adV adM yL_writeLine cL_writeLine 4 [(0, 9, 12, 20), (0, 9, 15, 13)] [.ref B, .int a0, .ref (B + 326)] hp f g t hp1 f1 g ∧ (t = 0 → f1 0 = b.toInt64) := by
  have hd1 : decode cL_writeLine 0 = .ok (.aload_n 2, 1) ∧ decode cL_writeLine 1 = .ok (.iconst 0, 1) ∧ decode cL_writeLine 2 = .ok (.aload_n 0, 1) ∧ decode cL_writeLine 3 = .ok (.iload_n 1, 1) ∧ decode cL_writeLine 4 = .ok (.invokevirtual 115, 3) := by decide +kernel
  rcases r with x | E
  · have hd2 : decode cL_writeLine 7 = .ok (.i2l, 1) ∧ decode cL_writeLine 8 = .ok (.lastore, 1) ∧ decode cL_writeLine 9 = .ok (.goto 9, 3) ∧ decode cL_writeLine 18 = .ok (.iconst 0, 1) ∧ decode cL_writeLine 19 = .ok (.ireturn, 1) := by decide +kernel
    obtain ⟨rfl, rfl⟩ := hag
    exact ⟨_, wr_1i (by decide) rfl hd1 hd2 (by decide) (by decide) rfl rfl rfl (wlk1_at 7 rfl) hc, fun _ => rfl⟩
  · obtain ⟨i, hi, rfl⟩ := hag
    rcases i with _ | _ | i
    · cases hi
      exact ⟨f, wx_1 (E := 1) (k := 1) (kv := nI 1) (by decide) rfl hd1 [] ⟨0, 9, 12, 20⟩ [⟨0, 9, 15, 13⟩] rfl (by decide) (by decide) (by decide) rfl (by decide) (by decide +kernel) hfl (by decide) rfl rfl rfl (wlk1_at 7 rfl) hc, fun h => absurd h (by decide)⟩
    · cases hi
      exact ⟨f, wx_1 (E := 3) (k := 2) (kv := nI 2) (by decide) rfl hd1 [⟨0, 9, 12, 20⟩] ⟨0, 9, 15, 13⟩ [] rfl (by decide) (by decide) (by decide) rfl (by decide) (by decide +kernel) hfl (by decide) rfl rfl rfl (wlk1_at 7 rfl) hc, fun h => absurd h (by decide)⟩
    · cases hi
theorem wm_writeShades (hfl : l.stackTraces = false) {a0 : Int32} {r : Int32 ⊕ Nat} {b : Int32} {t : Int32} (hc : Calls 9 122 (vR (9, 0, 0) :: [vI a0]) hp (rsT rsI r hp1)) (hag : agr [1, 3] r b t) : ∃ f1, WrM l B D G L adK adV adM yL_writeShades cL_writeShades 4 [(0, 9, 12, 20), (0, 9, 15, 13)] [.ref B, .int a0, .ref (B + 326)] hp f g t hp1 f1 g ∧ (t = 0 → f1 0 = b.toInt64) := by
  have hd1 : decode cL_writeShades 0 = .ok (.aload_n 2, 1) ∧ decode cL_writeShades 1 = .ok (.iconst 0, 1) ∧ decode cL_writeShades 2 = .ok (.aload_n 0, 1) ∧ decode cL_writeShades 3 = .ok (.iload_n 1, 1) ∧ decode cL_writeShades 4 = .ok (.invokevirtual 118, 3) := by decide +kernel
  rcases r with x | E
  · have hd2 : decode cL_writeShades 7 = .ok (.i2l, 1) ∧ decode cL_writeShades 8 = .ok (.lastore, 1) ∧ decode cL_writeShades 9 = .ok (.goto 9, 3) ∧ decode cL_writeShades 18 = .ok (.iconst 0, 1) ∧ decode cL_writeShades 19 = .ok (.ireturn, 1) := by decide +kernel
    obtain ⟨rfl, rfl⟩ := hag
    exact ⟨_, wr_1i (by decide) rfl hd1 hd2 (by decide) (by decide) rfl rfl rfl (wlk1_at 8 rfl) hc, fun _ => rfl⟩
  · obtain ⟨i, hi, rfl⟩ := hag
    rcases i with _ | _ | i
    · cases hi
      exact ⟨f, wx_1 (E := 1) (k := 1) (kv := nI 1) (by decide) rfl hd1 [] ⟨0, 9, 12, 20⟩ [⟨0, 9, 15, 13⟩] rfl (by decide) (by decide) (by decide) rfl (by decide) (by decide +kernel) hfl (by decide) rfl rfl rfl (wlk1_at 8 rfl) hc, fun h => absurd h (by decide)⟩
    · cases hi
      exact ⟨f, wx_1 (E := 3) (k := 2) (kv := nI 2) (by decide) rfl hd1 [⟨0, 9, 12, 20⟩] ⟨0, 9, 15, 13⟩ [] rfl (by decide) (by decide) (by decide) rfl (by decide) (by decide +kernel) hfl (by decide) rfl rfl rfl (wlk1_at 8 rfl) hc, fun h => absurd h (by decide)⟩
    · cases hi
theorem wm_writeRuler (hfl : l.stackTraces = false) {r : Int32 ⊕ Nat} {b : Int32} {t : Int32} (hc : Calls 9 123 (vR (9, 0, 0) :: []) hp (rsT rsI r hp1)) (hag : agr [1] r b t) : ∃ f1, WrM l B D G L adK adV adM yL_writeRuler cL_writeRuler 3 [(0, 8, 11, 20)] [.ref B, .ref (B + 326)] hp f g t hp1 f1 g ∧ (t = 0 → f1 0 = b.toInt64) := by
  have hd1 : decode cL_writeRuler 0 = .ok (.aload_n 1, 1) ∧ decode cL_writeRuler 1 = .ok (.iconst 0, 1) ∧ decode cL_writeRuler 2 = .ok (.aload_n 0, 1) ∧ decode cL_writeRuler 3 = .ok (.invokevirtual 121, 3) := by decide +kernel
  rcases r with x | E
  · have hd2 : decode cL_writeRuler 6 = .ok (.i2l, 1) ∧ decode cL_writeRuler 7 = .ok (.lastore, 1) ∧ decode cL_writeRuler 8 = .ok (.goto 6, 3) ∧ decode cL_writeRuler 14 = .ok (.iconst 0, 1) ∧ decode cL_writeRuler 15 = .ok (.ireturn, 1) := by decide +kernel
    obtain ⟨rfl, rfl⟩ := hag
    exact ⟨_, wr_0i (by decide) rfl hd1 hd2 (by decide) (by decide) rfl rfl rfl (wlk1_at 9 rfl) hc, fun _ => rfl⟩
  · obtain ⟨i, hi, rfl⟩ := hag
    rcases i with _ | i
    · cases hi
      exact ⟨f, wx_0 (E := 1) (k := 1) (kv := nI 1) (by decide) rfl hd1 [] ⟨0, 8, 11, 20⟩ [] rfl (by decide) (by decide) (by decide) rfl (by decide) (by decide +kernel) hfl (by decide) rfl rfl rfl (wlk1_at 9 rfl) hc, fun h => absurd h (by decide)⟩
    · cases hi
theorem wm_textByte (hfl : l.stackTraces = false) {a0 : Int32} {r : Int32 ⊕ Nat} {b : Int32} {t : Int32} (hc : Calls 9 125 (vR (9, 0, 0) :: [vI a0]) hp (rsT rsI r hp1)) (hag : agr [3] r b t) : ∃ f1, WrM l B D G L adK adV adM yL_textByte cL_textByte 4 [(0, 9, 12, 13)] [.ref B, .int a0, .ref (B + 326)] hp f g t hp1 f1 g ∧ (t = 0 → f1 0 = b.toInt64) := by
  have hd1 : decode cL_textByte 0 = .ok (.aload_n 2, 1) ∧ decode cL_textByte 1 = .ok (.iconst 0, 1) ∧ decode cL_textByte 2 = .ok (.aload_n 0, 1) ∧ decode cL_textByte 3 = .ok (.iload_n 1, 1) ∧ decode cL_textByte 4 = .ok (.invokevirtual 124, 3) := by decide +kernel
  rcases r with x | E
  · have hd2 : decode cL_textByte 7 = .ok (.i2l, 1) ∧ decode cL_textByte 8 = .ok (.lastore, 1) ∧ decode cL_textByte 9 = .ok (.goto 6, 3) ∧ decode cL_textByte 15 = .ok (.iconst 0, 1) ∧ decode cL_textByte 16 = .ok (.ireturn, 1) := by decide +kernel
    obtain ⟨rfl, rfl⟩ := hag
    exact ⟨_, wr_1i (by decide) rfl hd1 hd2 (by decide) (by decide) rfl rfl rfl (wlk1_at 10 rfl) hc, fun _ => rfl⟩
  · obtain ⟨i, hi, rfl⟩ := hag
    rcases i with _ | i
    · cases hi
      exact ⟨f, wx_1 (E := 3) (k := 1) (kv := nI 1) (by decide) rfl hd1 [] ⟨0, 9, 12, 13⟩ [] rfl (by decide) (by decide) (by decide) rfl (by decide) (by decide +kernel) hfl (by decide) rfl rfl rfl (wlk1_at 10 rfl) hc, fun h => absurd h (by decide)⟩
    · cases hi
theorem wm_strike (hfl : l.stackTraces = false) {a0 : Int32} {a1 : Int32} {r : Int32 ⊕ Nat} {b : Int32} {t : Int32} (hc : Calls 9 126 (vR (9, 0, 0) :: [vI a0, vI a1]) hp (rsT rsI r hp1)) (hag : agr [1, 3] r b t) : ∃ f1, WrM l B D G L adK adV adM yL_strike cL_strike 5 [(0, 10, 13, 20), (0, 10, 17, 13)] [.ref B, .int a0, .int a1, .ref (B + 326)] hp f g t hp1 f1 g ∧ (t = 0 → f1 0 = b.toInt64) := by
  have hd1 : decode cL_strike 0 = .ok (.aload_n 3, 1) ∧ decode cL_strike 1 = .ok (.iconst 0, 1) ∧ decode cL_strike 2 = .ok (.aload_n 0, 1) ∧ decode cL_strike 3 = .ok (.iload_n 1, 1) ∧ decode cL_strike 4 = .ok (.iload_n 2, 1) ∧ decode cL_strike 5 = .ok (.invokevirtual 127, 3) := by decide +kernel
  rcases r with x | E
  · have hd2 : decode cL_strike 8 = .ok (.i2l, 1) ∧ decode cL_strike 9 = .ok (.lastore, 1) ∧ decode cL_strike 10 = .ok (.goto 11, 3) ∧ decode cL_strike 21 = .ok (.iconst 0, 1) ∧ decode cL_strike 22 = .ok (.ireturn, 1) := by decide +kernel
    obtain ⟨rfl, rfl⟩ := hag
    exact ⟨_, wr_2i (by decide) rfl hd1 hd2 (by decide) (by decide) rfl rfl rfl (wlk1_at 11 rfl) hc, fun _ => rfl⟩
  · obtain ⟨i, hi, rfl⟩ := hag
    rcases i with _ | _ | i
    · cases hi
      exact ⟨f, wx_2 (E := 1) (k := 1) (kv := nI 1) (by decide) rfl hd1 [] ⟨0, 10, 13, 20⟩ [⟨0, 10, 17, 13⟩] rfl (by decide) (by decide) (by decide) rfl (by decide) (by decide +kernel) hfl (by decide) rfl rfl rfl (wlk1_at 11 rfl) hc, fun h => absurd h (by decide)⟩
    · cases hi
      exact ⟨f, wx_2 (E := 3) (k := 2) (kv := nI 2) (by decide) rfl hd1 [⟨0, 10, 13, 20⟩] ⟨0, 10, 17, 13⟩ [] rfl (by decide) (by decide) (by decide) rfl (by decide) (by decide +kernel) hfl (by decide) rfl rfl rfl (wlk1_at 11 rfl) hc, fun h => absurd h (by decide)⟩
    · cases hi
theorem wm_press (hfl : l.stackTraces = false) {a0 : Int32} {r : Int32 ⊕ Nat} {b : Int32} {t : Int32} (hc : Calls 9 127 (vR (9, 0, 0) :: [vI a0]) hp (rsT rsI r hp1)) (hag : agr [1, 2] r b t) : ∃ f1, WrM l B D G L adK adV adM yL_press cL_press 4 [(0, 9, 12, 20), (0, 9, 15, 15)] [.ref B, .int a0, .ref (B + 326)] hp f g t hp1 f1 g ∧ (t = 0 → f1 0 = b.toInt64) := by
  have hd1 : decode cL_press 0 = .ok (.aload_n 2, 1) ∧ decode cL_press 1 = .ok (.iconst 0, 1) ∧ decode cL_press 2 = .ok (.aload_n 0, 1) ∧ decode cL_press 3 = .ok (.iload_n 1, 1) ∧ decode cL_press 4 = .ok (.invokevirtual 130, 3) := by decide +kernel
  rcases r with x | E
  · have hd2 : decode cL_press 7 = .ok (.i2l, 1) ∧ decode cL_press 8 = .ok (.lastore, 1) ∧ decode cL_press 9 = .ok (.goto 9, 3) ∧ decode cL_press 18 = .ok (.iconst 0, 1) ∧ decode cL_press 19 = .ok (.ireturn, 1) := by decide +kernel
    obtain ⟨rfl, rfl⟩ := hag
    exact ⟨_, wr_1i (by decide) rfl hd1 hd2 (by decide) (by decide) rfl rfl rfl (wlk1_at 12 rfl) hc, fun _ => rfl⟩
  · obtain ⟨i, hi, rfl⟩ := hag
    rcases i with _ | _ | i
    · cases hi
      exact ⟨f, wx_1 (E := 1) (k := 1) (kv := nI 1) (by decide) rfl hd1 [] ⟨0, 9, 12, 20⟩ [⟨0, 9, 15, 15⟩] rfl (by decide) (by decide) (by decide) rfl (by decide) (by decide +kernel) hfl (by decide) rfl rfl rfl (wlk1_at 12 rfl) hc, fun h => absurd h (by decide)⟩
    · cases hi
      exact ⟨f, wx_1 (E := 2) (k := 2) (kv := nI 2) (by decide) rfl hd1 [⟨0, 9, 12, 20⟩] ⟨0, 9, 15, 15⟩ [] rfl (by decide) (by decide) (by decide) rfl (by decide) (by decide +kernel) hfl (by decide) rfl rfl rfl (wlk1_at 12 rfl) hc, fun h => absurd h (by decide)⟩
    · cases hi
theorem wm_type (hfl : l.stackTraces = false) {a0 : Int32} {r : Int32 ⊕ Nat} {b : Int32} {t : Int32} (hc : Calls 9 128 (vR (9, 0, 0) :: [vI a0]) hp (rsT rsI r hp1)) (hag : agr [1, 3] r b t) : ∃ f1, WrM l B D G L adK adV adM yL_type cL_type 4 [(0, 9, 12, 20), (0, 9, 15, 13)] [.ref B, .int a0, .ref (B + 326)] hp f g t hp1 f1 g ∧ (t = 0 → f1 0 = b.toInt64) := by
  have hd1 : decode cL_type 0 = .ok (.aload_n 2, 1) ∧ decode cL_type 1 = .ok (.iconst 0, 1) ∧ decode cL_type 2 = .ok (.aload_n 0, 1) ∧ decode cL_type 3 = .ok (.iload_n 1, 1) ∧ decode cL_type 4 = .ok (.invokevirtual 133, 3) := by decide +kernel
  rcases r with x | E
  · have hd2 : decode cL_type 7 = .ok (.i2l, 1) ∧ decode cL_type 8 = .ok (.lastore, 1) ∧ decode cL_type 9 = .ok (.goto 9, 3) ∧ decode cL_type 18 = .ok (.iconst 0, 1) ∧ decode cL_type 19 = .ok (.ireturn, 1) := by decide +kernel
    obtain ⟨rfl, rfl⟩ := hag
    exact ⟨_, wr_1i (by decide) rfl hd1 hd2 (by decide) (by decide) rfl rfl rfl (wlk1_at 13 rfl) hc, fun _ => rfl⟩
  · obtain ⟨i, hi, rfl⟩ := hag
    rcases i with _ | _ | i
    · cases hi
      exact ⟨f, wx_1 (E := 1) (k := 1) (kv := nI 1) (by decide) rfl hd1 [] ⟨0, 9, 12, 20⟩ [⟨0, 9, 15, 13⟩] rfl (by decide) (by decide) (by decide) rfl (by decide) (by decide +kernel) hfl (by decide) rfl rfl rfl (wlk1_at 13 rfl) hc, fun h => absurd h (by decide)⟩
    · cases hi
      exact ⟨f, wx_1 (E := 3) (k := 2) (kv := nI 2) (by decide) rfl hd1 [⟨0, 9, 12, 20⟩] ⟨0, 9, 15, 13⟩ [] rfl (by decide) (by decide) (by decide) rfl (by decide) (by decide +kernel) hfl (by decide) rfl rfl rfl (wlk1_at 13 rfl) hc, fun h => absurd h (by decide)⟩
    · cases hi
theorem wm_setStop (hfl : l.stackTraces = false) {a0 : Int32} {a1 : Int32} {r : Int32 ⊕ Nat} {b : Int32} {t : Int32} (hc : Calls 9 129 (vR (9, 0, 0) :: [vI a0, vI a1]) hp (rsT rsI r hp1)) (hag : agr [1, 3] r b t) : ∃ f1, WrM l B D G L adK adV adM yL_setStop cL_setStop 5 [(0, 17, 20, 20), (0, 17, 24, 13)] [.ref B, .int a0, .int a1, .ref (B + 326)] hp f g t hp1 f1 g ∧ (t = 0 → f1 0 = bV b) := by
  have hd1 : decode cL_setStop 0 = .ok (.aload_n 3, 1) ∧ decode cL_setStop 1 = .ok (.iconst 0, 1) ∧ decode cL_setStop 2 = .ok (.aload_n 0, 1) ∧ decode cL_setStop 3 = .ok (.iload_n 1, 1) ∧ decode cL_setStop 4 = .ok (.iload_n 2, 1) ∧ decode cL_setStop 5 = .ok (.invokevirtual 136, 3) := by decide +kernel
  rcases r with x | E
  · have hd2 : decode cL_setStop 8 = .ok (.ifCond .eq 7, 3) ∧ decode cL_setStop 11 = .ok (.lconst 1, 1) ∧ decode cL_setStop 12 = .ok (.goto 4, 3) ∧ decode cL_setStop 15 = .ok (.lconst 0, 1) ∧ decode cL_setStop 16 = .ok (.lastore, 1) ∧ decode cL_setStop 17 = .ok (.goto 11, 3) ∧ decode cL_setStop 28 = .ok (.iconst 0, 1) ∧ decode cL_setStop 29 = .ok (.ireturn, 1) := by decide +kernel
    obtain ⟨rfl, rfl⟩ := hag
    exact ⟨_, wr_2b (by decide) rfl hd1 hd2 (by decide) (by decide) rfl rfl rfl (wlk1_at 14 rfl) hc, fun _ => rfl⟩
  · obtain ⟨i, hi, rfl⟩ := hag
    rcases i with _ | _ | i
    · cases hi
      exact ⟨f, wx_2 (E := 1) (k := 1) (kv := nI 1) (by decide) rfl hd1 [] ⟨0, 17, 20, 20⟩ [⟨0, 17, 24, 13⟩] rfl (by decide) (by decide) (by decide) rfl (by decide) (by decide +kernel) hfl (by decide) rfl rfl rfl (wlk1_at 14 rfl) hc, fun h => absurd h (by decide)⟩
    · cases hi
      exact ⟨f, wx_2 (E := 3) (k := 2) (kv := nI 2) (by decide) rfl hd1 [⟨0, 17, 20, 20⟩] ⟨0, 17, 24, 13⟩ [] rfl (by decide) (by decide) (by decide) rfl (by decide) (by decide +kernel) hfl (by decide) rfl rfl rfl (wlk1_at 14 rfl) hc, fun h => absurd h (by decide)⟩
    · cases hi
theorem wm_setMargin (hfl : l.stackTraces = false) {a0 : Int32} {a1 : Int32} {r : Int32 ⊕ Nat} {b : Int32} {t : Int32} (hc : Calls 9 130 (vR (9, 0, 0) :: [vI a0, vI a1]) hp (rsT rsI r hp1)) (hag : agr [1, 2] r b t) : ∃ f1, WrM l B D G L adK adV adM yL_setMargin cL_setMargin 5 [(0, 10, 13, 20), (0, 10, 17, 15)] [.ref B, .int a0, .int a1, .ref (B + 326)] hp f g t hp1 f1 g ∧ (t = 0 → f1 0 = b.toInt64) := by
  have hd1 : decode cL_setMargin 0 = .ok (.aload_n 3, 1) ∧ decode cL_setMargin 1 = .ok (.iconst 0, 1) ∧ decode cL_setMargin 2 = .ok (.aload_n 0, 1) ∧ decode cL_setMargin 3 = .ok (.iload_n 1, 1) ∧ decode cL_setMargin 4 = .ok (.iload_n 2, 1) ∧ decode cL_setMargin 5 = .ok (.invokevirtual 140, 3) := by decide +kernel
  rcases r with x | E
  · have hd2 : decode cL_setMargin 8 = .ok (.i2l, 1) ∧ decode cL_setMargin 9 = .ok (.lastore, 1) ∧ decode cL_setMargin 10 = .ok (.goto 11, 3) ∧ decode cL_setMargin 21 = .ok (.iconst 0, 1) ∧ decode cL_setMargin 22 = .ok (.ireturn, 1) := by decide +kernel
    obtain ⟨rfl, rfl⟩ := hag
    exact ⟨_, wr_2i (by decide) rfl hd1 hd2 (by decide) (by decide) rfl rfl rfl (wlk1_at 15 rfl) hc, fun _ => rfl⟩
  · obtain ⟨i, hi, rfl⟩ := hag
    rcases i with _ | _ | i
    · cases hi
      exact ⟨f, wx_2 (E := 1) (k := 1) (kv := nI 1) (by decide) rfl hd1 [] ⟨0, 10, 13, 20⟩ [⟨0, 10, 17, 15⟩] rfl (by decide) (by decide) (by decide) rfl (by decide) (by decide +kernel) hfl (by decide) rfl rfl rfl (wlk1_at 15 rfl) hc, fun h => absurd h (by decide)⟩
    · cases hi
      exact ⟨f, wx_2 (E := 2) (k := 2) (kv := nI 2) (by decide) rfl hd1 [⟨0, 10, 13, 20⟩] ⟨0, 10, 17, 15⟩ [] rfl (by decide) (by decide) (by decide) rfl (by decide) (by decide +kernel) hfl (by decide) rfl rfl rfl (wlk1_at 15 rfl) hc, fun h => absurd h (by decide)⟩
    · cases hi
theorem wm_set (hfl : l.stackTraces = false) {a0 : Int32} {a1 : Int32} {r : Int32 ⊕ Nat} {b : Int32} {t : Int32} (hc : Calls 9 131 (vR (9, 0, 0) :: [vI a0, vI a1]) hp (rsT rsI r hp1)) (hag : agr [1, 2] r b t) : ∃ f1, WrM l B D G L adK adV adM yL_set cL_set 5 [(0, 10, 13, 20), (0, 10, 17, 15)] [.ref B, .int a0, .int a1, .ref (B + 326)] hp f g t hp1 f1 g ∧ (t = 0 → f1 0 = b.toInt64) := by
  have hd1 : decode cL_set 0 = .ok (.aload_n 3, 1) ∧ decode cL_set 1 = .ok (.iconst 0, 1) ∧ decode cL_set 2 = .ok (.aload_n 0, 1) ∧ decode cL_set 3 = .ok (.iload_n 1, 1) ∧ decode cL_set 4 = .ok (.iload_n 2, 1) ∧ decode cL_set 5 = .ok (.invokevirtual 144, 3) := by decide +kernel
  rcases r with x | E
  · have hd2 : decode cL_set 8 = .ok (.i2l, 1) ∧ decode cL_set 9 = .ok (.lastore, 1) ∧ decode cL_set 10 = .ok (.goto 11, 3) ∧ decode cL_set 21 = .ok (.iconst 0, 1) ∧ decode cL_set 22 = .ok (.ireturn, 1) := by decide +kernel
    obtain ⟨rfl, rfl⟩ := hag
    exact ⟨_, wr_2i (by decide) rfl hd1 hd2 (by decide) (by decide) rfl rfl rfl (wlk1_at 16 rfl) hc, fun _ => rfl⟩
  · obtain ⟨i, hi, rfl⟩ := hag
    rcases i with _ | _ | i
    · cases hi
      exact ⟨f, wx_2 (E := 1) (k := 1) (kv := nI 1) (by decide) rfl hd1 [] ⟨0, 10, 13, 20⟩ [⟨0, 10, 17, 15⟩] rfl (by decide) (by decide) (by decide) rfl (by decide) (by decide +kernel) hfl (by decide) rfl rfl rfl (wlk1_at 16 rfl) hc, fun h => absurd h (by decide)⟩
    · cases hi
      exact ⟨f, wx_2 (E := 2) (k := 2) (kv := nI 2) (by decide) rfl hd1 [⟨0, 10, 13, 20⟩] ⟨0, 10, 17, 15⟩ [] rfl (by decide) (by decide) (by decide) rfl (by decide) (by decide +kernel) hfl (by decide) rfl rfl rfl (wlk1_at 16 rfl) hc, fun h => absurd h (by decide)⟩
    · cases hi
theorem wm_rest (hfl : l.stackTraces = false) {a0 : Int32} {r : Int32 ⊕ Nat} {b : Int32} {t : Int32} (hc : Calls 9 133 (vR (9, 0, 0) :: [vI a0]) hp (rsT rsI r hp1)) (hag : agr [1, 2] r b t) : ∃ f1, WrM l B D G L adK adV adM yL_rest cL_rest 4 [(0, 9, 12, 20), (0, 9, 15, 15)] [.ref B, .int a0, .ref (B + 326)] hp f g t hp1 f1 g ∧ (t = 0 → f1 0 = b.toInt64) := by
  have hd1 : decode cL_rest 0 = .ok (.aload_n 2, 1) ∧ decode cL_rest 1 = .ok (.iconst 0, 1) ∧ decode cL_rest 2 = .ok (.aload_n 0, 1) ∧ decode cL_rest 3 = .ok (.iload_n 1, 1) ∧ decode cL_rest 4 = .ok (.invokevirtual 147, 3) := by decide +kernel
  rcases r with x | E
  · have hd2 : decode cL_rest 7 = .ok (.i2l, 1) ∧ decode cL_rest 8 = .ok (.lastore, 1) ∧ decode cL_rest 9 = .ok (.goto 9, 3) ∧ decode cL_rest 18 = .ok (.iconst 0, 1) ∧ decode cL_rest 19 = .ok (.ireturn, 1) := by decide +kernel
    obtain ⟨rfl, rfl⟩ := hag
    exact ⟨_, wr_1i (by decide) rfl hd1 hd2 (by decide) (by decide) rfl rfl rfl (wlk1_at 17 rfl) hc, fun _ => rfl⟩
  · obtain ⟨i, hi, rfl⟩ := hag
    rcases i with _ | _ | i
    · cases hi
      exact ⟨f, wx_1 (E := 1) (k := 1) (kv := nI 1) (by decide) rfl hd1 [] ⟨0, 9, 12, 20⟩ [⟨0, 9, 15, 15⟩] rfl (by decide) (by decide) (by decide) rfl (by decide) (by decide +kernel) hfl (by decide) rfl rfl rfl (wlk1_at 17 rfl) hc, fun h => absurd h (by decide)⟩
    · cases hi
      exact ⟨f, wx_1 (E := 2) (k := 2) (kv := nI 2) (by decide) rfl hd1 [⟨0, 9, 12, 20⟩] ⟨0, 9, 15, 15⟩ [] rfl (by decide) (by decide) (by decide) rfl (by decide) (by decide +kernel) hfl (by decide) rfl rfl rfl (wlk1_at 17 rfl) hc, fun h => absurd h (by decide)⟩
    · cases hi
theorem wm_newRibbon (hfl : l.stackTraces = false) {r : Int32 ⊕ Nat} {b : Int32} {t : Int32} (hc : Calls 9 134 (vR (9, 0, 0) :: []) hp (rsT rsI r hp1)) (hag : agr [1] r b t) : ∃ f1, WrM l B D G L adK adV adM yL_newRibbon cL_newRibbon 3 [(0, 8, 11, 20)] [.ref B, .ref (B + 326)] hp f g t hp1 f1 g ∧ (t = 0 → f1 0 = b.toInt64) := by
  have hd1 : decode cL_newRibbon 0 = .ok (.aload_n 1, 1) ∧ decode cL_newRibbon 1 = .ok (.iconst 0, 1) ∧ decode cL_newRibbon 2 = .ok (.aload_n 0, 1) ∧ decode cL_newRibbon 3 = .ok (.invokevirtual 150, 3) := by decide +kernel
  rcases r with x | E
  · have hd2 : decode cL_newRibbon 6 = .ok (.i2l, 1) ∧ decode cL_newRibbon 7 = .ok (.lastore, 1) ∧ decode cL_newRibbon 8 = .ok (.goto 6, 3) ∧ decode cL_newRibbon 14 = .ok (.iconst 0, 1) ∧ decode cL_newRibbon 15 = .ok (.ireturn, 1) := by decide +kernel
    obtain ⟨rfl, rfl⟩ := hag
    exact ⟨_, wr_0i (by decide) rfl hd1 hd2 (by decide) (by decide) rfl rfl rfl (wlk1_at 18 rfl) hc, fun _ => rfl⟩
  · obtain ⟨i, hi, rfl⟩ := hag
    rcases i with _ | i
    · cases hi
      exact ⟨f, wx_0 (E := 1) (k := 1) (kv := nI 1) (by decide) rfl hd1 [] ⟨0, 8, 11, 20⟩ [] rfl (by decide) (by decide) (by decide) rfl (by decide) (by decide +kernel) hfl (by decide) rfl rfl rfl (wlk1_at 18 rfl) hc, fun h => absurd h (by decide)⟩
    · cases hi
theorem wm_newPage (hfl : l.stackTraces = false) {r : Int32 ⊕ Nat} {b : Int32} {t : Int32} (hc : Calls 9 135 (vR (9, 0, 0) :: []) hp (rsT rsI r hp1)) (hag : agr [1] r b t) : ∃ f1, WrM l B D G L adK adV adM yL_newPage cL_newPage 3 [(0, 8, 11, 20)] [.ref B, .ref (B + 326)] hp f g t hp1 f1 g ∧ (t = 0 → f1 0 = b.toInt64) := by
  have hd1 : decode cL_newPage 0 = .ok (.aload_n 1, 1) ∧ decode cL_newPage 1 = .ok (.iconst 0, 1) ∧ decode cL_newPage 2 = .ok (.aload_n 0, 1) ∧ decode cL_newPage 3 = .ok (.invokevirtual 153, 3) := by decide +kernel
  rcases r with x | E
  · have hd2 : decode cL_newPage 6 = .ok (.i2l, 1) ∧ decode cL_newPage 7 = .ok (.lastore, 1) ∧ decode cL_newPage 8 = .ok (.goto 6, 3) ∧ decode cL_newPage 14 = .ok (.iconst 0, 1) ∧ decode cL_newPage 15 = .ok (.ireturn, 1) := by decide +kernel
    obtain ⟨rfl, rfl⟩ := hag
    exact ⟨_, wr_0i (by decide) rfl hd1 hd2 (by decide) (by decide) rfl rfl rfl (wlk1_at 19 rfl) hc, fun _ => rfl⟩
  · obtain ⟨i, hi, rfl⟩ := hag
    rcases i with _ | i
    · cases hi
      exact ⟨f, wx_0 (E := 1) (k := 1) (kv := nI 1) (by decide) rfl hd1 [] ⟨0, 8, 11, 20⟩ [] rfl (by decide) (by decide) (by decide) rfl (by decide) (by decide +kernel) hfl (by decide) rfl rfl rfl (wlk1_at 19 rfl) hc, fun h => absurd h (by decide)⟩
    · cases hi
theorem wm_undo (hfl : l.stackTraces = false) {r : Int32 ⊕ Nat} {b : Int32} {t : Int32} (hc : Calls 9 136 (vR (9, 0, 0) :: []) hp (rsT rsI r hp1)) (hag : agr [1] r b t) : ∃ f1, WrM l B D G L adK adV adM yL_undo cL_undo 3 [(0, 8, 11, 20)] [.ref B, .ref (B + 326)] hp f g t hp1 f1 g ∧ (t = 0 → f1 0 = b.toInt64) := by
  have hd1 : decode cL_undo 0 = .ok (.aload_n 1, 1) ∧ decode cL_undo 1 = .ok (.iconst 0, 1) ∧ decode cL_undo 2 = .ok (.aload_n 0, 1) ∧ decode cL_undo 3 = .ok (.invokevirtual 156, 3) := by decide +kernel
  rcases r with x | E
  · have hd2 : decode cL_undo 6 = .ok (.i2l, 1) ∧ decode cL_undo 7 = .ok (.lastore, 1) ∧ decode cL_undo 8 = .ok (.goto 6, 3) ∧ decode cL_undo 14 = .ok (.iconst 0, 1) ∧ decode cL_undo 15 = .ok (.ireturn, 1) := by decide +kernel
    obtain ⟨rfl, rfl⟩ := hag
    exact ⟨_, wr_0i (by decide) rfl hd1 hd2 (by decide) (by decide) rfl rfl rfl (wlk1_at 20 rfl) hc, fun _ => rfl⟩
  · obtain ⟨i, hi, rfl⟩ := hag
    rcases i with _ | i
    · cases hi
      exact ⟨f, wx_0 (E := 1) (k := 1) (kv := nI 1) (by decide) rfl hd1 [] ⟨0, 8, 11, 20⟩ [] rfl (by decide) (by decide) (by decide) rfl (by decide) (by decide +kernel) hfl (by decide) rfl rfl rfl (wlk1_at 20 rfl) hc, fun h => absurd h (by decide)⟩
    · cases hi
theorem wm_save (hfl : l.stackTraces = false) {a0 : Int32} {r : Int32 ⊕ Nat} {b : Int32} {t : Int32} (hc : Calls 9 138 (vR (9, 0, 0) :: [vI a0]) hp (rsT rsI r hp1)) (hag : agr [1, 3] r b t) : ∃ f1, WrM l B D G L adK adV adM yL_save cL_save 4 [(0, 9, 12, 20), (0, 9, 15, 13)] [.ref B, .int a0, .ref (B + 326)] hp f g t hp1 f1 g ∧ (t = 0 → f1 0 = b.toInt64) := by
  have hd1 : decode cL_save 0 = .ok (.aload_n 2, 1) ∧ decode cL_save 1 = .ok (.iconst 0, 1) ∧ decode cL_save 2 = .ok (.aload_n 0, 1) ∧ decode cL_save 3 = .ok (.iload_n 1, 1) ∧ decode cL_save 4 = .ok (.invokevirtual 159, 3) := by decide +kernel
  rcases r with x | E
  · have hd2 : decode cL_save 7 = .ok (.i2l, 1) ∧ decode cL_save 8 = .ok (.lastore, 1) ∧ decode cL_save 9 = .ok (.goto 9, 3) ∧ decode cL_save 18 = .ok (.iconst 0, 1) ∧ decode cL_save 19 = .ok (.ireturn, 1) := by decide +kernel
    obtain ⟨rfl, rfl⟩ := hag
    exact ⟨_, wr_1i (by decide) rfl hd1 hd2 (by decide) (by decide) rfl rfl rfl (wlk1_at 21 rfl) hc, fun _ => rfl⟩
  · obtain ⟨i, hi, rfl⟩ := hag
    rcases i with _ | _ | i
    · cases hi
      exact ⟨f, wx_1 (E := 1) (k := 1) (kv := nI 1) (by decide) rfl hd1 [] ⟨0, 9, 12, 20⟩ [⟨0, 9, 15, 13⟩] rfl (by decide) (by decide) (by decide) rfl (by decide) (by decide +kernel) hfl (by decide) rfl rfl rfl (wlk1_at 21 rfl) hc, fun h => absurd h (by decide)⟩
    · cases hi
      exact ⟨f, wx_1 (E := 3) (k := 2) (kv := nI 2) (by decide) rfl hd1 [⟨0, 9, 12, 20⟩] ⟨0, 9, 15, 13⟩ [] rfl (by decide) (by decide) (by decide) rfl (by decide) (by decide +kernel) hfl (by decide) rfl rfl rfl (wlk1_at 21 rfl) hc, fun h => absurd h (by decide)⟩
    · cases hi
theorem wm_restore (hfl : l.stackTraces = false) {a0 : Int32} {r : Int32 ⊕ Nat} {b : Int32} {t : Int32} (hc : Calls 9 139 (vR (9, 0, 0) :: [vI a0]) hp (rsT rsI r hp1)) (hag : agr [3, 1] r b t) : ∃ f1, WrM l B D G L adK adV adM yL_restore cL_restore 4 [(0, 9, 12, 13), (0, 9, 15, 20)] [.ref B, .int a0, .ref (B + 326)] hp f g t hp1 f1 g ∧ (t = 0 → f1 0 = b.toInt64) := by
  have hd1 : decode cL_restore 0 = .ok (.aload_n 2, 1) ∧ decode cL_restore 1 = .ok (.iconst 0, 1) ∧ decode cL_restore 2 = .ok (.aload_n 0, 1) ∧ decode cL_restore 3 = .ok (.iload_n 1, 1) ∧ decode cL_restore 4 = .ok (.invokevirtual 162, 3) := by decide +kernel
  rcases r with x | E
  · have hd2 : decode cL_restore 7 = .ok (.i2l, 1) ∧ decode cL_restore 8 = .ok (.lastore, 1) ∧ decode cL_restore 9 = .ok (.goto 9, 3) ∧ decode cL_restore 18 = .ok (.iconst 0, 1) ∧ decode cL_restore 19 = .ok (.ireturn, 1) := by decide +kernel
    obtain ⟨rfl, rfl⟩ := hag
    exact ⟨_, wr_1i (by decide) rfl hd1 hd2 (by decide) (by decide) rfl rfl rfl (wlk1_at 22 rfl) hc, fun _ => rfl⟩
  · obtain ⟨i, hi, rfl⟩ := hag
    rcases i with _ | _ | i
    · cases hi
      exact ⟨f, wx_1 (E := 3) (k := 1) (kv := nI 1) (by decide) rfl hd1 [] ⟨0, 9, 12, 13⟩ [⟨0, 9, 15, 20⟩] rfl (by decide) (by decide) (by decide) rfl (by decide) (by decide +kernel) hfl (by decide) rfl rfl rfl (wlk1_at 22 rfl) hc, fun h => absurd h (by decide)⟩
    · cases hi
      exact ⟨f, wx_1 (E := 1) (k := 2) (kv := nI 2) (by decide) rfl hd1 [⟨0, 9, 12, 13⟩] ⟨0, 9, 15, 20⟩ [] rfl (by decide) (by decide) (by decide) rfl (by decide) (by decide +kernel) hfl (by decide) rfl rfl rfl (wlk1_at 22 rfl) hc, fun h => absurd h (by decide)⟩
    · cases hi
end WMM
