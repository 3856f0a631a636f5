/-! ===== the law's own methods, one by one ===== -/
section WMM
variable {l : Launch} {B : Nat} {D : va_G} {G : GG} {L : GL} {adK adV adM : Nat → Nat} {hp hp1 : HP} {f : Nat → Int64} {g : Nat → UInt64}
def wlk0 : List Jvm.Cond := [.methodLink RL 7 (nameOf 87), .methodLink RL 17 (nameOf 91), .methodLink RL 22 (nameOf 92), .methodLink RL 25 (nameOf 93), .methodLink RL 28 (nameOf 94), .methodLink RL 32 (nameOf 95), .methodLink RL 35 (nameOf 96), .methodLink RL 39 (nameOf 97), .methodLink RL 42 (nameOf 98), .methodLink RL 45 (nameOf 99), .methodLink RL 48 (nameOf 100), .methodLink RL 51 (nameOf 101), .methodLink RL 55 (nameOf 102), .methodLink RL 58 (nameOf 103), .methodLink RL 61 (nameOf 104), .methodLink RL 64 (nameOf 105), .methodLink RL 67 (nameOf 106), .methodLink RL 70 (nameOf 107), .methodLink RL 73 (nameOf 108), .methodLink RL 77 (nameOf 109), .methodLink RL 81 (nameOf 110), .methodLink RL 84 (nameOf 111), .methodLink RL 87 (nameOf 112), .methodLink RL 90 (nameOf 113)]
theorem wlk0_at {w : Jvm.Cond} (i : Nat) (h : wlk0[i]? = some w) : w ∈ lwG := by
  have key : (wlk0.all (fun w => decide (w ∈ lw_tbl) && goodWord w)) = true := by decide +kernel
  have h := List.all_eq_true.mp key w (List.mem_of_getElem? h)
  simp only [Bool.and_eq_true, decide_eq_true_eq] at h
  exact List.mem_filter.mpr h
theorem wm_load (hfl : l.stackTraces = false) {a0 : Int32} {r : Int32 ⊕ Nat} {b : Int32} {t : Int32} (hc : Calls 9 87 (vR (9, 0, 0) :: [vI a0]) hp (rsT rsI r hp1)) (hag : agr [3, 2] r b t) : ∃ f1, WrM l B D G L adK adV adM yL_load cL_load 4 [(0, 9, 12, 13), (0, 9, 15, 15)] [.ref B, .int a0, .ref (B + 326)] hp f g t hp1 f1 g ∧ (t = 0 → f1 0 = b.toInt64) := by
  have hd1 : decode cL_load 0 = .ok (.aload_n 2, 1) ∧ decode cL_load 1 = .ok (.iconst 0, 1) ∧ decode cL_load 2 = .ok (.aload_n 0, 1) ∧ decode cL_load 3 = .ok (.iload_n 1, 1) ∧ decode cL_load 4 = .ok (.invokevirtual 7, 3) := by decide +kernel
  rcases r with x | E
  · have hd2 : decode cL_load 7 = .ok (.i2l, 1) ∧ decode cL_load 8 = .ok (.lastore, 1) ∧ decode cL_load 9 = .ok (.goto 9, 3) ∧ decode cL_load 18 = .ok (.iconst 0, 1) ∧ decode cL_load 19 = .ok (.ireturn, 1) := by decide +kernel
    obtain ⟨rfl, rfl⟩ := hag
    exact ⟨_, wr_1i (by decide) rfl hd1 hd2 (by decide) (by decide) rfl rfl rfl (wlk0_at 0 rfl) hc, fun _ => rfl⟩
  · obtain ⟨i, hi, rfl⟩ := hag
    rcases i with _ | _ | i
    · cases hi
      exact ⟨f, wx_1 (E := 3) (k := 1) (kv := nI 1) (by decide) rfl hd1 [] ⟨0, 9, 12, 13⟩ [⟨0, 9, 15, 15⟩] rfl (by decide) (by decide) (by decide) rfl (by decide) (by decide +kernel) hfl (by decide) rfl rfl rfl (wlk0_at 0 rfl) hc, fun h => absurd h (by decide)⟩
    · cases hi
      exact ⟨f, wx_1 (E := 2) (k := 2) (kv := nI 2) (by decide) rfl hd1 [⟨0, 9, 12, 13⟩] ⟨0, 9, 15, 15⟩ [] rfl (by decide) (by decide) (by decide) rfl (by decide) (by decide +kernel) hfl (by decide) rfl rfl rfl (wlk0_at 0 rfl) hc, fun h => absurd h (by decide)⟩
    · cases hi
theorem wm_count (hfl : l.stackTraces = false) {a0 : Int32} {r : Int32 ⊕ Nat} {b : Int32} {t : Int32} (hc : Calls 9 91 (vR (9, 0, 0) :: [vI a0]) hp (rsT rsI r hp1)) (hag : agr [1, 2] r b t) : ∃ f1, WrM l B D G L adK adV adM yL_count cL_count 4 [(0, 9, 12, 20), (0, 9, 15, 15)] [.ref B, .int a0, .ref (B + 326)] hp f g t hp1 f1 g ∧ (t = 0 → f1 0 = b.toInt64) := by
  have hd1 : decode cL_count 0 = .ok (.aload_n 2, 1) ∧ decode cL_count 1 = .ok (.iconst 0, 1) ∧ decode cL_count 2 = .ok (.aload_n 0, 1) ∧ decode cL_count 3 = .ok (.iload_n 1, 1) ∧ decode cL_count 4 = .ok (.invokevirtual 17, 3) := by decide +kernel
  rcases r with x | E
  · have hd2 : decode cL_count 7 = .ok (.i2l, 1) ∧ decode cL_count 8 = .ok (.lastore, 1) ∧ decode cL_count 9 = .ok (.goto 9, 3) ∧ decode cL_count 18 = .ok (.iconst 0, 1) ∧ decode cL_count 19 = .ok (.ireturn, 1) := by decide +kernel
    obtain ⟨rfl, rfl⟩ := hag
    exact ⟨_, wr_1i (by decide) rfl hd1 hd2 (by decide) (by decide) rfl rfl rfl (wlk0_at 1 rfl) hc, fun _ => rfl⟩
  · obtain ⟨i, hi, rfl⟩ := hag
    rcases i with _ | _ | i
    · cases hi
      exact ⟨f, wx_1 (E := 1) (k := 1) (kv := nI 1) (by decide) rfl hd1 [] ⟨0, 9, 12, 20⟩ [⟨0, 9, 15, 15⟩] rfl (by decide) (by decide) (by decide) rfl (by decide) (by decide +kernel) hfl (by decide) rfl rfl rfl (wlk0_at 1 rfl) hc, fun h => absurd h (by decide)⟩
    · cases hi
      exact ⟨f, wx_1 (E := 2) (k := 2) (kv := nI 2) (by decide) rfl hd1 [⟨0, 9, 12, 20⟩] ⟨0, 9, 15, 15⟩ [] rfl (by decide) (by decide) (by decide) rfl (by decide) (by decide +kernel) hfl (by decide) rfl rfl rfl (wlk0_at 1 rfl) hc, fun h => absurd h (by decide)⟩
    · cases hi
theorem wm_setting (hfl : l.stackTraces = false) {a0 : Int32} {r : Int32 ⊕ Nat} {b : Int32} {t : Int32} (hc : Calls 9 92 (vR (9, 0, 0) :: [vI a0]) hp (rsT rsI r hp1)) (hag : agr [1, 2] r b t) : ∃ f1, WrM l B D G L adK adV adM yL_setting cL_setting 4 [(0, 9, 12, 20), (0, 9, 15, 15)] [.ref B, .int a0, .ref (B + 326)] hp f g t hp1 f1 g ∧ (t = 0 → f1 0 = b.toInt64) := by
  have hd1 : decode cL_setting 0 = .ok (.aload_n 2, 1) ∧ decode cL_setting 1 = .ok (.iconst 0, 1) ∧ decode cL_setting 2 = .ok (.aload_n 0, 1) ∧ decode cL_setting 3 = .ok (.iload_n 1, 1) ∧ decode cL_setting 4 = .ok (.invokevirtual 22, 3) := by decide +kernel
  rcases r with x | E
  · have hd2 : decode cL_setting 7 = .ok (.i2l, 1) ∧ decode cL_setting 8 = .ok (.lastore, 1) ∧ decode cL_setting 9 = .ok (.goto 9, 3) ∧ decode cL_setting 18 = .ok (.iconst 0, 1) ∧ decode cL_setting 19 = .ok (.ireturn, 1) := by decide +kernel
    obtain ⟨rfl, rfl⟩ := hag
    exact ⟨_, wr_1i (by decide) rfl hd1 hd2 (by decide) (by decide) rfl rfl rfl (wlk0_at 2 rfl) hc, fun _ => rfl⟩
  · obtain ⟨i, hi, rfl⟩ := hag
    rcases i with _ | _ | i
    · cases hi
      exact ⟨f, wx_1 (E := 1) (k := 1) (kv := nI 1) (by decide) rfl hd1 [] ⟨0, 9, 12, 20⟩ [⟨0, 9, 15, 15⟩] rfl (by decide) (by decide) (by decide) rfl (by decide) (by decide +kernel) hfl (by decide) rfl rfl rfl (wlk0_at 2 rfl) hc, fun h => absurd h (by decide)⟩
    · cases hi
      exact ⟨f, wx_1 (E := 2) (k := 2) (kv := nI 2) (by decide) rfl hd1 [⟨0, 9, 12, 20⟩] ⟨0, 9, 15, 15⟩ [] rfl (by decide) (by decide) (by decide) rfl (by decide) (by decide +kernel) hfl (by decide) rfl rfl rfl (wlk0_at 2 rfl) hc, fun h => absurd h (by decide)⟩
    · cases hi
theorem wm_carriage (hfl : l.stackTraces = false) {a0 : Int32} {r : Int32 ⊕ Nat} {b : Int32} {t : Int32} (hc : Calls 9 93 (vR (9, 0, 0) :: [vI a0]) hp (rsT rsI r hp1)) (hag : agr [1, 2] r b t) : ∃ f1, WrM l B D G L adK adV adM yL_carriage cL_carriage 4 [(0, 9, 12, 20), (0, 9, 15, 15)] [.ref B, .int a0, .ref (B + 326)] hp f g t hp1 f1 g ∧ (t = 0 → f1 0 = b.toInt64) := by
  have hd1 : decode cL_carriage 0 = .ok (.aload_n 2, 1) ∧ decode cL_carriage 1 = .ok (.iconst 0, 1) ∧ decode cL_carriage 2 = .ok (.aload_n 0, 1) ∧ decode cL_carriage 3 = .ok (.iload_n 1, 1) ∧ decode cL_carriage 4 = .ok (.invokevirtual 25, 3) := by decide +kernel
  rcases r with x | E
  · have hd2 : decode cL_carriage 7 = .ok (.i2l, 1) ∧ decode cL_carriage 8 = .ok (.lastore, 1) ∧ decode cL_carriage 9 = .ok (.goto 9, 3) ∧ decode cL_carriage 18 = .ok (.iconst 0, 1) ∧ decode cL_carriage 19 = .ok (.ireturn, 1) := by decide +kernel
    obtain ⟨rfl, rfl⟩ := hag
    exact ⟨_, wr_1i (by decide) rfl hd1 hd2 (by decide) (by decide) rfl rfl rfl (wlk0_at 3 rfl) hc, fun _ => rfl⟩
  · obtain ⟨i, hi, rfl⟩ := hag
    rcases i with _ | _ | i
    · cases hi
      exact ⟨f, wx_1 (E := 1) (k := 1) (kv := nI 1) (by decide) rfl hd1 [] ⟨0, 9, 12, 20⟩ [⟨0, 9, 15, 15⟩] rfl (by decide) (by decide) (by decide) rfl (by decide) (by decide +kernel) hfl (by decide) rfl rfl rfl (wlk0_at 3 rfl) hc, fun h => absurd h (by decide)⟩
    · cases hi
      exact ⟨f, wx_1 (E := 2) (k := 2) (kv := nI 2) (by decide) rfl hd1 [⟨0, 9, 12, 20⟩] ⟨0, 9, 15, 15⟩ [] rfl (by decide) (by decide) (by decide) rfl (by decide) (by decide +kernel) hfl (by decide) rfl rfl rfl (wlk0_at 3 rfl) hc, fun h => absurd h (by decide)⟩
    · cases hi
theorem wm_bar (hfl : l.stackTraces = false) {a0 : Int32} {a1 : Int32} {r : Int32 ⊕ Nat} {b : Int32} {t : Int32} (hc : Calls 9 94 (vR (9, 0, 0) :: [vI a0, vI a1]) hp (rsT rsI r hp1)) (hag : agr [1, 3, 2] r b t) : ∃ f1, WrM l B D G L adK adV adM yL_bar cL_bar 5 [(0, 10, 13, 20), (0, 10, 17, 13), (0, 10, 21, 15)] [.ref B, .int a0, .int a1, .ref (B + 326)] hp f g t hp1 f1 g ∧ (t = 0 → f1 0 = b.toInt64) := by
  have hd1 : decode cL_bar 0 = .ok (.aload_n 3, 1) ∧ decode cL_bar 1 = .ok (.iconst 0, 1) ∧ decode cL_bar 2 = .ok (.aload_n 0, 1) ∧ decode cL_bar 3 = .ok (.iload_n 1, 1) ∧ decode cL_bar 4 = .ok (.iload_n 2, 1) ∧ decode cL_bar 5 = .ok (.invokevirtual 28, 3) := by decide +kernel
  rcases r with x | E
  · have hd2 : decode cL_bar 8 = .ok (.i2l, 1) ∧ decode cL_bar 9 = .ok (.lastore, 1) ∧ decode cL_bar 10 = .ok (.goto 15, 3) ∧ decode cL_bar 25 = .ok (.iconst 0, 1) ∧ decode cL_bar 26 = .ok (.ireturn, 1) := by decide +kernel
    obtain ⟨rfl, rfl⟩ := hag
    exact ⟨_, wr_2i (by decide) rfl hd1 hd2 (by decide) (by decide) rfl rfl rfl (wlk0_at 4 rfl) hc, fun _ => rfl⟩
  · obtain ⟨i, hi, rfl⟩ := hag
    rcases i with _ | _ | _ | i
    · cases hi
      exact ⟨f, wx_2 (E := 1) (k := 1) (kv := nI 1) (by decide) rfl hd1 [] ⟨0, 10, 13, 20⟩ [⟨0, 10, 17, 13⟩, ⟨0, 10, 21, 15⟩] rfl (by decide) (by decide) (by decide) rfl (by decide) (by decide +kernel) hfl (by decide) rfl rfl rfl (wlk0_at 4 rfl) hc, fun h => absurd h (by decide)⟩
    · cases hi
      exact ⟨f, wx_2 (E := 3) (k := 2) (kv := nI 2) (by decide) rfl hd1 [⟨0, 10, 13, 20⟩] ⟨0, 10, 17, 13⟩ [⟨0, 10, 21, 15⟩] rfl (by decide) (by decide) (by decide) rfl (by decide) (by decide +kernel) hfl (by decide) rfl rfl rfl (wlk0_at 4 rfl) hc, fun h => absurd h (by decide)⟩
    · cases hi
      exact ⟨f, wx_2 (E := 2) (k := 3) (kv := nI 3) (by decide) rfl hd1 [⟨0, 10, 13, 20⟩, ⟨0, 10, 17, 13⟩] ⟨0, 10, 21, 15⟩ [] rfl (by decide) (by decide) (by decide) rfl (by decide) (by decide +kernel) hfl (by decide) rfl rfl rfl (wlk0_at 4 rfl) hc, fun h => absurd h (by decide)⟩
    · cases hi
theorem wm_barOf (hfl : l.stackTraces = false) {a0 : Int32} {r : Int32 ⊕ Nat} {b : Int32} {t : Int32} (hc : Calls 9 95 (vR (9, 0, 0) :: [vI a0]) hp (rsT rsI r hp1)) (hag : agr [1] r b t) : ∃ f1, WrM l B D G L adK adV adM yL_barOf cL_barOf 4 [(0, 9, 12, 20)] [.ref B, .int a0, .ref (B + 326)] hp f g t hp1 f1 g ∧ (t = 0 → f1 0 = b.toInt64) := by
  have hd1 : decode cL_barOf 0 = .ok (.aload_n 2, 1) ∧ decode cL_barOf 1 = .ok (.iconst 0, 1) ∧ decode cL_barOf 2 = .ok (.aload_n 0, 1) ∧ decode cL_barOf 3 = .ok (.iload_n 1, 1) ∧ decode cL_barOf 4 = .ok (.invokevirtual 32, 3) := by decide +kernel
  rcases r with x | E
  · have hd2 : decode cL_barOf 7 = .ok (.i2l, 1) ∧ decode cL_barOf 8 = .ok (.lastore, 1) ∧ decode cL_barOf 9 = .ok (.goto 6, 3) ∧ decode cL_barOf 15 = .ok (.iconst 0, 1) ∧ decode cL_barOf 16 = .ok (.ireturn, 1) := by decide +kernel
    obtain ⟨rfl, rfl⟩ := hag
    exact ⟨_, wr_1i (by decide) rfl hd1 hd2 (by decide) (by decide) rfl rfl rfl (wlk0_at 5 rfl) hc, fun _ => rfl⟩
  · obtain ⟨i, hi, rfl⟩ := hag
    rcases i with _ | i
    · cases hi
      exact ⟨f, wx_1 (E := 1) (k := 1) (kv := nI 1) (by decide) rfl hd1 [] ⟨0, 9, 12, 20⟩ [] rfl (by decide) (by decide) (by decide) rfl (by decide) (by decide +kernel) hfl (by decide) rfl rfl rfl (wlk0_at 5 rfl) hc, fun h => absurd h (by decide)⟩
    · cases hi
theorem wm_latest (hfl : l.stackTraces = false) {r : Int32 ⊕ Nat} {b : Int32} {t : Int32} (hc : Calls 9 96 (vR (9, 0, 0) :: []) hp (rsT rsI r hp1)) (hag : agr [1] r b t) : ∃ f1, WrM l B D G L adK adV adM yL_latest cL_latest 3 [(0, 8, 11, 20)] [.ref B, .ref (B + 326)] hp f g t hp1 f1 g ∧ (t = 0 → f1 0 = b.toInt64) := by
  have hd1 : decode cL_latest 0 = .ok (.aload_n 1, 1) ∧ decode cL_latest 1 = .ok (.iconst 0, 1) ∧ decode cL_latest 2 = .ok (.aload_n 0, 1) ∧ decode cL_latest 3 = .ok (.invokevirtual 35, 3) := by decide +kernel
  rcases r with x | E
  · have hd2 : decode cL_latest 6 = .ok (.i2l, 1) ∧ decode cL_latest 7 = .ok (.lastore, 1) ∧ decode cL_latest 8 = .ok (.goto 6, 3) ∧ decode cL_latest 14 = .ok (.iconst 0, 1) ∧ decode cL_latest 15 = .ok (.ireturn, 1) := by decide +kernel
    obtain ⟨rfl, rfl⟩ := hag
    exact ⟨_, wr_0i (by decide) rfl hd1 hd2 (by decide) (by decide) rfl rfl rfl (wlk0_at 6 rfl) hc, fun _ => rfl⟩
  · obtain ⟨i, hi, rfl⟩ := hag
    rcases i with _ | i
    · cases hi
      exact ⟨f, wx_0 (E := 1) (k := 1) (kv := nI 1) (by decide) rfl hd1 [] ⟨0, 8, 11, 20⟩ [] rfl (by decide) (by decide) (by decide) rfl (by decide) (by decide +kernel) hfl (by decide) rfl rfl rfl (wlk0_at 6 rfl) hc, fun h => absurd h (by decide)⟩
    · cases hi
theorem wm_ribbon (hfl : l.stackTraces = false) {a0 : Int32} {r : Int32 ⊕ Nat} {b : Int32} {t : Int32} (hc : Calls 9 97 (vR (9, 0, 0) :: [vI a0]) hp (rsT rsI r hp1)) (hag : agr [1, 3] r b t) : ∃ f1, WrM l B D G L adK adV adM yL_ribbon cL_ribbon 4 [(0, 9, 12, 20), (0, 9, 15, 13)] [.ref B, .int a0, .ref (B + 326)] hp f g t hp1 f1 g ∧ (t = 0 → f1 0 = b.toInt64) := by
  have hd1 : decode cL_ribbon 0 = .ok (.aload_n 2, 1) ∧ decode cL_ribbon 1 = .ok (.iconst 0, 1) ∧ decode cL_ribbon 2 = .ok (.aload_n 0, 1) ∧ decode cL_ribbon 3 = .ok (.iload_n 1, 1) ∧ decode cL_ribbon 4 = .ok (.invokevirtual 39, 3) := by decide +kernel
  rcases r with x | E
  · have hd2 : decode cL_ribbon 7 = .ok (.i2l, 1) ∧ decode cL_ribbon 8 = .ok (.lastore, 1) ∧ decode cL_ribbon 9 = .ok (.goto 9, 3) ∧ decode cL_ribbon 18 = .ok (.iconst 0, 1) ∧ decode cL_ribbon 19 = .ok (.ireturn, 1) := by decide +kernel
    obtain ⟨rfl, rfl⟩ := hag
    exact ⟨_, wr_1i (by decide) rfl hd1 hd2 (by decide) (by decide) rfl rfl rfl (wlk0_at 7 rfl) hc, fun _ => rfl⟩
  · obtain ⟨i, hi, rfl⟩ := hag
    rcases i with _ | _ | i
    · cases hi
      exact ⟨f, wx_1 (E := 1) (k := 1) (kv := nI 1) (by decide) rfl hd1 [] ⟨0, 9, 12, 20⟩ [⟨0, 9, 15, 13⟩] rfl (by decide) (by decide) (by decide) rfl (by decide) (by decide +kernel) hfl (by decide) rfl rfl rfl (wlk0_at 7 rfl) hc, fun h => absurd h (by decide)⟩
    · cases hi
      exact ⟨f, wx_1 (E := 3) (k := 2) (kv := nI 2) (by decide) rfl hd1 [⟨0, 9, 12, 20⟩] ⟨0, 9, 15, 13⟩ [] rfl (by decide) (by decide) (by decide) rfl (by decide) (by decide +kernel) hfl (by decide) rfl rfl rfl (wlk0_at 7 rfl) hc, fun h => absurd h (by decide)⟩
    · cases hi
theorem wm_head (hfl : l.stackTraces = false) {a0 : Int32} {r : Int32 ⊕ Nat} {b : Int32} {t : Int32} (hc : Calls 9 98 (vR (9, 0, 0) :: [vI a0]) hp (rsT rsI r hp1)) (hag : agr [1, 2] r b t) : ∃ f1, WrM l B D G L adK adV adM yL_head cL_head 4 [(0, 9, 12, 20), (0, 9, 15, 15)] [.ref B, .int a0, .ref (B + 326)] hp f g t hp1 f1 g ∧ (t = 0 → f1 0 = b.toInt64) := by
  have hd1 : decode cL_head 0 = .ok (.aload_n 2, 1) ∧ decode cL_head 1 = .ok (.iconst 0, 1) ∧ decode cL_head 2 = .ok (.aload_n 0, 1) ∧ decode cL_head 3 = .ok (.iload_n 1, 1) ∧ decode cL_head 4 = .ok (.invokevirtual 42, 3) := by decide +kernel
  rcases r with x | E
  · have hd2 : decode cL_head 7 = .ok (.i2l, 1) ∧ decode cL_head 8 = .ok (.lastore, 1) ∧ decode cL_head 9 = .ok (.goto 9, 3) ∧ decode cL_head 18 = .ok (.iconst 0, 1) ∧ decode cL_head 19 = .ok (.ireturn, 1) := by decide +kernel
    obtain ⟨rfl, rfl⟩ := hag
    exact ⟨_, wr_1i (by decide) rfl hd1 hd2 (by decide) (by decide) rfl rfl rfl (wlk0_at 8 rfl) hc, fun _ => rfl⟩
  · obtain ⟨i, hi, rfl⟩ := hag
    rcases i with _ | _ | i
    · cases hi
      exact ⟨f, wx_1 (E := 1) (k := 1) (kv := nI 1) (by decide) rfl hd1 [] ⟨0, 9, 12, 20⟩ [⟨0, 9, 15, 15⟩] rfl (by decide) (by decide) (by decide) rfl (by decide) (by decide +kernel) hfl (by decide) rfl rfl rfl (wlk0_at 8 rfl) hc, fun h => absurd h (by decide)⟩
    · cases hi
      exact ⟨f, wx_1 (E := 2) (k := 2) (kv := nI 2) (by decide) rfl hd1 [⟨0, 9, 12, 20⟩] ⟨0, 9, 15, 15⟩ [] rfl (by decide) (by decide) (by decide) rfl (by decide) (by decide +kernel) hfl (by decide) rfl rfl rfl (wlk0_at 8 rfl) hc, fun h => absurd h (by decide)⟩
    · cases hi
theorem wm_sign (hfl : l.stackTraces = false) {a0 : Int32} {a1 : Int32} {r : Int32 ⊕ Nat} {b : Int32} {t : Int32} (hc : Calls 9 99 (vR (9, 0, 0) :: [vI a0, vI a1]) hp (rsT rsI r hp1)) (hag : agr [1, 3] r b t) : ∃ f1, WrM l B D G L adK adV adM yL_sign cL_sign 5 [(0, 10, 13, 20), (0, 10, 17, 13)] [.ref B, .int a0, .int a1, .ref (B + 326)] hp f g t hp1 f1 g ∧ (t = 0 → f1 0 = b.toInt64) := by
  have hd1 : decode cL_sign 0 = .ok (.aload_n 3, 1) ∧ decode cL_sign 1 = .ok (.iconst 0, 1) ∧ decode cL_sign 2 = .ok (.aload_n 0, 1) ∧ decode cL_sign 3 = .ok (.iload_n 1, 1) ∧ decode cL_sign 4 = .ok (.iload_n 2, 1) ∧ decode cL_sign 5 = .ok (.invokevirtual 45, 3) := by decide +kernel
  rcases r with x | E
  · have hd2 : decode cL_sign 8 = .ok (.i2l, 1) ∧ decode cL_sign 9 = .ok (.lastore, 1) ∧ decode cL_sign 10 = .ok (.goto 11, 3) ∧ decode cL_sign 21 = .ok (.iconst 0, 1) ∧ decode cL_sign 22 = .ok (.ireturn, 1) := by decide +kernel
    obtain ⟨rfl, rfl⟩ := hag
    exact ⟨_, wr_2i (by decide) rfl hd1 hd2 (by decide) (by decide) rfl rfl rfl (wlk0_at 9 rfl) hc, fun _ => rfl⟩
  · obtain ⟨i, hi, rfl⟩ := hag
    rcases i with _ | _ | i
    · cases hi
      exact ⟨f, wx_2 (E := 1) (k := 1) (kv := nI 1) (by decide) rfl hd1 [] ⟨0, 10, 13, 20⟩ [⟨0, 10, 17, 13⟩] rfl (by decide) (by decide) (by decide) rfl (by decide) (by decide +kernel) hfl (by decide) rfl rfl rfl (wlk0_at 9 rfl) hc, fun h => absurd h (by decide)⟩
    · cases hi
      exact ⟨f, wx_2 (E := 3) (k := 2) (kv := nI 2) (by decide) rfl hd1 [⟨0, 10, 13, 20⟩] ⟨0, 10, 17, 13⟩ [] rfl (by decide) (by decide) (by decide) rfl (by decide) (by decide +kernel) hfl (by decide) rfl rfl rfl (wlk0_at 9 rfl) hc, fun h => absurd h (by decide)⟩
    · cases hi
theorem wm_darkness (hfl : l.stackTraces = false) {a0 : Int32} {a1 : Int32} {r : Int32 ⊕ Nat} {b : Int32} {t : Int32} (hc : Calls 9 100 (vR (9, 0, 0) :: [vI a0, vI a1]) hp (rsT rsI r hp1)) (hag : agr [1, 3] r b t) : ∃ f1, WrM l B D G L adK adV adM yL_darkness cL_darkness 5 [(0, 10, 13, 20), (0, 10, 17, 13)] [.ref B, .int a0, .int a1, .ref (B + 326)] hp f g t hp1 f1 g ∧ (t = 0 → f1 0 = b.toInt64) := by
  have hd1 : decode cL_darkness 0 = .ok (.aload_n 3, 1) ∧ decode cL_darkness 1 = .ok (.iconst 0, 1) ∧ decode cL_darkness 2 = .ok (.aload_n 0, 1) ∧ decode cL_darkness 3 = .ok (.iload_n 1, 1) ∧ decode cL_darkness 4 = .ok (.iload_n 2, 1) ∧ decode cL_darkness 5 = .ok (.invokevirtual 48, 3) := by decide +kernel
  rcases r with x | E
  · have hd2 : decode cL_darkness 8 = .ok (.i2l, 1) ∧ decode cL_darkness 9 = .ok (.lastore, 1) ∧ decode cL_darkness 10 = .ok (.goto 11, 3) ∧ decode cL_darkness 21 = .ok (.iconst 0, 1) ∧ decode cL_darkness 22 = .ok (.ireturn, 1) := by decide +kernel
    obtain ⟨rfl, rfl⟩ := hag
    exact ⟨_, wr_2i (by decide) rfl hd1 hd2 (by decide) (by decide) rfl rfl rfl (wlk0_at 10 rfl) hc, fun _ => rfl⟩
  · obtain ⟨i, hi, rfl⟩ := hag
    rcases i with _ | _ | i
    · cases hi
      exact ⟨f, wx_2 (E := 1) (k := 1) (kv := nI 1) (by decide) rfl hd1 [] ⟨0, 10, 13, 20⟩ [⟨0, 10, 17, 13⟩] rfl (by decide) (by decide) (by decide) rfl (by decide) (by decide +kernel) hfl (by decide) rfl rfl rfl (wlk0_at 10 rfl) hc, fun h => absurd h (by decide)⟩
    · cases hi
      exact ⟨f, wx_2 (E := 3) (k := 2) (kv := nI 2) (by decide) rfl hd1 [⟨0, 10, 13, 20⟩] ⟨0, 10, 17, 13⟩ [] rfl (by decide) (by decide) (by decide) rfl (by decide) (by decide +kernel) hfl (by decide) rfl rfl rfl (wlk0_at 10 rfl) hc, fun h => absurd h (by decide)⟩
    · cases hi
theorem wm_isStop (hfl : l.stackTraces = false) {a0 : Int32} {r : Int32 ⊕ Nat} {b : Int32} {t : Int32} (hc : Calls 9 101 (vR (9, 0, 0) :: [vI a0]) hp (rsT rsI r hp1)) (hag : agr [1, 3] r b t) : ∃ f1, WrM l B D G L adK adV adM yL_isStop cL_isStop 4 [(0, 16, 19, 20), (0, 16, 22, 13)] [.ref B, .int a0, .ref (B + 326)] hp f g t hp1 f1 g ∧ (t = 0 → f1 0 = bV b) := by
  have hd1 : decode cL_isStop 0 = .ok (.aload_n 2, 1) ∧ decode cL_isStop 1 = .ok (.iconst 0, 1) ∧ decode cL_isStop 2 = .ok (.aload_n 0, 1) ∧ decode cL_isStop 3 = .ok (.iload_n 1, 1) ∧ decode cL_isStop 4 = .ok (.invokevirtual 51, 3) := by decide +kernel
  rcases r with x | E
  · have hd2 : decode cL_isStop 7 = .ok (.ifCond .eq 7, 3) ∧ decode cL_isStop 10 = .ok (.lconst 1, 1) ∧ decode cL_isStop 11 = .ok (.goto 4, 3) ∧ decode cL_isStop 14 = .ok (.lconst 0, 1) ∧ decode cL_isStop 15 = .ok (.lastore, 1) ∧ decode cL_isStop 16 = .ok (.goto 9, 3) ∧ decode cL_isStop 25 = .ok (.iconst 0, 1) ∧ decode cL_isStop 26 = .ok (.ireturn, 1) := by decide +kernel
    obtain ⟨rfl, rfl⟩ := hag
    exact ⟨_, wr_1b (by decide) rfl hd1 hd2 (by decide) (by decide) rfl rfl rfl (wlk0_at 11 rfl) hc, fun _ => rfl⟩
  · obtain ⟨i, hi, rfl⟩ := hag
    rcases i with _ | _ | i
    · cases hi
      exact ⟨f, wx_1 (E := 1) (k := 1) (kv := nI 1) (by decide) rfl hd1 [] ⟨0, 16, 19, 20⟩ [⟨0, 16, 22, 13⟩] rfl (by decide) (by decide) (by decide) rfl (by decide) (by decide +kernel) hfl (by decide) rfl rfl rfl (wlk0_at 11 rfl) hc, fun h => absurd h (by decide)⟩
    · cases hi
      exact ⟨f, wx_1 (E := 3) (k := 2) (kv := nI 2) (by decide) rfl hd1 [⟨0, 16, 19, 20⟩] ⟨0, 16, 22, 13⟩ [] rfl (by decide) (by decide) (by decide) rfl (by decide) (by decide +kernel) hfl (by decide) rfl rfl rfl (wlk0_at 11 rfl) hc, fun h => absurd h (by decide)⟩
    · cases hi
theorem wm_reason (hfl : l.stackTraces = false) {r : Int32 ⊕ Nat} {b : Int32} {t : Int32} (hc : Calls 9 102 (vR (9, 0, 0) :: []) hp (rsT rsI r hp1)) (hag : agr [1] r b t) : ∃ f1, WrM l B D G L adK adV adM yL_reason cL_reason 3 [(0, 8, 11, 20)] [.ref B, .ref (B + 326)] hp f g t hp1 f1 g ∧ (t = 0 → f1 0 = b.toInt64) := by
  have hd1 : decode cL_reason 0 = .ok (.aload_n 1, 1) ∧ decode cL_reason 1 = .ok (.iconst 0, 1) ∧ decode cL_reason 2 = .ok (.aload_n 0, 1) ∧ decode cL_reason 3 = .ok (.invokevirtual 55, 3) := by decide +kernel
  rcases r with x | E
  · have hd2 : decode cL_reason 6 = .ok (.i2l, 1) ∧ decode cL_reason 7 = .ok (.lastore, 1) ∧ decode cL_reason 8 = .ok (.goto 6, 3) ∧ decode cL_reason 14 = .ok (.iconst 0, 1) ∧ decode cL_reason 15 = .ok (.ireturn, 1) := by decide +kernel
    obtain ⟨rfl, rfl⟩ := hag
    exact ⟨_, wr_0i (by decide) rfl hd1 hd2 (by decide) (by decide) rfl rfl rfl (wlk0_at 12 rfl) hc, fun _ => rfl⟩
  · obtain ⟨i, hi, rfl⟩ := hag
    rcases i with _ | i
    · cases hi
      exact ⟨f, wx_0 (E := 1) (k := 1) (kv := nI 1) (by decide) rfl hd1 [] ⟨0, 8, 11, 20⟩ [] rfl (by decide) (by decide) (by decide) rfl (by decide) (by decide +kernel) hfl (by decide) rfl rfl rfl (wlk0_at 12 rfl) hc, fun h => absurd h (by decide)⟩
    · cases hi
theorem wm_reasonAt (hfl : l.stackTraces = false) {r : Int32 ⊕ Nat} {b : Int32} {t : Int32} (hc : Calls 9 103 (vR (9, 0, 0) :: []) hp (rsT rsI r hp1)) (hag : agr [1] r b t) : ∃ f1, WrM l B D G L adK adV adM yL_reasonAt cL_reasonAt 3 [(0, 8, 11, 20)] [.ref B, .ref (B + 326)] hp f g t hp1 f1 g ∧ (t = 0 → f1 0 = b.toInt64) := by
  have hd1 : decode cL_reasonAt 0 = .ok (.aload_n 1, 1) ∧ decode cL_reasonAt 1 = .ok (.iconst 0, 1) ∧ decode cL_reasonAt 2 = .ok (.aload_n 0, 1) ∧ decode cL_reasonAt 3 = .ok (.invokevirtual 58, 3) := by decide +kernel
  rcases r with x | E
  · have hd2 : decode cL_reasonAt 6 = .ok (.i2l, 1) ∧ decode cL_reasonAt 7 = .ok (.lastore, 1) ∧ decode cL_reasonAt 8 = .ok (.goto 6, 3) ∧ decode cL_reasonAt 14 = .ok (.iconst 0, 1) ∧ decode cL_reasonAt 15 = .ok (.ireturn, 1) := by decide +kernel
    obtain ⟨rfl, rfl⟩ := hag
    exact ⟨_, wr_0i (by decide) rfl hd1 hd2 (by decide) (by decide) rfl rfl rfl (wlk0_at 13 rfl) hc, fun _ => rfl⟩
  · obtain ⟨i, hi, rfl⟩ := hag
    rcases i with _ | i
    · cases hi
      exact ⟨f, wx_0 (E := 1) (k := 1) (kv := nI 1) (by decide) rfl hd1 [] ⟨0, 8, 11, 20⟩ [] rfl (by decide) (by decide) (by decide) rfl (by decide) (by decide +kernel) hfl (by decide) rfl rfl rfl (wlk0_at 13 rfl) hc, fun h => absurd h (by decide)⟩
    · cases hi
theorem wm_lineLength (hfl : l.stackTraces = false) {a0 : Int32} {r : Int32 ⊕ Nat} {b : Int32} {t : Int32} (hc : Calls 9 104 (vR (9, 0, 0) :: [vI a0]) hp (rsT rsI r hp1)) (hag : agr [1, 3] r b t) : ∃ f1, WrM l B D G L adK adV adM yL_lineLength cL_lineLength 4 [(0, 9, 12, 20), (0, 9, 15, 13)] [.ref B, .int a0, .ref (B + 326)] hp f g t hp1 f1 g ∧ (t = 0 → f1 0 = b.toInt64) := by
  have hd1 : decode cL_lineLength 0 = .ok (.aload_n 2, 1) ∧ decode cL_lineLength 1 = .ok (.iconst 0, 1) ∧ decode cL_lineLength 2 = .ok (.aload_n 0, 1) ∧ decode cL_lineLength 3 = .ok (.iload_n 1, 1) ∧ decode cL_lineLength 4 = .ok (.invokevirtual 61, 3) := by decide +kernel
  rcases r with x | E
  · have hd2 : decode cL_lineLength 7 = .ok (.i2l, 1) ∧ decode cL_lineLength 8 = .ok (.lastore, 1) ∧ decode cL_lineLength 9 = .ok (.goto 9, 3) ∧ decode cL_lineLength 18 = .ok (.iconst 0, 1) ∧ decode cL_lineLength 19 = .ok (.ireturn, 1) := by decide +kernel
    obtain ⟨rfl, rfl⟩ := hag
    exact ⟨_, wr_1i (by decide) rfl hd1 hd2 (by decide) (by decide) rfl rfl rfl (wlk0_at 14 rfl) hc, fun _ => rfl⟩
  · obtain ⟨i, hi, rfl⟩ := hag
    rcases i with _ | _ | i
    · cases hi
      exact ⟨f, wx_1 (E := 1) (k := 1) (kv := nI 1) (by decide) rfl hd1 [] ⟨0, 9, 12, 20⟩ [⟨0, 9, 15, 13⟩] rfl (by decide) (by decide) (by decide) rfl (by decide) (by decide +kernel) hfl (by decide) rfl rfl rfl (wlk0_at 14 rfl) hc, fun h => absurd h (by decide)⟩
    · cases hi
      exact ⟨f, wx_1 (E := 3) (k := 2) (kv := nI 2) (by decide) rfl hd1 [⟨0, 9, 12, 20⟩] ⟨0, 9, 15, 13⟩ [] rfl (by decide) (by decide) (by decide) rfl (by decide) (by decide +kernel) hfl (by decide) rfl rfl rfl (wlk0_at 14 rfl) hc, fun h => absurd h (by decide)⟩
    · cases hi
theorem wm_words (hfl : l.stackTraces = false) {a0 : Int32} {r : Int32 ⊕ Nat} {b : Int32} {t : Int32} (hc : Calls 9 105 (vR (9, 0, 0) :: [vI a0]) hp (rsT rsI r hp1)) (hag : agr [1, 3] r b t) : ∃ f1, WrM l B D G L adK adV adM yL_words cL_words 4 [(0, 9, 12, 20), (0, 9, 15, 13)] [.ref B, .int a0, .ref (B + 326)] hp f g t hp1 f1 g ∧ (t = 0 → f1 0 = b.toInt64) := by
  have hd1 : decode cL_words 0 = .ok (.aload_n 2, 1) ∧ decode cL_words 1 = .ok (.iconst 0, 1) ∧ decode cL_words 2 = .ok (.aload_n 0, 1) ∧ decode cL_words 3 = .ok (.iload_n 1, 1) ∧ decode cL_words 4 = .ok (.invokevirtual 64, 3) := by decide +kernel
  rcases r with x | E
  · have hd2 : decode cL_words 7 = .ok (.i2l, 1) ∧ decode cL_words 8 = .ok (.lastore, 1) ∧ decode cL_words 9 = .ok (.goto 9, 3) ∧ decode cL_words 18 = .ok (.iconst 0, 1) ∧ decode cL_words 19 = .ok (.ireturn, 1) := by decide +kernel
    obtain ⟨rfl, rfl⟩ := hag
    exact ⟨_, wr_1i (by decide) rfl hd1 hd2 (by decide) (by decide) rfl rfl rfl (wlk0_at 15 rfl) hc, fun _ => rfl⟩
  · obtain ⟨i, hi, rfl⟩ := hag
    rcases i with _ | _ | i
    · cases hi
      exact ⟨f, wx_1 (E := 1) (k := 1) (kv := nI 1) (by decide) rfl hd1 [] ⟨0, 9, 12, 20⟩ [⟨0, 9, 15, 13⟩] rfl (by decide) (by decide) (by decide) rfl (by decide) (by decide +kernel) hfl (by decide) rfl rfl rfl (wlk0_at 15 rfl) hc, fun h => absurd h (by decide)⟩
    · cases hi
      exact ⟨f, wx_1 (E := 3) (k := 2) (kv := nI 2) (by decide) rfl hd1 [⟨0, 9, 12, 20⟩] ⟨0, 9, 15, 13⟩ [] rfl (by decide) (by decide) (by decide) rfl (by decide) (by decide +kernel) hfl (by decide) rfl rfl rfl (wlk0_at 15 rfl) hc, fun h => absurd h (by decide)⟩
    · cases hi
theorem wm_letters (hfl : l.stackTraces = false) {a0 : Int32} {r : Int32 ⊕ Nat} {b : Int32} {t : Int32} (hc : Calls 9 106 (vR (9, 0, 0) :: [vI a0]) hp (rsT rsI r hp1)) (hag : agr [1] r b t) : ∃ f1, WrM l B D G L adK adV adM yL_letters cL_letters 4 [(0, 9, 12, 20)] [.ref B, .int a0, .ref (B + 326)] hp f g t hp1 f1 g ∧ (t = 0 → f1 0 = b.toInt64) := by
  have hd1 : decode cL_letters 0 = .ok (.aload_n 2, 1) ∧ decode cL_letters 1 = .ok (.iconst 0, 1) ∧ decode cL_letters 2 = .ok (.aload_n 0, 1) ∧ decode cL_letters 3 = .ok (.iload_n 1, 1) ∧ decode cL_letters 4 = .ok (.invokevirtual 67, 3) := by decide +kernel
  rcases r with x | E
  · have hd2 : decode cL_letters 7 = .ok (.i2l, 1) ∧ decode cL_letters 8 = .ok (.lastore, 1) ∧ decode cL_letters 9 = .ok (.goto 6, 3) ∧ decode cL_letters 15 = .ok (.iconst 0, 1) ∧ decode cL_letters 16 = .ok (.ireturn, 1) := by decide +kernel
    obtain ⟨rfl, rfl⟩ := hag
    exact ⟨_, wr_1i (by decide) rfl hd1 hd2 (by decide) (by decide) rfl rfl rfl (wlk0_at 16 rfl) hc, fun _ => rfl⟩
  · obtain ⟨i, hi, rfl⟩ := hag
    rcases i with _ | i
    · cases hi
      exact ⟨f, wx_1 (E := 1) (k := 1) (kv := nI 1) (by decide) rfl hd1 [] ⟨0, 9, 12, 20⟩ [] rfl (by decide) (by decide) (by decide) rfl (by decide) (by decide +kernel) hfl (by decide) rfl rfl rfl (wlk0_at 16 rfl) hc, fun h => absurd h (by decide)⟩
    · cases hi
theorem wm_palest (hfl : l.stackTraces = false) {r : Int32 ⊕ Nat} {b : Int32} {t : Int32} (hc : Calls 9 107 (vR (9, 0, 0) :: []) hp (rsT rsI r hp1)) (hag : agr [1] r b t) : ∃ f1, WrM l B D G L adK adV adM yL_palest cL_palest 3 [(0, 8, 11, 20)] [.ref B, .ref (B + 326)] hp f g t hp1 f1 g ∧ (t = 0 → f1 0 = b.toInt64) := by
  have hd1 : decode cL_palest 0 = .ok (.aload_n 1, 1) ∧ decode cL_palest 1 = .ok (.iconst 0, 1) ∧ decode cL_palest 2 = .ok (.aload_n 0, 1) ∧ decode cL_palest 3 = .ok (.invokevirtual 70, 3) := by decide +kernel
  rcases r with x | E
  · have hd2 : decode cL_palest 6 = .ok (.i2l, 1) ∧ decode cL_palest 7 = .ok (.lastore, 1) ∧ decode cL_palest 8 = .ok (.goto 6, 3) ∧ decode cL_palest 14 = .ok (.iconst 0, 1) ∧ decode cL_palest 15 = .ok (.ireturn, 1) := by decide +kernel
    obtain ⟨rfl, rfl⟩ := hag
    exact ⟨_, wr_0i (by decide) rfl hd1 hd2 (by decide) (by decide) rfl rfl rfl (wlk0_at 17 rfl) hc, fun _ => rfl⟩
  · obtain ⟨i, hi, rfl⟩ := hag
    rcases i with _ | i
    · cases hi
      exact ⟨f, wx_0 (E := 1) (k := 1) (kv := nI 1) (by decide) rfl hd1 [] ⟨0, 8, 11, 20⟩ [] rfl (by decide) (by decide) (by decide) rfl (by decide) (by decide +kernel) hfl (by decide) rfl rfl rfl (wlk0_at 17 rfl) hc, fun h => absurd h (by decide)⟩
    · cases hi
theorem wm_meanDarkness (hfl : l.stackTraces = false) {r : UInt64 ⊕ Nat} {b : UInt64} {t : Int32} (hc : Calls 9 108 (vR (9, 0, 0) :: []) hp (rsT rsD r hp1)) (hag : agr [1] r b t) : ∃ g1, WrM l B D G L adK adV adM yL_meanDarkness cL_meanDarkness 3 [(0, 7, 10, 20)] [.ref B, .ref (B + 327)] hp f g t hp1 f g1 ∧ (t = 0 → g1 0 = b) := by
  have hd1 : decode cL_meanDarkness 0 = .ok (.aload_n 1, 1) ∧ decode cL_meanDarkness 1 = .ok (.iconst 0, 1) ∧ decode cL_meanDarkness 2 = .ok (.aload_n 0, 1) ∧ decode cL_meanDarkness 3 = .ok (.invokevirtual 73, 3) := by decide +kernel
  rcases r with x | E
  · have hd2 : decode cL_meanDarkness 6 = .ok (.dastore, 1) ∧ decode cL_meanDarkness 7 = .ok (.goto 6, 3) ∧ decode cL_meanDarkness 13 = .ok (.iconst 0, 1) ∧ decode cL_meanDarkness 14 = .ok (.ireturn, 1) := by decide +kernel
    obtain ⟨rfl, rfl⟩ := hag
    exact ⟨_, wr_0d (by decide) rfl hd1 hd2 (by decide) (by decide) rfl rfl rfl (wlk0_at 18 rfl) hc, fun _ => rfl⟩
  · obtain ⟨i, hi, rfl⟩ := hag
    rcases i with _ | i
    · cases hi
      exact ⟨g, wx_0 (E := 1) (k := 1) (kv := nI 1) (by decide) rfl hd1 [] ⟨0, 7, 10, 20⟩ [] rfl (by decide) (by decide) (by decide) rfl (by decide) (by decide +kernel) hfl (by decide) rfl rfl rfl (wlk0_at 18 rfl) hc, fun h => absurd h (by decide)⟩
    · cases hi
theorem wm_inkShare (hfl : l.stackTraces = false) {r : UInt32 ⊕ Nat} {b : UInt32} {t : Int32} (hc : Calls 9 109 (vR (9, 0, 0) :: []) hp (rsT rsF r hp1)) (hag : agr [1] r b t) (hne : ∀ x, r = .inl x → vf_n64 (FP.f2d x)) : ∃ g1, WrM l B D G L adK adV adM yL_inkShare cL_inkShare 3 [(0, 8, 11, 20)] [.ref B, .ref (B + 327)] hp f g t hp1 f g1 ∧ (t = 0 → g1 0 = FP.f2d b) := by
  have hd1 : decode cL_inkShare 0 = .ok (.aload_n 1, 1) ∧ decode cL_inkShare 1 = .ok (.iconst 0, 1) ∧ decode cL_inkShare 2 = .ok (.aload_n 0, 1) ∧ decode cL_inkShare 3 = .ok (.invokevirtual 77, 3) := by decide +kernel
  rcases r with x | E
  · have hd2 : decode cL_inkShare 6 = .ok (.f2d, 1) ∧ decode cL_inkShare 7 = .ok (.dastore, 1) ∧ decode cL_inkShare 8 = .ok (.goto 6, 3) ∧ decode cL_inkShare 14 = .ok (.iconst 0, 1) ∧ decode cL_inkShare 15 = .ok (.ireturn, 1) := by decide +kernel
    obtain ⟨rfl, rfl⟩ := hag
    exact ⟨_, wr_0f (by decide) rfl hd1 hd2 (by decide) (by decide) rfl rfl rfl (wlk0_at 19 rfl) hc (hne x rfl), fun _ => rfl⟩
  · obtain ⟨i, hi, rfl⟩ := hag
    rcases i with _ | i
    · cases hi
      exact ⟨g, wx_0 (E := 1) (k := 1) (kv := nI 1) (by decide) rfl hd1 [] ⟨0, 8, 11, 20⟩ [] rfl (by decide) (by decide) (by decide) rfl (by decide) (by decide +kernel) hfl (by decide) rfl rfl rfl (wlk0_at 19 rfl) hc, fun h => absurd h (by decide)⟩
    · cases hi
theorem wm_slowest (hfl : l.stackTraces = false) {r : Int32 ⊕ Nat} {b : Int32} {t : Int32} (hc : Calls 9 110 (vR (9, 0, 0) :: []) hp (rsT rsI r hp1)) (hag : agr [1] r b t) : ∃ f1, WrM l B D G L adK adV adM yL_slowest cL_slowest 3 [(0, 8, 11, 20)] [.ref B, .ref (B + 326)] hp f g t hp1 f1 g ∧ (t = 0 → f1 0 = b.toInt64) := by
  have hd1 : decode cL_slowest 0 = .ok (.aload_n 1, 1) ∧ decode cL_slowest 1 = .ok (.iconst 0, 1) ∧ decode cL_slowest 2 = .ok (.aload_n 0, 1) ∧ decode cL_slowest 3 = .ok (.invokevirtual 81, 3) := by decide +kernel
  rcases r with x | E
  · have hd2 : decode cL_slowest 6 = .ok (.i2l, 1) ∧ decode cL_slowest 7 = .ok (.lastore, 1) ∧ decode cL_slowest 8 = .ok (.goto 6, 3) ∧ decode cL_slowest 14 = .ok (.iconst 0, 1) ∧ decode cL_slowest 15 = .ok (.ireturn, 1) := by decide +kernel
    obtain ⟨rfl, rfl⟩ := hag
    exact ⟨_, wr_0i (by decide) rfl hd1 hd2 (by decide) (by decide) rfl rfl rfl (wlk0_at 20 rfl) hc, fun _ => rfl⟩
  · obtain ⟨i, hi, rfl⟩ := hag
    rcases i with _ | i
    · cases hi
      exact ⟨f, wx_0 (E := 1) (k := 1) (kv := nI 1) (by decide) rfl hd1 [] ⟨0, 8, 11, 20⟩ [] rfl (by decide) (by decide) (by decide) rfl (by decide) (by decide +kernel) hfl (by decide) rfl rfl rfl (wlk0_at 20 rfl) hc, fun h => absurd h (by decide)⟩
    · cases hi
theorem wm_nextStop (hfl : l.stackTraces = false) {a0 : Int32} {r : Int32 ⊕ Nat} {b : Int32} {t : Int32} (hc : Calls 9 111 (vR (9, 0, 0) :: [vI a0]) hp (rsT rsI r hp1)) (hag : agr [1, 3] r b t) : ∃ f1, WrM l B D G L adK adV adM yL_nextStop cL_nextStop 4 [(0, 9, 12, 20), (0, 9, 15, 13)] [.ref B, .int a0, .ref (B + 326)] hp f g t hp1 f1 g ∧ (t = 0 → f1 0 = b.toInt64) := by
  have hd1 : decode cL_nextStop 0 = .ok (.aload_n 2, 1) ∧ decode cL_nextStop 1 = .ok (.iconst 0, 1) ∧ decode cL_nextStop 2 = .ok (.aload_n 0, 1) ∧ decode cL_nextStop 3 = .ok (.iload_n 1, 1) ∧ decode cL_nextStop 4 = .ok (.invokevirtual 84, 3) := by decide +kernel
  rcases r with x | E
  · have hd2 : decode cL_nextStop 7 = .ok (.i2l, 1) ∧ decode cL_nextStop 8 = .ok (.lastore, 1) ∧ decode cL_nextStop 9 = .ok (.goto 9, 3) ∧ decode cL_nextStop 18 = .ok (.iconst 0, 1) ∧ decode cL_nextStop 19 = .ok (.ireturn, 1) := by decide +kernel
    obtain ⟨rfl, rfl⟩ := hag
    exact ⟨_, wr_1i (by decide) rfl hd1 hd2 (by decide) (by decide) rfl rfl rfl (wlk0_at 21 rfl) hc, fun _ => rfl⟩
  · obtain ⟨i, hi, rfl⟩ := hag
    rcases i with _ | _ | i
    · cases hi
      exact ⟨f, wx_1 (E := 1) (k := 1) (kv := nI 1) (by decide) rfl hd1 [] ⟨0, 9, 12, 20⟩ [⟨0, 9, 15, 13⟩] rfl (by decide) (by decide) (by decide) rfl (by decide) (by decide +kernel) hfl (by decide) rfl rfl rfl (wlk0_at 21 rfl) hc, fun h => absurd h (by decide)⟩
    · cases hi
      exact ⟨f, wx_1 (E := 3) (k := 2) (kv := nI 2) (by decide) rfl hd1 [⟨0, 9, 12, 20⟩] ⟨0, 9, 15, 13⟩ [] rfl (by decide) (by decide) (by decide) rfl (by decide) (by decide +kernel) hfl (by decide) rfl rfl rfl (wlk0_at 21 rfl) hc, fun h => absurd h (by decide)⟩
    · cases hi
theorem wm_bellIn (hfl : l.stackTraces = false) {r : Int32 ⊕ Nat} {b : Int32} {t : Int32} (hc : Calls 9 112 (vR (9, 0, 0) :: []) hp (rsT rsI r hp1)) (hag : agr [1] r b t) : ∃ f1, WrM l B D G L adK adV adM yL_bellIn cL_bellIn 3 [(0, 8, 11, 20)] [.ref B, .ref (B + 326)] hp f g t hp1 f1 g ∧ (t = 0 → f1 0 = b.toInt64) := by
  have hd1 : decode cL_bellIn 0 = .ok (.aload_n 1, 1) ∧ decode cL_bellIn 1 = .ok (.iconst 0, 1) ∧ decode cL_bellIn 2 = .ok (.aload_n 0, 1) ∧ decode cL_bellIn 3 = .ok (.invokevirtual 87, 3) := by decide +kernel
  rcases r with x | E
  · have hd2 : decode cL_bellIn 6 = .ok (.i2l, 1) ∧ decode cL_bellIn 7 = .ok (.lastore, 1) ∧ decode cL_bellIn 8 = .ok (.goto 6, 3) ∧ decode cL_bellIn 14 = .ok (.iconst 0, 1) ∧ decode cL_bellIn 15 = .ok (.ireturn, 1) := by decide +kernel
    obtain ⟨rfl, rfl⟩ := hag
    exact ⟨_, wr_0i (by decide) rfl hd1 hd2 (by decide) (by decide) rfl rfl rfl (wlk0_at 22 rfl) hc, fun _ => rfl⟩
  · obtain ⟨i, hi, rfl⟩ := hag
    rcases i with _ | i
    · cases hi
      exact ⟨f, wx_0 (E := 1) (k := 1) (kv := nI 1) (by decide) rfl hd1 [] ⟨0, 8, 11, 20⟩ [] rfl (by decide) (by decide) (by decide) rfl (by decide) (by decide +kernel) hfl (by decide) rfl rfl rfl (wlk0_at 22 rfl) hc, fun h => absurd h (by decide)⟩
    · cases hi
theorem wm_wouldBe (hfl : l.stackTraces = false) {a0 : Int32} {a1 : Int32} {r : Int32 ⊕ Nat} {b : Int32} {t : Int32} (hc : Calls 9 113 (vR (9, 0, 0) :: [vI a0, vI a1]) hp (rsT rsI r hp1)) (hag : agr [1, 3] r b t) : ∃ f1, WrM l B D G L adK adV adM yL_wouldBe cL_wouldBe 5 [(0, 10, 13, 20), (0, 10, 17, 13)] [.ref B, .int a0, .int a1, .ref (B + 326)] hp f g t hp1 f1 g ∧ (t = 0 → f1 0 = b.toInt64) := by
  have hd1 : decode cL_wouldBe 0 = .ok (.aload_n 3, 1) ∧ decode cL_wouldBe 1 = .ok (.iconst 0, 1) ∧ decode cL_wouldBe 2 = .ok (.aload_n 0, 1) ∧ decode cL_wouldBe 3 = .ok (.iload_n 1, 1) ∧ decode cL_wouldBe 4 = .ok (.iload_n 2, 1) ∧ decode cL_wouldBe 5 = .ok (.invokevirtual 90, 3) := by decide +kernel
  rcases r with x | E
  · have hd2 : decode cL_wouldBe 8 = .ok (.i2l, 1) ∧ decode cL_wouldBe 9 = .ok (.lastore, 1) ∧ decode cL_wouldBe 10 = .ok (.goto 11, 3) ∧ decode cL_wouldBe 21 = .ok (.iconst 0, 1) ∧ decode cL_wouldBe 22 = .ok (.ireturn, 1) := by decide +kernel
    obtain ⟨rfl, rfl⟩ := hag
    exact ⟨_, wr_2i (by decide) rfl hd1 hd2 (by decide) (by decide) rfl rfl rfl (wlk0_at 23 rfl) hc, fun _ => rfl⟩
  · obtain ⟨i, hi, rfl⟩ := hag
    rcases i with _ | _ | i
    · cases hi
      exact ⟨f, wx_2 (E := 1) (k := 1) (kv := nI 1) (by decide) rfl hd1 [] ⟨0, 10, 13, 20⟩ [⟨0, 10, 17, 13⟩] rfl (by decide) (by decide) (by decide) rfl (by decide) (by decide +kernel) hfl (by decide) rfl rfl rfl (wlk0_at 23 rfl) hc, fun h => absurd h (by decide)⟩
    · cases hi
      exact ⟨f, wx_2 (E := 3) (k := 2) (kv := nI 2) (by decide) rfl hd1 [⟨0, 10, 13, 20⟩] ⟨0, 10, 17, 13⟩ [] rfl (by decide) (by decide) (by decide) rfl (by decide) (by decide +kernel) hfl (by decide) rfl rfl rfl (wlk0_at 23 rfl) hc, fun h => absurd h (by decide)⟩
    · cases hi
end WMM
