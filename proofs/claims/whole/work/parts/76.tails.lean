/-! ===== the end of a case: what the class answered is compared ===== -/
section LTL
variable {p : Program} {l : Launch} {e : Env} {R : Room} {s : State} {m : MethodId} {sargs : Array Value} {below : List Frame} {meth : Method} {c : Code} {Q : State → Prop}
variable {b B Ls pc cells slots i : Nat} {xs : Nat → Int32} {D : va_G} {G : GG} {L : GL} {adK adV adM : Nat → Nat} {hp : HP} {f : Nat → Int64} {g : Nat → UInt64} {H : Heap} {locs : List Loc} {sl : Array Slot} {rest : List Value} {t : Int32}
theorem thr_link : Jvm.Cond.methodLink RL 180 (nameOf 157) ∈ lwG := by
  have key : (decide (Jvm.Cond.methodLink RL 180 (nameOf 157) ∈ lw_tbl) && goodWord (Jvm.Cond.methodLink RL 180 (nameOf 157))) = true := by decide +kernel
  simp only [Bool.and_eq_true, decide_eq_true_eq] at key
  exact List.mem_filter.mpr key
/-- what the reference has thrown is what the method answered -/
theorem tl_0 {t0 : Nat} (hX : LawX p l s m meth c R sargs b Ls xs B D G L adK adV adM) (hlsz : sl.size = 9) (h2 : sl[2]? = some (.val (.ref (B + 312)))) (h6 : sl[6]? = some (.val (.int t))) (ht : t = hp (10, 0, 0) 0) (hP : LwS B D G L hp f g H) (hS : va_S (ab B) s.heap H locs) (hcells : cells ≤ R.cells) (hslots : slots ≤ R.slots)
    (hd : decode code t0 = .ok (.aload_n 2, 1) ∧ decode code (t0 + 1) = .ok (.invokevirtual 180, 3) ∧ decode code (t0 + 4) = .ok (.iload 6, 2) ∧ decode code (t0 + 6) = .ok (.if_icmp .eq 5, 3))
    (kk : ∀ H locs, LwS B D G L hp f g H → va_S (ab B) s.heap H locs → W p l e R s m sargs below meth c H locs cells slots Q (F0 m (t0 + 11) sl [])) : W p l e R s m sargs below meth c H locs cells slots Q (F0 m t0 sl []) := by
  have hX2 := hX
  obtain ⟨hx, hb, hml, hts, hown, hE, hfl, hSc, hbl, hbB, hL, hRf, hRl⟩ := hX
  obtain ⟨d0, d1, d2, d3⟩ := hd
  refine lv_aload_n hx hb d0 rfl h2 ?_
  refine W.eq (g2 := F0 m (t0 + 1) sl ((([] : List VL).map (toV B adK)).reverse ++ .ref (B + 312) :: [])) rfl ?_
  refine lc_mod (μ := 157) (as := []) (v := some (vI (hp (10, 0, 0) 0))) (hp1 := hp) hX2 hlsz (by decide) (by decide) (by decide) (by decide) (fun w hw => absurd hw List.not_mem_nil) (exX10_thrown (d := 9) rfl) thr_link (Nat.le_of_ble_eq_true rfl) hP hS hcells hslots d1 (fun H locs hP hS => ?_)
  refine lv_iload hx hb d2 h6 ?_
  refine lv_icmp_eq (tgt := t0 + 11) hx hb d3 (by omega) (fun _ => kk H locs hP hS) (fun h => absurd ?_ h)
  rw [ht]
theorem tl_go {t0 : Nat} {rr : List (Nat × Value)} (hX : LawX p l s m meth c R sargs b Ls xs B D G L adK adV adM) {off : Int} (hl : lv_has sl 9 rr) (hr : ∀ q ∈ lwL b B i, q ∈ rr) (ho : (t0 : Int) + off = 3098) (hd : decode code t0 = .ok (.goto off, 3)) (hP : LwS B D G L hp f g H) (hS : va_S (ab B) s.heap H locs)
    (kk : ∀ sl H locs, lv_has sl 9 (lwL b B i) → LwS B D G L hp f g H → va_S (ab B) s.heap H locs → W p l e R s m sargs below meth c H locs cells slots Q (F0 m 3098 sl [])) : W p l e R s m sargs below meth c H locs cells slots Q (F0 m t0 sl []) := by
  obtain ⟨hx, hb, hml, hts, hown, hE, hfl, hSc, hbl, hbB, hL, hRf, hRl⟩ := hX
  exact lv_goto (tgt := 3098) hx hb hd ho (kk sl H locs (lv_part hl hr) hP hS)
theorem mem2 {α : Type} {x y : α} {l : List α} : ∀ q ∈ l, q ∈ x :: y :: l := fun _ h => List.mem_cons_of_mem _ (List.mem_cons_of_mem _ h)
/-- an int -/
theorem tl_i {t0 : Nat} {bb : Int32} {off : Int} (hX : LawX p l s m meth c R sargs b Ls xs B D G L adK adV adM) (hl : lv_has sl 9 ((7, .int bb) :: (6, .int t) :: lwL b B i)) (ht : t = hp (10, 0, 0) 0) (hf : t = 0 → f 0 = bb.toInt64) (hP : LwS B D G L hp f g H) (hS : va_S (ab B) s.heap H locs) (hcells : cells ≤ R.cells) (hslots : slots ≤ R.slots) (ho : ((t0 + 28 : Nat) : Int) + off = 3098)
    (hd : decode code t0 = .ok (.aload_n 2, 1) ∧ decode code (t0 + 1) = .ok (.invokevirtual 180, 3) ∧ decode code (t0 + 4) = .ok (.iload 6, 2) ∧ decode code (t0 + 6) = .ok (.if_icmp .eq 5, 3))
    (hd2 : decode code (t0 + 11) = .ok (.iload 6, 2) ∧ decode code (t0 + 13) = .ok (.ifCond .ne 15, 3) ∧ decode code (t0 + 16) = .ok (.aload_n 3, 1) ∧ decode code (t0 + 17) = .ok (.iconst 0, 1) ∧ decode code (t0 + 18) = .ok (.laload, 1) ∧ decode code (t0 + 19) = .ok (.iload 7, 2) ∧ decode code (t0 + 21) = .ok (.i2l, 1) ∧ decode code (t0 + 22) = .ok (.lcmp, 1) ∧ decode code (t0 + 23) = .ok (.ifCond .eq 5, 3) ∧ decode code (t0 + 28) = .ok (.goto off, 3))
    (kk : ∀ sl H locs, lv_has sl 9 (lwL b B i) → LwS B D G L hp f g H → va_S (ab B) s.heap H locs → W p l e R s m sargs below meth c H locs cells slots Q (F0 m 3098 sl [])) : W p l e R s m sargs below meth c H locs cells slots Q (F0 m t0 sl []) := by
  refine tl_0 hX hl.1 (lv_at hl 4 rfl) (lv_at hl 1 rfl) ht hP hS hcells hslots hd (fun H locs hP hS => ?_)
  have hX2 := hX
  obtain ⟨hx, hb, hml, hts, hown, hE, hfl, hSc, hbl, hbB, hL, hRf, hRl⟩ := hX
  obtain ⟨d0, d1, d2, d3, d4, d5, d6, d7, d8, d9⟩ := hd2
  refine lv_iload hx hb d0 (lv_at hl 1 rfl) ?_
  refine lv_if_ne (tgt := t0 + 28) hx hb d1 (by omega) (fun h => ?_) (fun h => ?_)
  · exact tl_go hX2 hl mem2 ho d9 hP hS kk
  · refine lv_aload_n hx hb d2 rfl (lv_at hl 5 rfl) ?_
    refine lv_iconst (v := 0) hx hb d3 rfl ?_
    refine va_lald hx hb hE.1 hP 326 3 (PW_at (by omega)) rfl (by unfold vp_in; decide) d4 ?_
    rw [show f (0 : Int32).toNatClampNeg = bb.toInt64 from hf h]
    refine lv_iload hx hb d5 (lv_at hl 0 rfl) ?_
    refine lv_i2l (v := bb.toInt64) hx hb d6 rfl ?_
    refine W.lcmp hx hb d7 ?_
    rw [lg_cmp_s]
    refine lv_if_eq (tgt := t0 + 28) hx hb d8 (by omega) (fun _ => ?_) (fun h => absurd rfl h)
    exact tl_go hX2 hl mem2 ho d9 hP hS kk
/-- a truth value -/
theorem tl_b {t0 : Nat} {bb : Int32} {off : Int} (hX : LawX p l s m meth c R sargs b Ls xs B D G L adK adV adM) (hl : lv_has sl 9 ((7, .int bb) :: (6, .int t) :: lwL b B i)) (ht : t = hp (10, 0, 0) 0) (hf : t = 0 → f 0 = bV bb) (hP : LwS B D G L hp f g H) (hS : va_S (ab B) s.heap H locs) (hcells : cells ≤ R.cells) (hslots : slots ≤ R.slots) (ho : ((t0 + 35 : Nat) : Int) + off = 3098)
    (hd : decode code t0 = .ok (.aload_n 2, 1) ∧ decode code (t0 + 1) = .ok (.invokevirtual 180, 3) ∧ decode code (t0 + 4) = .ok (.iload 6, 2) ∧ decode code (t0 + 6) = .ok (.if_icmp .eq 5, 3))
    (hd2 : decode code (t0 + 11) = .ok (.iload 6, 2) ∧ decode code (t0 + 13) = .ok (.ifCond .ne 22, 3) ∧ decode code (t0 + 16) = .ok (.aload_n 3, 1) ∧ decode code (t0 + 17) = .ok (.iconst 0, 1) ∧ decode code (t0 + 18) = .ok (.laload, 1) ∧ decode code (t0 + 19) = .ok (.iload 7, 2))
    (hd3 : decode code (t0 + 21) = .ok (.ifCond .eq 7, 3) ∧ decode code (t0 + 24) = .ok (.lconst 1, 1) ∧ decode code (t0 + 25) = .ok (.goto 4, 3) ∧ decode code (t0 + 28) = .ok (.lconst 0, 1) ∧ decode code (t0 + 29) = .ok (.lcmp, 1) ∧ decode code (t0 + 30) = .ok (.ifCond .eq 5, 3) ∧ decode code (t0 + 35) = .ok (.goto off, 3))
    (kk : ∀ sl H locs, lv_has sl 9 (lwL b B i) → LwS B D G L hp f g H → va_S (ab B) s.heap H locs → W p l e R s m sargs below meth c H locs cells slots Q (F0 m 3098 sl [])) : W p l e R s m sargs below meth c H locs cells slots Q (F0 m t0 sl []) := by
  refine tl_0 hX hl.1 (lv_at hl 4 rfl) (lv_at hl 1 rfl) ht hP hS hcells hslots hd (fun H locs hP hS => ?_)
  have hX2 := hX
  obtain ⟨hx, hb, hml, hts, hown, hE, hfl, hSc, hbl, hbB, hL, hRf, hRl⟩ := hX
  obtain ⟨d0, d1, d2, d3, d4, d5⟩ := hd2
  obtain ⟨e0, e1, e2, e3, e4, e5, e6⟩ := hd3
  refine lv_iload hx hb d0 (lv_at hl 1 rfl) ?_
  refine lv_if_ne (tgt := t0 + 35) hx hb d1 (by omega) (fun h => ?_) (fun h => ?_)
  · exact tl_go hX2 hl mem2 ho e6 hP hS kk
  · refine lv_aload_n hx hb d2 rfl (lv_at hl 5 rfl) ?_
    refine lv_iconst (v := 0) hx hb d3 rfl ?_
    refine va_lald hx hb hE.1 hP 326 3 (PW_at (by omega)) rfl (by unfold vp_in; decide) d4 ?_
    rw [show f (0 : Int32).toNatClampNeg = bV bb from hf h]
    refine lv_iload hx hb d5 (lv_at hl 0 rfl) ?_
    have fin : W p l e R s m sargs below meth c H locs cells slots Q (F0 m (t0 + 29) sl [.long (bV bb), .long (bV bb)]) := by
      refine W.lcmp hx hb e4 ?_
      rw [lg_cmp_s]
      refine lv_if_eq (tgt := t0 + 35) hx hb e5 (by omega) (fun _ => ?_) (fun h => absurd rfl h)
      exact tl_go hX2 hl mem2 ho e6 hP hS kk
    refine lv_if_eq (tgt := t0 + 28) hx hb e0 (by omega) (fun h => ?_) (fun h => ?_)
    · refine lv_lconst (v := bV bb) hx hb e3 (by unfold bV; rw [if_pos h]; rfl) ?_
      exact fin
    · refine lv_lconst (v := bV bb) hx hb e1 (by unfold bV; rw [if_neg h]; rfl) ?_
      refine lv_goto (tgt := t0 + 29) hx hb e2 (by omega) ?_
      exact fin
/-- a double -/
theorem tl_d {t0 : Nat} {bb : UInt64} {off : Int} {op : CmpOp} (hX : LawX p l s m meth c R sargs b Ls xs B D G L adK adV adM) (hl : lv_has sl 9 ((7, .double bb) :: (6, .int t) :: lwL b B i)) (ht : t = hp (10, 0, 0) 0) (hf : t = 0 → g 0 = bb ∧ vf_n64 bb) (hP : LwS B D G L hp f g H) (hS : va_S (ab B) s.heap H locs) (hcells : cells ≤ R.cells) (hslots : slots ≤ R.slots) (ho : ((t0 + 48 : Nat) : Int) + off = 3098)
    (hd : decode code t0 = .ok (.aload_n 2, 1) ∧ decode code (t0 + 1) = .ok (.invokevirtual 180, 3) ∧ decode code (t0 + 4) = .ok (.iload 6, 2) ∧ decode code (t0 + 6) = .ok (.if_icmp .eq 5, 3))
    (hd2 : decode code (t0 + 11) = .ok (.iload 6, 2) ∧ decode code (t0 + 13) = .ok (.ifCond .ne 35, 3) ∧ decode code (t0 + 16) = .ok (.aload 4, 2) ∧ decode code (t0 + 18) = .ok (.iconst 0, 1) ∧ decode code (t0 + 19) = .ok (.daload, 1) ∧ decode code (t0 + 20) = .ok (.dload 7, 2) ∧ decode code (t0 + 22) = .ok (.dcmp op, 1) ∧ decode code (t0 + 23) = .ok (.ifCond .eq 25, 3) ∧ decode code (t0 + 48) = .ok (.goto off, 3))
    (kk : ∀ sl H locs, lv_has sl 9 (lwL b B i) → LwS B D G L hp f g H → va_S (ab B) s.heap H locs → W p l e R s m sargs below meth c H locs cells slots Q (F0 m 3098 sl [])) : W p l e R s m sargs below meth c H locs cells slots Q (F0 m t0 sl []) := by
  refine tl_0 hX hl.1 (lv_at hl 4 rfl) (lv_at hl 1 rfl) ht hP hS hcells hslots hd (fun H locs hP hS => ?_)
  have hX2 := hX
  obtain ⟨hx, hb, hml, hts, hown, hE, hfl, hSc, hbl, hbB, hL, hRf, hRl⟩ := hX
  obtain ⟨d0, d1, d2, d3, d4, d5, d6, d7, d8⟩ := hd2
  refine lv_iload hx hb d0 (lv_at hl 1 rfl) ?_
  refine lv_if_ne (tgt := t0 + 48) hx hb d1 (by omega) (fun h => ?_) (fun h => ?_)
  · exact tl_go hX2 hl mem2 ho d8 hP hS kk
  · obtain ⟨hg, hn⟩ := hf h
    refine lv_aload hx hb d2 (lv_at hl 6 rfl) ?_
    refine lv_iconst (v := 0) hx hb d3 rfl ?_
    refine va_dald hx hb hE.1 hP 327 4 (PW_at (by omega)) rfl (by unfold vp_in; decide) d4 ?_
    rw [show g (0 : Int32).toNatClampNeg = bb from hg]
    refine lv_dload hx hb d5 (lv_at hl 0 rfl) ?_
    refine lv_dcmp hx hb d6 ?_
    rw [nan_b hn]
    refine lv_if_eq (tgt := t0 + 48) hx hb d7 (by omega) (fun _ => ?_) (fun h => absurd rfl h)
    exact tl_go hX2 hl mem2 ho d8 hP hS kk
/-- a float -/
theorem tl_f {t0 : Nat} {bb : UInt32} {off : Int} {op : CmpOp} (hX : LawX p l s m meth c R sargs b Ls xs B D G L adK adV adM) (hl : lv_has sl 9 ((7, .float bb) :: (6, .int t) :: lwL b B i)) (ht : t = hp (10, 0, 0) 0) (hf : t = 0 → g 0 = FP.f2d bb ∧ vf_n64 (FP.f2d bb)) (hP : LwS B D G L hp f g H) (hS : va_S (ab B) s.heap H locs) (hcells : cells ≤ R.cells) (hslots : slots ≤ R.slots) (ho : ((t0 + 49 : Nat) : Int) + off = 3098)
    (hd : decode code t0 = .ok (.aload_n 2, 1) ∧ decode code (t0 + 1) = .ok (.invokevirtual 180, 3) ∧ decode code (t0 + 4) = .ok (.iload 6, 2) ∧ decode code (t0 + 6) = .ok (.if_icmp .eq 5, 3))
    (hd2 : decode code (t0 + 11) = .ok (.iload 6, 2) ∧ decode code (t0 + 13) = .ok (.ifCond .ne 36, 3) ∧ decode code (t0 + 16) = .ok (.aload 4, 2) ∧ decode code (t0 + 18) = .ok (.iconst 0, 1) ∧ decode code (t0 + 19) = .ok (.daload, 1) ∧ decode code (t0 + 20) = .ok (.fload 7, 2) ∧ decode code (t0 + 22) = .ok (.f2d, 1) ∧ decode code (t0 + 23) = .ok (.dcmp op, 1) ∧ decode code (t0 + 24) = .ok (.ifCond .eq 25, 3) ∧ decode code (t0 + 49) = .ok (.goto off, 3))
    (kk : ∀ sl H locs, lv_has sl 9 (lwL b B i) → LwS B D G L hp f g H → va_S (ab B) s.heap H locs → W p l e R s m sargs below meth c H locs cells slots Q (F0 m 3098 sl [])) : W p l e R s m sargs below meth c H locs cells slots Q (F0 m t0 sl []) := by
  refine tl_0 hX hl.1 (lv_at hl 4 rfl) (lv_at hl 1 rfl) ht hP hS hcells hslots hd (fun H locs hP hS => ?_)
  have hX2 := hX
  obtain ⟨hx, hb, hml, hts, hown, hE, hfl, hSc, hbl, hbB, hL, hRf, hRl⟩ := hX
  obtain ⟨d0, d1, d2, d3, d4, d5, d6, d7, d8, d9⟩ := hd2
  refine lv_iload hx hb d0 (lv_at hl 1 rfl) ?_
  refine lv_if_ne (tgt := t0 + 49) hx hb d1 (by omega) (fun h => ?_) (fun h => ?_)
  · exact tl_go hX2 hl mem2 ho d9 hP hS kk
  · obtain ⟨hg, hn⟩ := hf h
    refine lv_aload hx hb d2 (lv_at hl 6 rfl) ?_
    refine lv_iconst (v := 0) hx hb d3 rfl ?_
    refine va_dald hx hb hE.1 hP 327 4 (PW_at (by omega)) rfl (by unfold vp_in; decide) d4 ?_
    rw [show g (0 : Int32).toNatClampNeg = FP.f2d bb from hg]
    refine lv_fload hx hb d5 (lv_at hl 0 rfl) ?_
    refine lv_f2d hx hb d6 hn ?_
    refine lv_dcmp hx hb d7 ?_
    rw [nan_b hn]
    refine lv_if_eq (tgt := t0 + 49) hx hb d8 (by omega) (fun _ => ?_) (fun h => absurd rfl h)
    exact tl_go hX2 hl mem2 ho d9 hP hS kk
end LTL
