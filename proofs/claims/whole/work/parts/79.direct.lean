/-! ===== the cases without a method of the law's own ===== -/
section LCB
variable {p : Program} {l : Launch} {e : Env} {R : Room} {s : State} {m : MethodId} {sargs : Array Value} {below : List Frame} {meth : Method} {c : Code} {Q : State → Prop}
variable {b B Ls pc cells slots i tb : Nat} {xs : Nat → Int32} {D : va_G} {G : GG} {L : GL} {adK adV adM : Nat → Nat} {hp : HP} {f : Nat → Int64} {g : Nat → UInt64} {H : Heap} {locs : List Loc} {sl : Array Slot}
theorem cd_0 {p0 ic im μc μm : Nat} {off : Int} {C : HP → Option (Int32 × HP)} {M : HP → Option (Int32 × HP)} (hX : LawX p l s m meth c R sargs b Ls xs B D G L adK adV adM) (hl : lv_has sl 9 (lwL b B i)) (hP : LwS B D G L hp f g H) (hS : va_S (ab B) s.heap H locs) (hi : i + 6 ≤ Ls) (hcells : cells + 1 ≤ R.cells) (hslots : slots + 6 ≤ R.slots) (htb : tb < 500000000) (hI : Inv tb hp hp) (hop : Op agp C M)
    (hC : ∀ r hp1, C hp = some (r, hp1) → Calls 9 μc (vR (9, 0, 0) :: []) hp (.inl (some (vI r)), hp1)) (hM : ∀ hp1 bb hp2, M hp1 = some (bb, hp2) → Calls 9 μm (vR (10, 0, 0) :: []) hp1 (.inl (some (vI bb)), hp2))
    (hw : ([.methodLink RL ic (nameOf μc), .methodLink RL im (nameOf μm)] : List Jvm.Cond).all (fun w => decide (w ∈ lw_tbl) && goodWord w) = true) (hμ : μm < 290) (hst : (mus μm).2.1 = false) (hcl : clOf μm = 10) (hn : (mus μm).2.2 = 0) (hμ2 : μc < 290) (hst2 : (mus μc).2.1 = false) (hcl2 : clOf μc = 9) (hn2 : (mus μc).2.2 = 0)
    (h0 : decode code p0 = .ok (.aload_n 1, 1)) (h1 : decode code (p0 + 1) = .ok (.invokevirtual ic, 3) ∧ decode code (p0 + 4) = .ok (.aload_n 2, 1)) (h2 : decode code (p0 + 5) = .ok (.invokevirtual im, 3) ∧ decode code (p0 + 8) = .ok (.if_icmp .eq off, 3)) (ho : ((p0 + 8 : Nat) : Int) + off = 3098) (kk : CKq p l e R s m sargs below meth c Q b B i tb cells slots D G L) : W p l e R s m sargs below meth c H locs cells slots Q (F0 m p0 sl []) := by
  obtain ⟨r, hp1, bb, hp2, e1, e2, hag, hI2⟩ := hop.join htb hI
  have hCc := hC r hp1 e1
  have hMc := hM hp1 bb hp2 e2
  have hX2 := hX
  obtain ⟨hx, hb, hml, hts, hown, hE, hfl, hSc, hbl, hbB, hL, hRf, hRl⟩ := hX2
  obtain ⟨w1, w2⟩ := h1
  obtain ⟨v1, v2⟩ := h2
  simp only [List.all_cons, List.all_nil, Bool.and_eq_true, decide_eq_true_eq] at hw
  refine lv_aload_n hx hb h0 rfl (lv_at hl 1 rfl) ?_
  refine W.eq (g2 := F0 m (p0 + 1) sl ((([] : List VL).map (toV B adK)).reverse ++ .ref B :: [])) rfl ?_
  refine lc_cls (as := []) hX hl.1 hμ2 hst2 hcl2 hn2.symm (fun w hw => absurd hw List.not_mem_nil) hCc (List.mem_filter.mpr hw.1) (Nat.le_of_ble_eq_true rfl) hP hS (by omega) (by omega) w1 (fun H locs hP hS => ?_)
  refine lv_aload_n hx hb w2 rfl (lv_at hl 2 rfl) ?_
  refine W.eq (g2 := F0 m (p0 + 5) sl ((([] : List VL).map (toV B adK)).reverse ++ .ref (B + 312) :: [.int r])) rfl ?_
  refine lc_mod (as := []) hX hl.1 hμ hst hcl hn.symm (fun w hw => absurd hw List.not_mem_nil) hMc (List.mem_filter.mpr hw.2.1) (Nat.le_of_ble_eq_true rfl) hP hS (by omega) (by omega) v1 (fun H locs hP hS => ?_)
  have hag : r = bb := hag
  refine lv_icmp_eq (tgt := 3098) hx hb v2 ho (fun _ => ?_) (fun h => absurd hag h)
  exact W.widen (k := cells + 1) (n := slots + 6) (by omega) (by omega) (kk sl H locs hp2 f g hl hP hS hI2)
theorem cd_5 {p0 ic im μc μm : Nat} {off : Int} {C : HP → Option (Int32 × HP)} {M : HP → Option (Int32 × HP)} (hX : LawX p l s m meth c R sargs b Ls xs B D G L adK adV adM) (hl : lv_has sl 9 (lwL b B i)) (hP : LwS B D G L hp f g H) (hS : va_S (ab B) s.heap H locs) (hi : i + 6 ≤ Ls) (hcells : cells + 1 ≤ R.cells) (hslots : slots + 6 ≤ R.slots) (htb : tb < 500000000) (hI : Inv tb hp hp) (hop : Op agp C M)
    (hC : ∀ r hp1, C hp = some (r, hp1) → Calls 9 μc (vR (9, 0, 0) :: [vI (xs (i + 1)), vI (xs (i + 2)), vI (xs (i + 3)), vI (xs (i + 4)), vI (xs (i + 5))]) hp (.inl (some (vI r)), hp1)) (hM : ∀ hp1 bb hp2, M hp1 = some (bb, hp2) → Calls 9 μm (vR (10, 0, 0) :: [vI (xs (i + 1)), vI (xs (i + 2)), vI (xs (i + 3)), vI (xs (i + 4)), vI (xs (i + 5))]) hp1 (.inl (some (vI bb)), hp2))
    (hw : ([.methodLink RL ic (nameOf μc), .methodLink RL im (nameOf μm)] : List Jvm.Cond).all (fun w => decide (w ∈ lw_tbl) && goodWord w) = true) (hμ : μm < 290) (hst : (mus μm).2.1 = false) (hcl : clOf μm = 10) (hn : (mus μm).2.2 = 5) (hμ2 : μc < 290) (hst2 : (mus μc).2.1 = false) (hcl2 : clOf μc = 9) (hn2 : (mus μc).2.2 = 5)
    (h0 : decode code p0 = .ok (.aload_n 1, 1)) (ha00 : decode code (p0 + 1) = .ok (.aload_n 0, 1) ∧ decode code (p0 + 2) = .ok (.iload 5, 2) ∧ decode code (p0 + 4) = .ok (.iconst 1, 1) ∧ decode code (p0 + 5) = .ok (.iadd, 1) ∧ decode code (p0 + 6) = .ok (.iaload, 1)) (ha10 : decode code (p0 + 7) = .ok (.aload_n 0, 1) ∧ decode code (p0 + 8) = .ok (.iload 5, 2) ∧ decode code (p0 + 10) = .ok (.iconst 2, 1) ∧ decode code (p0 + 11) = .ok (.iadd, 1) ∧ decode code (p0 + 12) = .ok (.iaload, 1)) (ha20 : decode code (p0 + 13) = .ok (.aload_n 0, 1) ∧ decode code (p0 + 14) = .ok (.iload 5, 2) ∧ decode code (p0 + 16) = .ok (.iconst 3, 1) ∧ decode code (p0 + 17) = .ok (.iadd, 1) ∧ decode code (p0 + 18) = .ok (.iaload, 1)) (ha30 : decode code (p0 + 19) = .ok (.aload_n 0, 1) ∧ decode code (p0 + 20) = .ok (.iload 5, 2) ∧ decode code (p0 + 22) = .ok (.iconst 4, 1) ∧ decode code (p0 + 23) = .ok (.iadd, 1) ∧ decode code (p0 + 24) = .ok (.iaload, 1)) (ha40 : decode code (p0 + 25) = .ok (.aload_n 0, 1) ∧ decode code (p0 + 26) = .ok (.iload 5, 2) ∧ decode code (p0 + 28) = .ok (.iconst 5, 1) ∧ decode code (p0 + 29) = .ok (.iadd, 1) ∧ decode code (p0 + 30) = .ok (.iaload, 1)) (h1 : decode code (p0 + 31) = .ok (.invokevirtual ic, 3) ∧ decode code (p0 + 34) = .ok (.aload_n 2, 1)) (hb00 : decode code (p0 + 35) = .ok (.aload_n 0, 1) ∧ decode code (p0 + 36) = .ok (.iload 5, 2) ∧ decode code (p0 + 38) = .ok (.iconst 1, 1) ∧ decode code (p0 + 39) = .ok (.iadd, 1) ∧ decode code (p0 + 40) = .ok (.iaload, 1)) (hb10 : decode code (p0 + 41) = .ok (.aload_n 0, 1) ∧ decode code (p0 + 42) = .ok (.iload 5, 2) ∧ decode code (p0 + 44) = .ok (.iconst 2, 1) ∧ decode code (p0 + 45) = .ok (.iadd, 1) ∧ decode code (p0 + 46) = .ok (.iaload, 1)) (hb20 : decode code (p0 + 47) = .ok (.aload_n 0, 1) ∧ decode code (p0 + 48) = .ok (.iload 5, 2) ∧ decode code (p0 + 50) = .ok (.iconst 3, 1) ∧ decode code (p0 + 51) = .ok (.iadd, 1) ∧ decode code (p0 + 52) = .ok (.iaload, 1)) (hb30 : decode code (p0 + 53) = .ok (.aload_n 0, 1) ∧ decode code (p0 + 54) = .ok (.iload 5, 2) ∧ decode code (p0 + 56) = .ok (.iconst 4, 1) ∧ decode code (p0 + 57) = .ok (.iadd, 1) ∧ decode code (p0 + 58) = .ok (.iaload, 1)) (hb40 : decode code (p0 + 59) = .ok (.aload_n 0, 1) ∧ decode code (p0 + 60) = .ok (.iload 5, 2) ∧ decode code (p0 + 62) = .ok (.iconst 5, 1) ∧ decode code (p0 + 63) = .ok (.iadd, 1) ∧ decode code (p0 + 64) = .ok (.iaload, 1)) (h2 : decode code (p0 + 65) = .ok (.invokevirtual im, 3) ∧ decode code (p0 + 68) = .ok (.if_icmp .eq off, 3)) (ho : ((p0 + 68 : Nat) : Int) + off = 3098) (kk : CKq p l e R s m sargs below meth c Q b B i tb cells slots D G L) : W p l e R s m sargs below meth c H locs cells slots Q (F0 m p0 sl []) := by
  obtain ⟨r, hp1, bb, hp2, e1, e2, hag, hI2⟩ := hop.join htb hI
  have hCc := hC r hp1 e1
  have hMc := hM hp1 bb hp2 e2
  have hX2 := hX
  obtain ⟨hx, hb, hml, hts, hown, hE, hfl, hSc, hbl, hbB, hL, hRf, hRl⟩ := hX2
  obtain ⟨w1, w2⟩ := h1
  obtain ⟨v1, v2⟩ := h2
  simp only [List.all_cons, List.all_nil, Bool.and_eq_true, decide_eq_true_eq] at hw
  refine lv_aload_n hx hb h0 rfl (lv_at hl 1 rfl) ?_
  refine la_ld (k := 1) hX hS (lv_at hl 0 rfl) (lv_at hl 5 rfl) (by omega) (by decide) ha00 ?_
  refine la_ld (k := 2) hX hS (lv_at hl 0 rfl) (lv_at hl 5 rfl) (by omega) (by decide) ha10 ?_
  refine la_ld (k := 3) hX hS (lv_at hl 0 rfl) (lv_at hl 5 rfl) (by omega) (by decide) ha20 ?_
  refine la_ld (k := 4) hX hS (lv_at hl 0 rfl) (lv_at hl 5 rfl) (by omega) (by decide) ha30 ?_
  refine la_ld (k := 5) hX hS (lv_at hl 0 rfl) (lv_at hl 5 rfl) (by omega) (by decide) ha40 ?_
  refine W.eq (g2 := F0 m (p0 + 31) sl ((([vI (xs (i + 1)), vI (xs (i + 2)), vI (xs (i + 3)), vI (xs (i + 4)), vI (xs (i + 5))] : List VL).map (toV B adK)).reverse ++ .ref B :: [])) rfl ?_
  refine lc_cls (as := [vI (xs (i + 1)), vI (xs (i + 2)), vI (xs (i + 3)), vI (xs (i + 4)), vI (xs (i + 5))]) hX hl.1 hμ2 hst2 hcl2 hn2.symm (fun w hw => by simp only [List.mem_cons, List.not_mem_nil, or_false] at hw; rcases hw with rfl | rfl | rfl | rfl | rfl <;> exact trivial) hCc (List.mem_filter.mpr hw.1) (Nat.le_of_ble_eq_true rfl) hP hS (by omega) (by omega) w1 (fun H locs hP hS => ?_)
  refine lv_aload_n hx hb w2 rfl (lv_at hl 2 rfl) ?_
  refine la_ld (k := 1) hX hS (lv_at hl 0 rfl) (lv_at hl 5 rfl) (by omega) (by decide) hb00 ?_
  refine la_ld (k := 2) hX hS (lv_at hl 0 rfl) (lv_at hl 5 rfl) (by omega) (by decide) hb10 ?_
  refine la_ld (k := 3) hX hS (lv_at hl 0 rfl) (lv_at hl 5 rfl) (by omega) (by decide) hb20 ?_
  refine la_ld (k := 4) hX hS (lv_at hl 0 rfl) (lv_at hl 5 rfl) (by omega) (by decide) hb30 ?_
  refine la_ld (k := 5) hX hS (lv_at hl 0 rfl) (lv_at hl 5 rfl) (by omega) (by decide) hb40 ?_
  refine W.eq (g2 := F0 m (p0 + 65) sl ((([vI (xs (i + 1)), vI (xs (i + 2)), vI (xs (i + 3)), vI (xs (i + 4)), vI (xs (i + 5))] : List VL).map (toV B adK)).reverse ++ .ref (B + 312) :: [.int r])) rfl ?_
  refine lc_mod (as := [vI (xs (i + 1)), vI (xs (i + 2)), vI (xs (i + 3)), vI (xs (i + 4)), vI (xs (i + 5))]) hX hl.1 hμ hst hcl hn.symm (fun w hw => by simp only [List.mem_cons, List.not_mem_nil, or_false] at hw; rcases hw with rfl | rfl | rfl | rfl | rfl <;> exact trivial) hMc (List.mem_filter.mpr hw.2.1) (Nat.le_of_ble_eq_true rfl) hP hS (by omega) (by omega) v1 (fun H locs hP hS => ?_)
  have hag : r = bb := hag
  refine lv_icmp_eq (tgt := 3098) hx hb v2 ho (fun _ => ?_) (fun h => absurd hag h)
  exact W.widen (k := cells + 1) (n := slots + 6) (by omega) (by omega) (kk sl H locs hp2 f g hl hP hS hI2)
theorem ca_0 (hX : LawX p l s m meth c R sargs b Ls xs B D G L adK adV adM) (hl : lv_has sl 9 (lwL b B i)) (hP : LwS B D G L hp f g H) (hS : va_S (ab B) s.heap H locs) (hi : i + 6 ≤ Ls) (hcells : cells + 1 ≤ R.cells) (hslots : slots + 6 ≤ R.slots) (htb : tb < 500000000) (hI : Inv tb hp hp) (kk : CKq p l e R s m sargs below meth c Q b B i tb cells slots D G L) : W p l e R s m sargs below meth c H locs cells slots Q (F0 m 268 sl []) := by
  refine cd_5 (p0 := 268) (ic := 169) (im := 173) (μc := 85) (μm := 162) (off := 2762) hX hl hP hS hi hcells hslots htb hI (op_append (xs (i + 1)) (xs (i + 2)) (xs (i + 3)) (xs (i + 4)) (xs (i + 5))) (fun r hp1 h => exX9_append (d := 7) h) (fun hp1 bb hp2 h => exX10_append (d := 9) h) (by decide +kernel) (by decide) (by decide) (by decide) (by decide) (by decide) (by decide) (by decide) (by decide) (by decide +kernel) (by decide +kernel) (by decide +kernel) (by decide +kernel) (by decide +kernel) (by decide +kernel) (by decide +kernel) (by decide +kernel) (by decide +kernel) (by decide +kernel) (by decide +kernel) (by decide +kernel) (by decide +kernel) (by decide) kk
theorem ca_2 (hX : LawX p l s m meth c R sargs b Ls xs B D G L adK adV adM) (hl : lv_has sl 9 (lwL b B i)) (hP : LwS B D G L hp f g H) (hS : va_S (ab B) s.heap H locs) (hi : i + 6 ≤ Ls) (hcells : cells + 1 ≤ R.cells) (hslots : slots + 6 ≤ R.slots) (htb : tb < 500000000) (hI : Inv tb hp hp) (kk : CKq p l e R s m sargs below meth c Q b B i tb cells slots D G L) : W p l e R s m sargs below meth c H locs cells slots Q (F0 m 397 sl []) := by
  have hq : ∀ r hp1, ((fX9_parseError hp).bind fun r => some (r, hp)) = some (r, hp1) → fX9_parseError hp = some r ∧ hp1 = hp := fun r hp1 h => by
    obtain ⟨q, hq, h2⟩ := Option.bind_eq_some_iff.mp h
    cases h2
    exact ⟨hq, rfl⟩
  refine cd_0 (p0 := 397) (ic := 183) (im := 186) (μc := 88) (μm := 164) (off := 2693) hX hl hP hS hi hcells hslots htb hI (op_parseError) (fun r hp1 h => by
      obtain ⟨h1, rfl⟩ := hq r hp1 h
      exact exX9_parseError (d := 9) h1) (fun hp1 bb hp2 h => exX10_parseError (d := 9) h) (by decide +kernel) (by decide) (by decide) (by decide) (by decide) (by decide) (by decide) (by decide) (by decide) (by decide +kernel) (by decide +kernel) (by decide +kernel) (by decide) kk
theorem ca_3 (hX : LawX p l s m meth c R sargs b Ls xs B D G L adK adV adM) (hl : lv_has sl 9 (lwL b B i)) (hP : LwS B D G L hp f g H) (hS : va_S (ab B) s.heap H locs) (hi : i + 6 ≤ Ls) (hcells : cells + 1 ≤ R.cells) (hslots : slots + 6 ≤ R.slots) (htb : tb < 500000000) (hI : Inv tb hp hp) (kk : CKq p l e R s m sargs below meth c Q b B i tb cells slots D G L) : W p l e R s m sargs below meth c H locs cells slots Q (F0 m 410 sl []) := by
  have hq : ∀ r hp1, ((fX9_errorPosition hp).bind fun r => some (r, hp)) = some (r, hp1) → fX9_errorPosition hp = some r ∧ hp1 = hp := fun r hp1 h => by
    obtain ⟨q, hq, h2⟩ := Option.bind_eq_some_iff.mp h
    cases h2
    exact ⟨hq, rfl⟩
  refine cd_0 (p0 := 410) (ic := 187) (im := 190) (μc := 89) (μm := 165) (off := 2680) hX hl hP hS hi hcells hslots htb hI (op_errorPosition) (fun r hp1 h => by
      obtain ⟨h1, rfl⟩ := hq r hp1 h
      exact exX9_errorPosition (d := 9) h1) (fun hp1 bb hp2 h => exX10_errorPosition (d := 9) h) (by decide +kernel) (by decide) (by decide) (by decide) (by decide) (by decide) (by decide) (by decide) (by decide) (by decide +kernel) (by decide +kernel) (by decide +kernel) (by decide) kk
theorem ca_4 (hX : LawX p l s m meth c R sargs b Ls xs B D G L adK adV adM) (hl : lv_has sl 9 (lwL b B i)) (hP : LwS B D G L hp f g H) (hS : va_S (ab B) s.heap H locs) (hi : i + 6 ≤ Ls) (hcells : cells + 1 ≤ R.cells) (hslots : slots + 6 ≤ R.slots) (htb : tb < 500000000) (hI : Inv tb hp hp) (kk : CKq p l e R s m sargs below meth c Q b B i tb cells slots D G L) : W p l e R s m sargs below meth c H locs cells slots Q (F0 m 423 sl []) := by
  have hq : ∀ r hp1, ((fX9_buffered hp).bind fun r => some (r, hp)) = some (r, hp1) → fX9_buffered hp = some r ∧ hp1 = hp := fun r hp1 h => by
    obtain ⟨q, hq, h2⟩ := Option.bind_eq_some_iff.mp h
    cases h2
    exact ⟨hq, rfl⟩
  refine cd_0 (p0 := 423) (ic := 191) (im := 194) (μc := 90) (μm := 163) (off := 2667) hX hl hP hS hi hcells hslots htb hI (op_buffered) (fun r hp1 h => by
      obtain ⟨h1, rfl⟩ := hq r hp1 h
      exact exX9_buffered (d := 9) h1) (fun hp1 bb hp2 h => exX10_buffered (d := 9) h) (by decide +kernel) (by decide) (by decide) (by decide) (by decide) (by decide) (by decide) (by decide) (by decide) (by decide +kernel) (by decide +kernel) (by decide +kernel) (by decide) kk
theorem ca_49 (hX : LawX p l s m meth c R sargs b Ls xs B D G L adK adV adM) (hl : lv_has sl 9 (lwL b B i)) (hP : LwS B D G L hp f g H) (hS : va_S (ab B) s.heap H locs) (hi : i + 6 ≤ Ls) (hcells : cells + 1 ≤ R.cells) (hslots : slots + 6 ≤ R.slots) (htb : tb < 500000000) (hI : Inv tb hp hp) (kk : CKq p l e R s m sargs below meth c Q b B i tb cells slots D G L) : W p l e R s m sargs below meth c H locs cells slots Q (F0 m 2973 sl []) := by
  have hq : ∀ r hp1, ((fX9_undoable hp).bind fun r => some (r, hp)) = some (r, hp1) → fX9_undoable hp = some r ∧ hp1 = hp := fun r hp1 h => by
    obtain ⟨q, hq, h2⟩ := Option.bind_eq_some_iff.mp h
    cases h2
    exact ⟨hq, rfl⟩
  refine cd_0 (p0 := 2973) (ic := 332) (im := 335) (μc := 137) (μm := 287) (off := 117) hX hl hP hS hi hcells hslots htb hI (op_undoable) (fun r hp1 h => by
      obtain ⟨h1, rfl⟩ := hq r hp1 h
      exact exX9_undoable (d := 9) h1) (fun hp1 bb hp2 h => exX10_undoable (d := 9) h) (by decide +kernel) (by decide) (by decide) (by decide) (by decide) (by decide) (by decide) (by decide) (by decide) (by decide +kernel) (by decide +kernel) (by decide +kernel) (by decide) kk
end LCB
