/-! ===== the cases of the law, by shape ===== -/
section LSH
variable {p : Program} {l : Launch} {e : Env} {R : Room} {s : State} {m : MethodId} {sargs : Array Value} {below : List Frame} {meth : Method} {c : Code} {Q : State → Prop}
variable {b B Ls pc cells slots i : Nat} {xs : Nat → Int32} {D : va_G} {G : GG} {L : GL} {adK adV adM : Nat → Nat} {hp : HP} {f : Nat → Int64} {g : Nat → UInt64} {H : Heap} {locs : List Loc} {sl : Array Slot}
theorem cs_ni {p0 iw im μ maxL tb : Nat} {y : MethodName} {bytes : ByteArray} {hh : List (Nat × Nat × Nat × Nat)} {cs : List Nat} {off : Int} {C : HP → Option ((Int32 ⊕ Nat) × HP)} {M : HP → Option (Int32 × HP)} (hX : LawX p l s m meth c R sargs b Ls xs B D G L adK adV adM) (hl : lv_has sl 9 (lwL b B i)) (hP : LwS B D G L hp f g H) (hS : va_S (ab B) s.heap H locs) (hi : i + 6 ≤ Ls) (hcells : cells + 1 ≤ R.cells) (hslots : slots + 6 ≤ R.slots) (htb : tb < 500000000) (hI : Inv tb hp hp) (hop : Op (agr cs) C M)
    (hC : ∀ r hp1, C hp = some (r, hp1) → ∀ bb t, agr cs r bb t → ∃ f1, WrM l B D G L adK adV adM y bytes maxL hh [.ref B, .ref (B + 326)] hp f g t hp1 f1 g ∧ (t = 0 → f1 0 = bb.toInt64))
    (hM : ∀ hp1 bb hp2, M hp1 = some (bb, hp2) → Calls 9 μ (vR (10, 0, 0) :: []) hp1 (.inl (some (vI bb)), hp2))
    (hw : ([.codeWith y bytes maxL (some .int) hh, .methodLink RL iw y, .static y, .initialized y.cls, .methodLink RL im (nameOf μ)] : List Jvm.Cond).all (fun w => decide (w ∈ lw_tbl) && goodWord w) = true)
    (hy : y.cls ≠ "java/lang/invoke/MethodHandle" ∧ y.cls ≠ "java/lang/invoke/VarHandle" ∧ (parseMethodDescriptor y.desc).map (fun d => d.parameters.length) = some 2) (hm : maxL ≤ 5) (hμ : μ < 290) (hst : (mus μ).2.1 = false) (hcl : clOf μ = 10) (hn : (mus μ).2.2 = 0)
    (h0 : decode code p0 = .ok (.aload_n 1, 1)) (h1 : decode code (p0 + 1) = .ok (.aload_n 3, 1) ∧ decode code (p0 + 2) = .ok (.invokestatic iw, 3) ∧ decode code (p0 + 5) = .ok (.istore 6, 2) ∧ decode code (p0 + 7) = .ok (.aload_n 2, 1)) (h2 : decode code (p0 + 8) = .ok (.invokevirtual im, 3) ∧ decode code (p0 + 11) = .ok (.istore 7, 2)) (ht0 : decode code (p0 + 13) = .ok (.aload_n 2, 1) ∧ decode code (p0 + 14) = .ok (.invokevirtual 180, 3) ∧ decode code (p0 + 17) = .ok (.iload 6, 2) ∧ decode code (p0 + 19) = .ok (.if_icmp .eq 5, 3)) (ht1 : decode code (p0 + 24) = .ok (.iload 6, 2) ∧ decode code (p0 + 26) = .ok (.ifCond .ne 15, 3) ∧ decode code (p0 + 29) = .ok (.aload_n 3, 1) ∧ decode code (p0 + 30) = .ok (.iconst 0, 1) ∧ decode code (p0 + 31) = .ok (.laload, 1) ∧ decode code (p0 + 32) = .ok (.iload 7, 2) ∧ decode code (p0 + 34) = .ok (.i2l, 1) ∧ decode code (p0 + 35) = .ok (.lcmp, 1) ∧ decode code (p0 + 36) = .ok (.ifCond .eq 5, 3) ∧ decode code (p0 + 41) = .ok (.goto off, 3))
    (ho : ((p0 + 41 : Nat) : Int) + off = 3098)
    (kk : ∀ sl H locs hp1 f1 g1, lv_has sl 9 (lwL b B i) → LwS B D G L hp1 f1 g1 H → va_S (ab B) s.heap H locs → Inv (tb + 600000) hp1 hp1 → W p l e R s m sargs below meth c H locs (cells + 1) (slots + 6) Q (F0 m 3098 sl [])) : W p l e R s m sargs below meth c H locs cells slots Q (F0 m p0 sl []) := by
  obtain ⟨r, hp1, bb, hp2, e1, e2, hag, hI2⟩ := hop.join htb hI
  obtain ⟨f1, hW, hf1⟩ := hC r hp1 e1 bb _ hag
  have hMc := hM hp1 bb hp2 e2
  have hX2 := hX
  obtain ⟨hx, hb, hml, hts, hown, hE, hfl, hSc, hbl, hbB, hL, hRf, hRl⟩ := hX2
  obtain ⟨w1, w2, w3, w4⟩ := h1
  obtain ⟨v1, v2⟩ := h2
  have hw4 : ([.codeWith y bytes maxL (some .int) hh, .methodLink RL iw y, .static y, .initialized y.cls] : List Jvm.Cond).all (fun w => decide (w ∈ lw_tbl) && goodWord w) = true := by
    simp only [List.all_cons, List.all_nil, Bool.and_eq_true] at hw ⊢
    exact ⟨hw.1, hw.2.1, hw.2.2.1, hw.2.2.2.1, trivial⟩
  have hw5 : Jvm.Cond.methodLink RL im (nameOf μ) ∈ lwG := by
    simp only [List.all_cons, List.all_nil, Bool.and_eq_true, decide_eq_true_eq] at hw
    exact List.mem_filter.mpr hw.2.2.2.2.1
  refine lv_aload_n hx hb h0 rfl (lv_at hl 1 rfl) ?_
  refine lv_aload_n hx hb w1 rfl (lv_at hl 3 rfl) ?_
  refine W.eq (g2 := F0 m (p0 + 2) sl (([.ref B, .ref (B + 326)] : List Value).reverse ++ [])) rfl ?_
  refine lc_wrap (n := 2) hX hl.1 hW hw4 hy rfl hm (Nat.le_of_ble_eq_true rfl) hP hS hcells hslots w2 (fun H locs hP hS => ?_)
  refine lv_istore hx hb w3 hl (by decide) rfl (fun sl hl => ?_)
  refine lv_aload_n hx hb w4 rfl (lv_at hl 3 rfl) ?_
  refine W.eq (g2 := F0 m (p0 + 8) sl ((([] : List VL).map (toV B adK)).reverse ++ .ref (B + 312) :: [])) rfl ?_
  refine lc_mod (as := []) hX hl.1 hμ hst hcl hn.symm (fun w hw => absurd hw List.not_mem_nil) hMc hw5 (Nat.le_of_ble_eq_true rfl) hP hS hcells hslots v1 (fun H locs hP hS => ?_)
  refine lv_istore hx hb v2 hl (by decide) rfl (fun sl hl => ?_)
  exact tl_i (t := hp2 (10, 0, 0) 0) hX hl rfl hf1 hP hS hcells hslots ho ht0 ht1 (fun sl H locs hl hP hS => kk sl H locs hp2 _ _ hl hP hS hI2)
theorem cs_0i {p0 iw im μ maxL tb : Nat} {y : MethodName} {bytes : ByteArray} {hh : List (Nat × Nat × Nat × Nat)} {cs : List Nat} {off : Int} {C : HP → Option ((Int32 ⊕ Nat) × HP)} {M : HP → Option (Int32 × HP)} (hX : LawX p l s m meth c R sargs b Ls xs B D G L adK adV adM) (hl : lv_has sl 9 (lwL b B i)) (hP : LwS B D G L hp f g H) (hS : va_S (ab B) s.heap H locs) (hi : i + 6 ≤ Ls) (hcells : cells + 1 ≤ R.cells) (hslots : slots + 6 ≤ R.slots) (htb : tb < 500000000) (hI : Inv tb hp hp) (hop : Op (agr cs) C M)
    (hC : ∀ r hp1, C hp = some (r, hp1) → ∀ bb t, agr cs r bb t → ∃ f1, WrM l B D G L adK adV adM y bytes maxL hh [.ref B, .int (xs (i + 1)), .ref (B + 326)] hp f g t hp1 f1 g ∧ (t = 0 → f1 0 = bb.toInt64))
    (hM : ∀ hp1 bb hp2, M hp1 = some (bb, hp2) → Calls 9 μ (vR (10, 0, 0) :: [vI (xs (i + 1))]) hp1 (.inl (some (vI bb)), hp2))
    (hw : ([.codeWith y bytes maxL (some .int) hh, .methodLink RL iw y, .static y, .initialized y.cls, .methodLink RL im (nameOf μ)] : List Jvm.Cond).all (fun w => decide (w ∈ lw_tbl) && goodWord w) = true)
    (hy : y.cls ≠ "java/lang/invoke/MethodHandle" ∧ y.cls ≠ "java/lang/invoke/VarHandle" ∧ (parseMethodDescriptor y.desc).map (fun d => d.parameters.length) = some 3) (hm : maxL ≤ 5) (hμ : μ < 290) (hst : (mus μ).2.1 = false) (hcl : clOf μ = 10) (hn : (mus μ).2.2 = 1)
    (h0 : decode code p0 = .ok (.aload_n 1, 1)) (ha00 : decode code (p0 + 1) = .ok (.aload_n 0, 1) ∧ decode code (p0 + 2) = .ok (.iload 5, 2) ∧ decode code (p0 + 4) = .ok (.iconst 1, 1) ∧ decode code (p0 + 5) = .ok (.iadd, 1) ∧ decode code (p0 + 6) = .ok (.iaload, 1)) (h1 : decode code (p0 + 7) = .ok (.aload_n 3, 1) ∧ decode code (p0 + 8) = .ok (.invokestatic iw, 3) ∧ decode code (p0 + 11) = .ok (.istore 6, 2) ∧ decode code (p0 + 13) = .ok (.aload_n 2, 1)) (hb00 : decode code (p0 + 14) = .ok (.aload_n 0, 1) ∧ decode code (p0 + 15) = .ok (.iload 5, 2) ∧ decode code (p0 + 17) = .ok (.iconst 1, 1) ∧ decode code (p0 + 18) = .ok (.iadd, 1) ∧ decode code (p0 + 19) = .ok (.iaload, 1)) (h2 : decode code (p0 + 20) = .ok (.invokevirtual im, 3) ∧ decode code (p0 + 23) = .ok (.istore 7, 2)) (ht0 : decode code (p0 + 25) = .ok (.aload_n 2, 1) ∧ decode code (p0 + 26) = .ok (.invokevirtual 180, 3) ∧ decode code (p0 + 29) = .ok (.iload 6, 2) ∧ decode code (p0 + 31) = .ok (.if_icmp .eq 5, 3)) (ht1 : decode code (p0 + 36) = .ok (.iload 6, 2) ∧ decode code (p0 + 38) = .ok (.ifCond .ne 15, 3) ∧ decode code (p0 + 41) = .ok (.aload_n 3, 1) ∧ decode code (p0 + 42) = .ok (.iconst 0, 1) ∧ decode code (p0 + 43) = .ok (.laload, 1) ∧ decode code (p0 + 44) = .ok (.iload 7, 2) ∧ decode code (p0 + 46) = .ok (.i2l, 1) ∧ decode code (p0 + 47) = .ok (.lcmp, 1) ∧ decode code (p0 + 48) = .ok (.ifCond .eq 5, 3) ∧ decode code (p0 + 53) = .ok (.goto off, 3))
    (ho : ((p0 + 53 : Nat) : Int) + off = 3098)
    (kk : ∀ sl H locs hp1 f1 g1, lv_has sl 9 (lwL b B i) → LwS B D G L hp1 f1 g1 H → va_S (ab B) s.heap H locs → Inv (tb + 600000) hp1 hp1 → W p l e R s m sargs below meth c H locs (cells + 1) (slots + 6) Q (F0 m 3098 sl [])) : W p l e R s m sargs below meth c H locs cells slots Q (F0 m p0 sl []) := by
  obtain ⟨r, hp1, bb, hp2, e1, e2, hag, hI2⟩ := hop.join htb hI
  obtain ⟨f1, hW, hf1⟩ := hC r hp1 e1 bb _ hag
  have hMc := hM hp1 bb hp2 e2
  have hX2 := hX
  obtain ⟨hx, hb, hml, hts, hown, hE, hfl, hSc, hbl, hbB, hL, hRf, hRl⟩ := hX2
  obtain ⟨w1, w2, w3, w4⟩ := h1
  obtain ⟨v1, v2⟩ := h2
  have hw4 : ([.codeWith y bytes maxL (some .int) hh, .methodLink RL iw y, .static y, .initialized y.cls] : List Jvm.Cond).all (fun w => decide (w ∈ lw_tbl) && goodWord w) = true := by
    simp only [List.all_cons, List.all_nil, Bool.and_eq_true] at hw ⊢
    exact ⟨hw.1, hw.2.1, hw.2.2.1, hw.2.2.2.1, trivial⟩
  have hw5 : Jvm.Cond.methodLink RL im (nameOf μ) ∈ lwG := by
    simp only [List.all_cons, List.all_nil, Bool.and_eq_true, decide_eq_true_eq] at hw
    exact List.mem_filter.mpr hw.2.2.2.2.1
  refine lv_aload_n hx hb h0 rfl (lv_at hl 1 rfl) ?_
  refine la_ld (k := 1) hX hS (lv_at hl 0 rfl) (lv_at hl 5 rfl) (by omega) (by decide) ha00 ?_
  refine lv_aload_n hx hb w1 rfl (lv_at hl 3 rfl) ?_
  refine W.eq (g2 := F0 m (p0 + 8) sl (([.ref B, .int (xs (i + 1)), .ref (B + 326)] : List Value).reverse ++ [])) rfl ?_
  refine lc_wrap (n := 3) hX hl.1 hW hw4 hy rfl hm (Nat.le_of_ble_eq_true rfl) hP hS hcells hslots w2 (fun H locs hP hS => ?_)
  refine lv_istore hx hb w3 hl (by decide) rfl (fun sl hl => ?_)
  refine lv_aload_n hx hb w4 rfl (lv_at hl 3 rfl) ?_
  refine la_ld (k := 1) hX hS (lv_at hl 1 rfl) (lv_at hl 6 rfl) (by omega) (by decide) hb00 ?_
  refine W.eq (g2 := F0 m (p0 + 20) sl ((([vI (xs (i + 1))] : List VL).map (toV B adK)).reverse ++ .ref (B + 312) :: [])) rfl ?_
  refine lc_mod (as := [vI (xs (i + 1))]) hX hl.1 hμ hst hcl hn.symm (fun w hw => by simp only [List.mem_cons, List.not_mem_nil, or_false] at hw; rcases hw with rfl <;> exact trivial) hMc hw5 (Nat.le_of_ble_eq_true rfl) hP hS hcells hslots v1 (fun H locs hP hS => ?_)
  refine lv_istore hx hb v2 hl (by decide) rfl (fun sl hl => ?_)
  exact tl_i (t := hp2 (10, 0, 0) 0) hX hl rfl hf1 hP hS hcells hslots ho ht0 ht1 (fun sl H locs hl hP hS => kk sl H locs hp2 _ _ hl hP hS hI2)
theorem cs_00i {p0 iw im μ maxL tb : Nat} {y : MethodName} {bytes : ByteArray} {hh : List (Nat × Nat × Nat × Nat)} {cs : List Nat} {off : Int} {C : HP → Option ((Int32 ⊕ Nat) × HP)} {M : HP → Option (Int32 × HP)} (hX : LawX p l s m meth c R sargs b Ls xs B D G L adK adV adM) (hl : lv_has sl 9 (lwL b B i)) (hP : LwS B D G L hp f g H) (hS : va_S (ab B) s.heap H locs) (hi : i + 6 ≤ Ls) (hcells : cells + 1 ≤ R.cells) (hslots : slots + 6 ≤ R.slots) (htb : tb < 500000000) (hI : Inv tb hp hp) (hop : Op (agr cs) C M)
    (hC : ∀ r hp1, C hp = some (r, hp1) → ∀ bb t, agr cs r bb t → ∃ f1, WrM l B D G L adK adV adM y bytes maxL hh [.ref B, .int (xs (i + 1)), .int (xs (i + 2)), .ref (B + 326)] hp f g t hp1 f1 g ∧ (t = 0 → f1 0 = bb.toInt64))
    (hM : ∀ hp1 bb hp2, M hp1 = some (bb, hp2) → Calls 9 μ (vR (10, 0, 0) :: [vI (xs (i + 1)), vI (xs (i + 2))]) hp1 (.inl (some (vI bb)), hp2))
    (hw : ([.codeWith y bytes maxL (some .int) hh, .methodLink RL iw y, .static y, .initialized y.cls, .methodLink RL im (nameOf μ)] : List Jvm.Cond).all (fun w => decide (w ∈ lw_tbl) && goodWord w) = true)
    (hy : y.cls ≠ "java/lang/invoke/MethodHandle" ∧ y.cls ≠ "java/lang/invoke/VarHandle" ∧ (parseMethodDescriptor y.desc).map (fun d => d.parameters.length) = some 4) (hm : maxL ≤ 5) (hμ : μ < 290) (hst : (mus μ).2.1 = false) (hcl : clOf μ = 10) (hn : (mus μ).2.2 = 2)
    (h0 : decode code p0 = .ok (.aload_n 1, 1)) (ha00 : decode code (p0 + 1) = .ok (.aload_n 0, 1) ∧ decode code (p0 + 2) = .ok (.iload 5, 2) ∧ decode code (p0 + 4) = .ok (.iconst 1, 1) ∧ decode code (p0 + 5) = .ok (.iadd, 1) ∧ decode code (p0 + 6) = .ok (.iaload, 1)) (ha10 : decode code (p0 + 7) = .ok (.aload_n 0, 1) ∧ decode code (p0 + 8) = .ok (.iload 5, 2) ∧ decode code (p0 + 10) = .ok (.iconst 2, 1) ∧ decode code (p0 + 11) = .ok (.iadd, 1) ∧ decode code (p0 + 12) = .ok (.iaload, 1)) (h1 : decode code (p0 + 13) = .ok (.aload_n 3, 1) ∧ decode code (p0 + 14) = .ok (.invokestatic iw, 3) ∧ decode code (p0 + 17) = .ok (.istore 6, 2) ∧ decode code (p0 + 19) = .ok (.aload_n 2, 1)) (hb00 : decode code (p0 + 20) = .ok (.aload_n 0, 1) ∧ decode code (p0 + 21) = .ok (.iload 5, 2) ∧ decode code (p0 + 23) = .ok (.iconst 1, 1) ∧ decode code (p0 + 24) = .ok (.iadd, 1) ∧ decode code (p0 + 25) = .ok (.iaload, 1)) (hb10 : decode code (p0 + 26) = .ok (.aload_n 0, 1) ∧ decode code (p0 + 27) = .ok (.iload 5, 2) ∧ decode code (p0 + 29) = .ok (.iconst 2, 1) ∧ decode code (p0 + 30) = .ok (.iadd, 1) ∧ decode code (p0 + 31) = .ok (.iaload, 1)) (h2 : decode code (p0 + 32) = .ok (.invokevirtual im, 3) ∧ decode code (p0 + 35) = .ok (.istore 7, 2)) (ht0 : decode code (p0 + 37) = .ok (.aload_n 2, 1) ∧ decode code (p0 + 38) = .ok (.invokevirtual 180, 3) ∧ decode code (p0 + 41) = .ok (.iload 6, 2) ∧ decode code (p0 + 43) = .ok (.if_icmp .eq 5, 3)) (ht1 : decode code (p0 + 48) = .ok (.iload 6, 2) ∧ decode code (p0 + 50) = .ok (.ifCond .ne 15, 3) ∧ decode code (p0 + 53) = .ok (.aload_n 3, 1) ∧ decode code (p0 + 54) = .ok (.iconst 0, 1) ∧ decode code (p0 + 55) = .ok (.laload, 1) ∧ decode code (p0 + 56) = .ok (.iload 7, 2) ∧ decode code (p0 + 58) = .ok (.i2l, 1) ∧ decode code (p0 + 59) = .ok (.lcmp, 1) ∧ decode code (p0 + 60) = .ok (.ifCond .eq 5, 3) ∧ decode code (p0 + 65) = .ok (.goto off, 3))
    (ho : ((p0 + 65 : Nat) : Int) + off = 3098)
    (kk : ∀ sl H locs hp1 f1 g1, lv_has sl 9 (lwL b B i) → LwS B D G L hp1 f1 g1 H → va_S (ab B) s.heap H locs → Inv (tb + 600000) hp1 hp1 → W p l e R s m sargs below meth c H locs (cells + 1) (slots + 6) Q (F0 m 3098 sl [])) : W p l e R s m sargs below meth c H locs cells slots Q (F0 m p0 sl []) := by
  obtain ⟨r, hp1, bb, hp2, e1, e2, hag, hI2⟩ := hop.join htb hI
  obtain ⟨f1, hW, hf1⟩ := hC r hp1 e1 bb _ hag
  have hMc := hM hp1 bb hp2 e2
  have hX2 := hX
  obtain ⟨hx, hb, hml, hts, hown, hE, hfl, hSc, hbl, hbB, hL, hRf, hRl⟩ := hX2
  obtain ⟨w1, w2, w3, w4⟩ := h1
  obtain ⟨v1, v2⟩ := h2
  have hw4 : ([.codeWith y bytes maxL (some .int) hh, .methodLink RL iw y, .static y, .initialized y.cls] : List Jvm.Cond).all (fun w => decide (w ∈ lw_tbl) && goodWord w) = true := by
    simp only [List.all_cons, List.all_nil, Bool.and_eq_true] at hw ⊢
    exact ⟨hw.1, hw.2.1, hw.2.2.1, hw.2.2.2.1, trivial⟩
  have hw5 : Jvm.Cond.methodLink RL im (nameOf μ) ∈ lwG := by
    simp only [List.all_cons, List.all_nil, Bool.and_eq_true, decide_eq_true_eq] at hw
    exact List.mem_filter.mpr hw.2.2.2.2.1
  refine lv_aload_n hx hb h0 rfl (lv_at hl 1 rfl) ?_
  refine la_ld (k := 1) hX hS (lv_at hl 0 rfl) (lv_at hl 5 rfl) (by omega) (by decide) ha00 ?_
  refine la_ld (k := 2) hX hS (lv_at hl 0 rfl) (lv_at hl 5 rfl) (by omega) (by decide) ha10 ?_
  refine lv_aload_n hx hb w1 rfl (lv_at hl 3 rfl) ?_
  refine W.eq (g2 := F0 m (p0 + 14) sl (([.ref B, .int (xs (i + 1)), .int (xs (i + 2)), .ref (B + 326)] : List Value).reverse ++ [])) rfl ?_
  refine lc_wrap (n := 4) hX hl.1 hW hw4 hy rfl hm (Nat.le_of_ble_eq_true rfl) hP hS hcells hslots w2 (fun H locs hP hS => ?_)
  refine lv_istore hx hb w3 hl (by decide) rfl (fun sl hl => ?_)
  refine lv_aload_n hx hb w4 rfl (lv_at hl 3 rfl) ?_
  refine la_ld (k := 1) hX hS (lv_at hl 1 rfl) (lv_at hl 6 rfl) (by omega) (by decide) hb00 ?_
  refine la_ld (k := 2) hX hS (lv_at hl 1 rfl) (lv_at hl 6 rfl) (by omega) (by decide) hb10 ?_
  refine W.eq (g2 := F0 m (p0 + 32) sl ((([vI (xs (i + 1)), vI (xs (i + 2))] : List VL).map (toV B adK)).reverse ++ .ref (B + 312) :: [])) rfl ?_
  refine lc_mod (as := [vI (xs (i + 1)), vI (xs (i + 2))]) hX hl.1 hμ hst hcl hn.symm (fun w hw => by simp only [List.mem_cons, List.not_mem_nil, or_false] at hw; rcases hw with rfl | rfl <;> exact trivial) hMc hw5 (Nat.le_of_ble_eq_true rfl) hP hS hcells hslots v1 (fun H locs hP hS => ?_)
  refine lv_istore hx hb v2 hl (by decide) rfl (fun sl hl => ?_)
  exact tl_i (t := hp2 (10, 0, 0) 0) hX hl rfl hf1 hP hS hcells hslots ho ht0 ht1 (fun sl H locs hl hP hS => kk sl H locs hp2 _ _ hl hP hS hI2)
theorem cs_01i {p0 iw im μ maxL tb : Nat} {y : MethodName} {bytes : ByteArray} {hh : List (Nat × Nat × Nat × Nat)} {cs : List Nat} {off : Int} {C : HP → Option ((Int32 ⊕ Nat) × HP)} {M : HP → Option (Int32 × HP)} (hX : LawX p l s m meth c R sargs b Ls xs B D G L adK adV adM) (hl : lv_has sl 9 (lwL b B i)) (hP : LwS B D G L hp f g H) (hS : va_S (ab B) s.heap H locs) (hi : i + 6 ≤ Ls) (hcells : cells + 1 ≤ R.cells) (hslots : slots + 6 ≤ R.slots) (htb : tb < 500000000) (hI : Inv tb hp hp) (hop : Op (agr cs) C M)
    (hC : ∀ r hp1, C hp = some (r, hp1) → ∀ bb t, agr cs r bb t → ∃ f1, WrM l B D G L adK adV adM y bytes maxL hh [.ref B, .int (xs (i + 1)), .int (bI (xs (i + 2))), .ref (B + 326)] hp f g t hp1 f1 g ∧ (t = 0 → f1 0 = bb.toInt64))
    (hM : ∀ hp1 bb hp2, M hp1 = some (bb, hp2) → Calls 9 μ (vR (10, 0, 0) :: [vI (xs (i + 1)), vI (bI (xs (i + 2)))]) hp1 (.inl (some (vI bb)), hp2))
    (hw : ([.codeWith y bytes maxL (some .int) hh, .methodLink RL iw y, .static y, .initialized y.cls, .methodLink RL im (nameOf μ)] : List Jvm.Cond).all (fun w => decide (w ∈ lw_tbl) && goodWord w) = true)
    (hy : y.cls ≠ "java/lang/invoke/MethodHandle" ∧ y.cls ≠ "java/lang/invoke/VarHandle" ∧ (parseMethodDescriptor y.desc).map (fun d => d.parameters.length) = some 4) (hm : maxL ≤ 5) (hμ : μ < 290) (hst : (mus μ).2.1 = false) (hcl : clOf μ = 10) (hn : (mus μ).2.2 = 2)
    (h0 : decode code p0 = .ok (.aload_n 1, 1)) (ha00 : decode code (p0 + 1) = .ok (.aload_n 0, 1) ∧ decode code (p0 + 2) = .ok (.iload 5, 2) ∧ decode code (p0 + 4) = .ok (.iconst 1, 1) ∧ decode code (p0 + 5) = .ok (.iadd, 1) ∧ decode code (p0 + 6) = .ok (.iaload, 1)) (ha10 : decode code (p0 + 7) = .ok (.aload_n 0, 1) ∧ decode code (p0 + 8) = .ok (.iload 5, 2) ∧ decode code (p0 + 10) = .ok (.iconst 2, 1) ∧ decode code (p0 + 11) = .ok (.iadd, 1) ∧ decode code (p0 + 12) = .ok (.iaload, 1)) (ha11 : decode code (p0 + 13) = .ok (.ifCond .eq 7, 3) ∧ decode code (p0 + 16) = .ok (.iconst 1, 1) ∧ decode code (p0 + 17) = .ok (.goto 4, 3) ∧ decode code (p0 + 20) = .ok (.iconst 0, 1)) (h1 : decode code (p0 + 21) = .ok (.aload_n 3, 1) ∧ decode code (p0 + 22) = .ok (.invokestatic iw, 3) ∧ decode code (p0 + 25) = .ok (.istore 6, 2) ∧ decode code (p0 + 27) = .ok (.aload_n 2, 1)) (hb00 : decode code (p0 + 28) = .ok (.aload_n 0, 1) ∧ decode code (p0 + 29) = .ok (.iload 5, 2) ∧ decode code (p0 + 31) = .ok (.iconst 1, 1) ∧ decode code (p0 + 32) = .ok (.iadd, 1) ∧ decode code (p0 + 33) = .ok (.iaload, 1)) (hb10 : decode code (p0 + 34) = .ok (.aload_n 0, 1) ∧ decode code (p0 + 35) = .ok (.iload 5, 2) ∧ decode code (p0 + 37) = .ok (.iconst 2, 1) ∧ decode code (p0 + 38) = .ok (.iadd, 1) ∧ decode code (p0 + 39) = .ok (.iaload, 1)) (hb11 : decode code (p0 + 40) = .ok (.ifCond .eq 7, 3) ∧ decode code (p0 + 43) = .ok (.iconst 1, 1) ∧ decode code (p0 + 44) = .ok (.goto 4, 3) ∧ decode code (p0 + 47) = .ok (.iconst 0, 1)) (h2 : decode code (p0 + 48) = .ok (.invokevirtual im, 3) ∧ decode code (p0 + 51) = .ok (.istore 7, 2)) (ht0 : decode code (p0 + 53) = .ok (.aload_n 2, 1) ∧ decode code (p0 + 54) = .ok (.invokevirtual 180, 3) ∧ decode code (p0 + 57) = .ok (.iload 6, 2) ∧ decode code (p0 + 59) = .ok (.if_icmp .eq 5, 3)) (ht1 : decode code (p0 + 64) = .ok (.iload 6, 2) ∧ decode code (p0 + 66) = .ok (.ifCond .ne 15, 3) ∧ decode code (p0 + 69) = .ok (.aload_n 3, 1) ∧ decode code (p0 + 70) = .ok (.iconst 0, 1) ∧ decode code (p0 + 71) = .ok (.laload, 1) ∧ decode code (p0 + 72) = .ok (.iload 7, 2) ∧ decode code (p0 + 74) = .ok (.i2l, 1) ∧ decode code (p0 + 75) = .ok (.lcmp, 1) ∧ decode code (p0 + 76) = .ok (.ifCond .eq 5, 3) ∧ decode code (p0 + 81) = .ok (.goto off, 3))
    (ho : ((p0 + 81 : Nat) : Int) + off = 3098)
    (kk : ∀ sl H locs hp1 f1 g1, lv_has sl 9 (lwL b B i) → LwS B D G L hp1 f1 g1 H → va_S (ab B) s.heap H locs → Inv (tb + 600000) hp1 hp1 → W p l e R s m sargs below meth c H locs (cells + 1) (slots + 6) Q (F0 m 3098 sl [])) : W p l e R s m sargs below meth c H locs cells slots Q (F0 m p0 sl []) := by
  obtain ⟨r, hp1, bb, hp2, e1, e2, hag, hI2⟩ := hop.join htb hI
  obtain ⟨f1, hW, hf1⟩ := hC r hp1 e1 bb _ hag
  have hMc := hM hp1 bb hp2 e2
  have hX2 := hX
  obtain ⟨hx, hb, hml, hts, hown, hE, hfl, hSc, hbl, hbB, hL, hRf, hRl⟩ := hX2
  obtain ⟨w1, w2, w3, w4⟩ := h1
  obtain ⟨v1, v2⟩ := h2
  have hw4 : ([.codeWith y bytes maxL (some .int) hh, .methodLink RL iw y, .static y, .initialized y.cls] : List Jvm.Cond).all (fun w => decide (w ∈ lw_tbl) && goodWord w) = true := by
    simp only [List.all_cons, List.all_nil, Bool.and_eq_true] at hw ⊢
    exact ⟨hw.1, hw.2.1, hw.2.2.1, hw.2.2.2.1, trivial⟩
  have hw5 : Jvm.Cond.methodLink RL im (nameOf μ) ∈ lwG := by
    simp only [List.all_cons, List.all_nil, Bool.and_eq_true, decide_eq_true_eq] at hw
    exact List.mem_filter.mpr hw.2.2.2.2.1
  refine lv_aload_n hx hb h0 rfl (lv_at hl 1 rfl) ?_
  refine la_ld (k := 1) hX hS (lv_at hl 0 rfl) (lv_at hl 5 rfl) (by omega) (by decide) ha00 ?_
  refine la_ldb (k := 2) hX hS (lv_at hl 0 rfl) (lv_at hl 5 rfl) (by omega) (by decide) ha10 ha11 ?_
  refine lv_aload_n hx hb w1 rfl (lv_at hl 3 rfl) ?_
  refine W.eq (g2 := F0 m (p0 + 22) sl (([.ref B, .int (xs (i + 1)), .int (bI (xs (i + 2))), .ref (B + 326)] : List Value).reverse ++ [])) rfl ?_
  refine lc_wrap (n := 4) hX hl.1 hW hw4 hy rfl hm (Nat.le_of_ble_eq_true rfl) hP hS hcells hslots w2 (fun H locs hP hS => ?_)
  refine lv_istore hx hb w3 hl (by decide) rfl (fun sl hl => ?_)
  refine lv_aload_n hx hb w4 rfl (lv_at hl 3 rfl) ?_
  refine la_ld (k := 1) hX hS (lv_at hl 1 rfl) (lv_at hl 6 rfl) (by omega) (by decide) hb00 ?_
  refine la_ldb (k := 2) hX hS (lv_at hl 1 rfl) (lv_at hl 6 rfl) (by omega) (by decide) hb10 hb11 ?_
  refine W.eq (g2 := F0 m (p0 + 48) sl ((([vI (xs (i + 1)), vI (bI (xs (i + 2)))] : List VL).map (toV B adK)).reverse ++ .ref (B + 312) :: [])) rfl ?_
  refine lc_mod (as := [vI (xs (i + 1)), vI (bI (xs (i + 2)))]) hX hl.1 hμ hst hcl hn.symm (fun w hw => by simp only [List.mem_cons, List.not_mem_nil, or_false] at hw; rcases hw with rfl | rfl <;> exact trivial) hMc hw5 (Nat.le_of_ble_eq_true rfl) hP hS hcells hslots v1 (fun H locs hP hS => ?_)
  refine lv_istore hx hb v2 hl (by decide) rfl (fun sl hl => ?_)
  exact tl_i (t := hp2 (10, 0, 0) 0) hX hl rfl hf1 hP hS hcells hslots ho ht0 ht1 (fun sl H locs hl hP hS => kk sl H locs hp2 _ _ hl hP hS hI2)
theorem cs_10i {p0 iw im μ maxL tb : Nat} {y : MethodName} {bytes : ByteArray} {hh : List (Nat × Nat × Nat × Nat)} {cs : List Nat} {off : Int} {C : HP → Option ((Int32 ⊕ Nat) × HP)} {M : HP → Option (Int32 × HP)} (hX : LawX p l s m meth c R sargs b Ls xs B D G L adK adV adM) (hl : lv_has sl 9 (lwL b B i)) (hP : LwS B D G L hp f g H) (hS : va_S (ab B) s.heap H locs) (hi : i + 6 ≤ Ls) (hcells : cells + 1 ≤ R.cells) (hslots : slots + 6 ≤ R.slots) (htb : tb < 500000000) (hI : Inv tb hp hp) (hop : Op (agr cs) C M)
    (hC : ∀ r hp1, C hp = some (r, hp1) → ∀ bb t, agr cs r bb t → ∃ f1, WrM l B D G L adK adV adM y bytes maxL hh [.ref B, .int (bI (xs (i + 1))), .int (xs (i + 2)), .ref (B + 326)] hp f g t hp1 f1 g ∧ (t = 0 → f1 0 = bb.toInt64))
    (hM : ∀ hp1 bb hp2, M hp1 = some (bb, hp2) → Calls 9 μ (vR (10, 0, 0) :: [vI (bI (xs (i + 1))), vI (xs (i + 2))]) hp1 (.inl (some (vI bb)), hp2))
    (hw : ([.codeWith y bytes maxL (some .int) hh, .methodLink RL iw y, .static y, .initialized y.cls, .methodLink RL im (nameOf μ)] : List Jvm.Cond).all (fun w => decide (w ∈ lw_tbl) && goodWord w) = true)
    (hy : y.cls ≠ "java/lang/invoke/MethodHandle" ∧ y.cls ≠ "java/lang/invoke/VarHandle" ∧ (parseMethodDescriptor y.desc).map (fun d => d.parameters.length) = some 4) (hm : maxL ≤ 5) (hμ : μ < 290) (hst : (mus μ).2.1 = false) (hcl : clOf μ = 10) (hn : (mus μ).2.2 = 2)
    (h0 : decode code p0 = .ok (.aload_n 1, 1)) (ha00 : decode code (p0 + 1) = .ok (.aload_n 0, 1) ∧ decode code (p0 + 2) = .ok (.iload 5, 2) ∧ decode code (p0 + 4) = .ok (.iconst 1, 1) ∧ decode code (p0 + 5) = .ok (.iadd, 1) ∧ decode code (p0 + 6) = .ok (.iaload, 1)) (ha01 : decode code (p0 + 7) = .ok (.ifCond .eq 7, 3) ∧ decode code (p0 + 10) = .ok (.iconst 1, 1) ∧ decode code (p0 + 11) = .ok (.goto 4, 3) ∧ decode code (p0 + 14) = .ok (.iconst 0, 1)) (ha10 : decode code (p0 + 15) = .ok (.aload_n 0, 1) ∧ decode code (p0 + 16) = .ok (.iload 5, 2) ∧ decode code (p0 + 18) = .ok (.iconst 2, 1) ∧ decode code (p0 + 19) = .ok (.iadd, 1) ∧ decode code (p0 + 20) = .ok (.iaload, 1)) (h1 : decode code (p0 + 21) = .ok (.aload_n 3, 1) ∧ decode code (p0 + 22) = .ok (.invokestatic iw, 3) ∧ decode code (p0 + 25) = .ok (.istore 6, 2) ∧ decode code (p0 + 27) = .ok (.aload_n 2, 1)) (hb00 : decode code (p0 + 28) = .ok (.aload_n 0, 1) ∧ decode code (p0 + 29) = .ok (.iload 5, 2) ∧ decode code (p0 + 31) = .ok (.iconst 1, 1) ∧ decode code (p0 + 32) = .ok (.iadd, 1) ∧ decode code (p0 + 33) = .ok (.iaload, 1)) (hb01 : decode code (p0 + 34) = .ok (.ifCond .eq 7, 3) ∧ decode code (p0 + 37) = .ok (.iconst 1, 1) ∧ decode code (p0 + 38) = .ok (.goto 4, 3) ∧ decode code (p0 + 41) = .ok (.iconst 0, 1)) (hb10 : decode code (p0 + 42) = .ok (.aload_n 0, 1) ∧ decode code (p0 + 43) = .ok (.iload 5, 2) ∧ decode code (p0 + 45) = .ok (.iconst 2, 1) ∧ decode code (p0 + 46) = .ok (.iadd, 1) ∧ decode code (p0 + 47) = .ok (.iaload, 1)) (h2 : decode code (p0 + 48) = .ok (.invokevirtual im, 3) ∧ decode code (p0 + 51) = .ok (.istore 7, 2)) (ht0 : decode code (p0 + 53) = .ok (.aload_n 2, 1) ∧ decode code (p0 + 54) = .ok (.invokevirtual 180, 3) ∧ decode code (p0 + 57) = .ok (.iload 6, 2) ∧ decode code (p0 + 59) = .ok (.if_icmp .eq 5, 3)) (ht1 : decode code (p0 + 64) = .ok (.iload 6, 2) ∧ decode code (p0 + 66) = .ok (.ifCond .ne 15, 3) ∧ decode code (p0 + 69) = .ok (.aload_n 3, 1) ∧ decode code (p0 + 70) = .ok (.iconst 0, 1) ∧ decode code (p0 + 71) = .ok (.laload, 1) ∧ decode code (p0 + 72) = .ok (.iload 7, 2) ∧ decode code (p0 + 74) = .ok (.i2l, 1) ∧ decode code (p0 + 75) = .ok (.lcmp, 1) ∧ decode code (p0 + 76) = .ok (.ifCond .eq 5, 3) ∧ decode code (p0 + 81) = .ok (.goto off, 3))
    (ho : ((p0 + 81 : Nat) : Int) + off = 3098)
    (kk : ∀ sl H locs hp1 f1 g1, lv_has sl 9 (lwL b B i) → LwS B D G L hp1 f1 g1 H → va_S (ab B) s.heap H locs → Inv (tb + 600000) hp1 hp1 → W p l e R s m sargs below meth c H locs (cells + 1) (slots + 6) Q (F0 m 3098 sl [])) : W p l e R s m sargs below meth c H locs cells slots Q (F0 m p0 sl []) := by
  obtain ⟨r, hp1, bb, hp2, e1, e2, hag, hI2⟩ := hop.join htb hI
  obtain ⟨f1, hW, hf1⟩ := hC r hp1 e1 bb _ hag
  have hMc := hM hp1 bb hp2 e2
  have hX2 := hX
  obtain ⟨hx, hb, hml, hts, hown, hE, hfl, hSc, hbl, hbB, hL, hRf, hRl⟩ := hX2
  obtain ⟨w1, w2, w3, w4⟩ := h1
  obtain ⟨v1, v2⟩ := h2
  have hw4 : ([.codeWith y bytes maxL (some .int) hh, .methodLink RL iw y, .static y, .initialized y.cls] : List Jvm.Cond).all (fun w => decide (w ∈ lw_tbl) && goodWord w) = true := by
    simp only [List.all_cons, List.all_nil, Bool.and_eq_true] at hw ⊢
    exact ⟨hw.1, hw.2.1, hw.2.2.1, hw.2.2.2.1, trivial⟩
  have hw5 : Jvm.Cond.methodLink RL im (nameOf μ) ∈ lwG := by
    simp only [List.all_cons, List.all_nil, Bool.and_eq_true, decide_eq_true_eq] at hw
    exact List.mem_filter.mpr hw.2.2.2.2.1
  refine lv_aload_n hx hb h0 rfl (lv_at hl 1 rfl) ?_
  refine la_ldb (k := 1) hX hS (lv_at hl 0 rfl) (lv_at hl 5 rfl) (by omega) (by decide) ha00 ha01 ?_
  refine la_ld (k := 2) hX hS (lv_at hl 0 rfl) (lv_at hl 5 rfl) (by omega) (by decide) ha10 ?_
  refine lv_aload_n hx hb w1 rfl (lv_at hl 3 rfl) ?_
  refine W.eq (g2 := F0 m (p0 + 22) sl (([.ref B, .int (bI (xs (i + 1))), .int (xs (i + 2)), .ref (B + 326)] : List Value).reverse ++ [])) rfl ?_
  refine lc_wrap (n := 4) hX hl.1 hW hw4 hy rfl hm (Nat.le_of_ble_eq_true rfl) hP hS hcells hslots w2 (fun H locs hP hS => ?_)
  refine lv_istore hx hb w3 hl (by decide) rfl (fun sl hl => ?_)
  refine lv_aload_n hx hb w4 rfl (lv_at hl 3 rfl) ?_
  refine la_ldb (k := 1) hX hS (lv_at hl 1 rfl) (lv_at hl 6 rfl) (by omega) (by decide) hb00 hb01 ?_
  refine la_ld (k := 2) hX hS (lv_at hl 1 rfl) (lv_at hl 6 rfl) (by omega) (by decide) hb10 ?_
  refine W.eq (g2 := F0 m (p0 + 48) sl ((([vI (bI (xs (i + 1))), vI (xs (i + 2))] : List VL).map (toV B adK)).reverse ++ .ref (B + 312) :: [])) rfl ?_
  refine lc_mod (as := [vI (bI (xs (i + 1))), vI (xs (i + 2))]) hX hl.1 hμ hst hcl hn.symm (fun w hw => by simp only [List.mem_cons, List.not_mem_nil, or_false] at hw; rcases hw with rfl | rfl <;> exact trivial) hMc hw5 (Nat.le_of_ble_eq_true rfl) hP hS hcells hslots v1 (fun H locs hP hS => ?_)
  refine lv_istore hx hb v2 hl (by decide) rfl (fun sl hl => ?_)
  exact tl_i (t := hp2 (10, 0, 0) 0) hX hl rfl hf1 hP hS hcells hslots ho ht0 ht1 (fun sl H locs hl hP hS => kk sl H locs hp2 _ _ hl hP hS hI2)
theorem cs_0b {p0 iw im μ maxL tb : Nat} {y : MethodName} {bytes : ByteArray} {hh : List (Nat × Nat × Nat × Nat)} {cs : List Nat} {off : Int} {C : HP → Option ((Int32 ⊕ Nat) × HP)} {M : HP → Option (Int32 × HP)} (hX : LawX p l s m meth c R sargs b Ls xs B D G L adK adV adM) (hl : lv_has sl 9 (lwL b B i)) (hP : LwS B D G L hp f g H) (hS : va_S (ab B) s.heap H locs) (hi : i + 6 ≤ Ls) (hcells : cells + 1 ≤ R.cells) (hslots : slots + 6 ≤ R.slots) (htb : tb < 500000000) (hI : Inv tb hp hp) (hop : Op (agr cs) C M)
    (hC : ∀ r hp1, C hp = some (r, hp1) → ∀ bb t, agr cs r bb t → ∃ f1, WrM l B D G L adK adV adM y bytes maxL hh [.ref B, .int (xs (i + 1)), .ref (B + 326)] hp f g t hp1 f1 g ∧ (t = 0 → f1 0 = bV bb))
    (hM : ∀ hp1 bb hp2, M hp1 = some (bb, hp2) → Calls 9 μ (vR (10, 0, 0) :: [vI (xs (i + 1))]) hp1 (.inl (some (vI bb)), hp2))
    (hw : ([.codeWith y bytes maxL (some .int) hh, .methodLink RL iw y, .static y, .initialized y.cls, .methodLink RL im (nameOf μ)] : List Jvm.Cond).all (fun w => decide (w ∈ lw_tbl) && goodWord w) = true)
    (hy : y.cls ≠ "java/lang/invoke/MethodHandle" ∧ y.cls ≠ "java/lang/invoke/VarHandle" ∧ (parseMethodDescriptor y.desc).map (fun d => d.parameters.length) = some 3) (hm : maxL ≤ 5) (hμ : μ < 290) (hst : (mus μ).2.1 = false) (hcl : clOf μ = 10) (hn : (mus μ).2.2 = 1)
    (h0 : decode code p0 = .ok (.aload_n 1, 1)) (ha00 : decode code (p0 + 1) = .ok (.aload_n 0, 1) ∧ decode code (p0 + 2) = .ok (.iload 5, 2) ∧ decode code (p0 + 4) = .ok (.iconst 1, 1) ∧ decode code (p0 + 5) = .ok (.iadd, 1) ∧ decode code (p0 + 6) = .ok (.iaload, 1)) (h1 : decode code (p0 + 7) = .ok (.aload_n 3, 1) ∧ decode code (p0 + 8) = .ok (.invokestatic iw, 3) ∧ decode code (p0 + 11) = .ok (.istore 6, 2) ∧ decode code (p0 + 13) = .ok (.aload_n 2, 1)) (hb00 : decode code (p0 + 14) = .ok (.aload_n 0, 1) ∧ decode code (p0 + 15) = .ok (.iload 5, 2) ∧ decode code (p0 + 17) = .ok (.iconst 1, 1) ∧ decode code (p0 + 18) = .ok (.iadd, 1) ∧ decode code (p0 + 19) = .ok (.iaload, 1)) (h2 : decode code (p0 + 20) = .ok (.invokevirtual im, 3) ∧ decode code (p0 + 23) = .ok (.istore 7, 2)) (ht0 : decode code (p0 + 25) = .ok (.aload_n 2, 1) ∧ decode code (p0 + 26) = .ok (.invokevirtual 180, 3) ∧ decode code (p0 + 29) = .ok (.iload 6, 2) ∧ decode code (p0 + 31) = .ok (.if_icmp .eq 5, 3)) (ht1 : decode code (p0 + 36) = .ok (.iload 6, 2) ∧ decode code (p0 + 38) = .ok (.ifCond .ne 22, 3) ∧ decode code (p0 + 41) = .ok (.aload_n 3, 1) ∧ decode code (p0 + 42) = .ok (.iconst 0, 1) ∧ decode code (p0 + 43) = .ok (.laload, 1) ∧ decode code (p0 + 44) = .ok (.iload 7, 2)) (ht2 : decode code (p0 + 46) = .ok (.ifCond .eq 7, 3) ∧ decode code (p0 + 49) = .ok (.lconst 1, 1) ∧ decode code (p0 + 50) = .ok (.goto 4, 3) ∧ decode code (p0 + 53) = .ok (.lconst 0, 1) ∧ decode code (p0 + 54) = .ok (.lcmp, 1) ∧ decode code (p0 + 55) = .ok (.ifCond .eq 5, 3) ∧ decode code (p0 + 60) = .ok (.goto off, 3))
    (ho : ((p0 + 60 : Nat) : Int) + off = 3098)
    (kk : ∀ sl H locs hp1 f1 g1, lv_has sl 9 (lwL b B i) → LwS B D G L hp1 f1 g1 H → va_S (ab B) s.heap H locs → Inv (tb + 600000) hp1 hp1 → W p l e R s m sargs below meth c H locs (cells + 1) (slots + 6) Q (F0 m 3098 sl [])) : W p l e R s m sargs below meth c H locs cells slots Q (F0 m p0 sl []) := by
  obtain ⟨r, hp1, bb, hp2, e1, e2, hag, hI2⟩ := hop.join htb hI
  obtain ⟨f1, hW, hf1⟩ := hC r hp1 e1 bb _ hag
  have hMc := hM hp1 bb hp2 e2
  have hX2 := hX
  obtain ⟨hx, hb, hml, hts, hown, hE, hfl, hSc, hbl, hbB, hL, hRf, hRl⟩ := hX2
  obtain ⟨w1, w2, w3, w4⟩ := h1
  obtain ⟨v1, v2⟩ := h2
  have hw4 : ([.codeWith y bytes maxL (some .int) hh, .methodLink RL iw y, .static y, .initialized y.cls] : List Jvm.Cond).all (fun w => decide (w ∈ lw_tbl) && goodWord w) = true := by
    simp only [List.all_cons, List.all_nil, Bool.and_eq_true] at hw ⊢
    exact ⟨hw.1, hw.2.1, hw.2.2.1, hw.2.2.2.1, trivial⟩
  have hw5 : Jvm.Cond.methodLink RL im (nameOf μ) ∈ lwG := by
    simp only [List.all_cons, List.all_nil, Bool.and_eq_true, decide_eq_true_eq] at hw
    exact List.mem_filter.mpr hw.2.2.2.2.1
  refine lv_aload_n hx hb h0 rfl (lv_at hl 1 rfl) ?_
  refine la_ld (k := 1) hX hS (lv_at hl 0 rfl) (lv_at hl 5 rfl) (by omega) (by decide) ha00 ?_
  refine lv_aload_n hx hb w1 rfl (lv_at hl 3 rfl) ?_
  refine W.eq (g2 := F0 m (p0 + 8) sl (([.ref B, .int (xs (i + 1)), .ref (B + 326)] : List Value).reverse ++ [])) rfl ?_
  refine lc_wrap (n := 3) hX hl.1 hW hw4 hy rfl hm (Nat.le_of_ble_eq_true rfl) hP hS hcells hslots w2 (fun H locs hP hS => ?_)
  refine lv_istore hx hb w3 hl (by decide) rfl (fun sl hl => ?_)
  refine lv_aload_n hx hb w4 rfl (lv_at hl 3 rfl) ?_
  refine la_ld (k := 1) hX hS (lv_at hl 1 rfl) (lv_at hl 6 rfl) (by omega) (by decide) hb00 ?_
  refine W.eq (g2 := F0 m (p0 + 20) sl ((([vI (xs (i + 1))] : List VL).map (toV B adK)).reverse ++ .ref (B + 312) :: [])) rfl ?_
  refine lc_mod (as := [vI (xs (i + 1))]) hX hl.1 hμ hst hcl hn.symm (fun w hw => by simp only [List.mem_cons, List.not_mem_nil, or_false] at hw; rcases hw with rfl <;> exact trivial) hMc hw5 (Nat.le_of_ble_eq_true rfl) hP hS hcells hslots v1 (fun H locs hP hS => ?_)
  refine lv_istore hx hb v2 hl (by decide) rfl (fun sl hl => ?_)
  exact tl_b (t := hp2 (10, 0, 0) 0) hX hl rfl hf1 hP hS hcells hslots ho ht0 ht1 ht2 (fun sl H locs hl hP hS => kk sl H locs hp2 _ _ hl hP hS hI2)
theorem cs_01b {p0 iw im μ maxL tb : Nat} {y : MethodName} {bytes : ByteArray} {hh : List (Nat × Nat × Nat × Nat)} {cs : List Nat} {off : Int} {C : HP → Option ((Int32 ⊕ Nat) × HP)} {M : HP → Option (Int32 × HP)} (hX : LawX p l s m meth c R sargs b Ls xs B D G L adK adV adM) (hl : lv_has sl 9 (lwL b B i)) (hP : LwS B D G L hp f g H) (hS : va_S (ab B) s.heap H locs) (hi : i + 6 ≤ Ls) (hcells : cells + 1 ≤ R.cells) (hslots : slots + 6 ≤ R.slots) (htb : tb < 500000000) (hI : Inv tb hp hp) (hop : Op (agr cs) C M)
    (hC : ∀ r hp1, C hp = some (r, hp1) → ∀ bb t, agr cs r bb t → ∃ f1, WrM l B D G L adK adV adM y bytes maxL hh [.ref B, .int (xs (i + 1)), .int (bI (xs (i + 2))), .ref (B + 326)] hp f g t hp1 f1 g ∧ (t = 0 → f1 0 = bV bb))
    (hM : ∀ hp1 bb hp2, M hp1 = some (bb, hp2) → Calls 9 μ (vR (10, 0, 0) :: [vI (xs (i + 1)), vI (bI (xs (i + 2)))]) hp1 (.inl (some (vI bb)), hp2))
    (hw : ([.codeWith y bytes maxL (some .int) hh, .methodLink RL iw y, .static y, .initialized y.cls, .methodLink RL im (nameOf μ)] : List Jvm.Cond).all (fun w => decide (w ∈ lw_tbl) && goodWord w) = true)
    (hy : y.cls ≠ "java/lang/invoke/MethodHandle" ∧ y.cls ≠ "java/lang/invoke/VarHandle" ∧ (parseMethodDescriptor y.desc).map (fun d => d.parameters.length) = some 4) (hm : maxL ≤ 5) (hμ : μ < 290) (hst : (mus μ).2.1 = false) (hcl : clOf μ = 10) (hn : (mus μ).2.2 = 2)
    (h0 : decode code p0 = .ok (.aload_n 1, 1)) (ha00 : decode code (p0 + 1) = .ok (.aload_n 0, 1) ∧ decode code (p0 + 2) = .ok (.iload 5, 2) ∧ decode code (p0 + 4) = .ok (.iconst 1, 1) ∧ decode code (p0 + 5) = .ok (.iadd, 1) ∧ decode code (p0 + 6) = .ok (.iaload, 1)) (ha10 : decode code (p0 + 7) = .ok (.aload_n 0, 1) ∧ decode code (p0 + 8) = .ok (.iload 5, 2) ∧ decode code (p0 + 10) = .ok (.iconst 2, 1) ∧ decode code (p0 + 11) = .ok (.iadd, 1) ∧ decode code (p0 + 12) = .ok (.iaload, 1)) (ha11 : decode code (p0 + 13) = .ok (.ifCond .eq 7, 3) ∧ decode code (p0 + 16) = .ok (.iconst 1, 1) ∧ decode code (p0 + 17) = .ok (.goto 4, 3) ∧ decode code (p0 + 20) = .ok (.iconst 0, 1)) (h1 : decode code (p0 + 21) = .ok (.aload_n 3, 1) ∧ decode code (p0 + 22) = .ok (.invokestatic iw, 3) ∧ decode code (p0 + 25) = .ok (.istore 6, 2) ∧ decode code (p0 + 27) = .ok (.aload_n 2, 1)) (hb00 : decode code (p0 + 28) = .ok (.aload_n 0, 1) ∧ decode code (p0 + 29) = .ok (.iload 5, 2) ∧ decode code (p0 + 31) = .ok (.iconst 1, 1) ∧ decode code (p0 + 32) = .ok (.iadd, 1) ∧ decode code (p0 + 33) = .ok (.iaload, 1)) (hb10 : decode code (p0 + 34) = .ok (.aload_n 0, 1) ∧ decode code (p0 + 35) = .ok (.iload 5, 2) ∧ decode code (p0 + 37) = .ok (.iconst 2, 1) ∧ decode code (p0 + 38) = .ok (.iadd, 1) ∧ decode code (p0 + 39) = .ok (.iaload, 1)) (hb11 : decode code (p0 + 40) = .ok (.ifCond .eq 7, 3) ∧ decode code (p0 + 43) = .ok (.iconst 1, 1) ∧ decode code (p0 + 44) = .ok (.goto 4, 3) ∧ decode code (p0 + 47) = .ok (.iconst 0, 1)) (h2 : decode code (p0 + 48) = .ok (.invokevirtual im, 3) ∧ decode code (p0 + 51) = .ok (.istore 7, 2)) (ht0 : decode code (p0 + 53) = .ok (.aload_n 2, 1) ∧ decode code (p0 + 54) = .ok (.invokevirtual 180, 3) ∧ decode code (p0 + 57) = .ok (.iload 6, 2) ∧ decode code (p0 + 59) = .ok (.if_icmp .eq 5, 3)) (ht1 : decode code (p0 + 64) = .ok (.iload 6, 2) ∧ decode code (p0 + 66) = .ok (.ifCond .ne 22, 3) ∧ decode code (p0 + 69) = .ok (.aload_n 3, 1) ∧ decode code (p0 + 70) = .ok (.iconst 0, 1) ∧ decode code (p0 + 71) = .ok (.laload, 1) ∧ decode code (p0 + 72) = .ok (.iload 7, 2)) (ht2 : decode code (p0 + 74) = .ok (.ifCond .eq 7, 3) ∧ decode code (p0 + 77) = .ok (.lconst 1, 1) ∧ decode code (p0 + 78) = .ok (.goto 4, 3) ∧ decode code (p0 + 81) = .ok (.lconst 0, 1) ∧ decode code (p0 + 82) = .ok (.lcmp, 1) ∧ decode code (p0 + 83) = .ok (.ifCond .eq 5, 3) ∧ decode code (p0 + 88) = .ok (.goto off, 3))
    (ho : ((p0 + 88 : Nat) : Int) + off = 3098)
    (kk : ∀ sl H locs hp1 f1 g1, lv_has sl 9 (lwL b B i) → LwS B D G L hp1 f1 g1 H → va_S (ab B) s.heap H locs → Inv (tb + 600000) hp1 hp1 → W p l e R s m sargs below meth c H locs (cells + 1) (slots + 6) Q (F0 m 3098 sl [])) : W p l e R s m sargs below meth c H locs cells slots Q (F0 m p0 sl []) := by
  obtain ⟨r, hp1, bb, hp2, e1, e2, hag, hI2⟩ := hop.join htb hI
  obtain ⟨f1, hW, hf1⟩ := hC r hp1 e1 bb _ hag
  have hMc := hM hp1 bb hp2 e2
  have hX2 := hX
  obtain ⟨hx, hb, hml, hts, hown, hE, hfl, hSc, hbl, hbB, hL, hRf, hRl⟩ := hX2
  obtain ⟨w1, w2, w3, w4⟩ := h1
  obtain ⟨v1, v2⟩ := h2
  have hw4 : ([.codeWith y bytes maxL (some .int) hh, .methodLink RL iw y, .static y, .initialized y.cls] : List Jvm.Cond).all (fun w => decide (w ∈ lw_tbl) && goodWord w) = true := by
    simp only [List.all_cons, List.all_nil, Bool.and_eq_true] at hw ⊢
    exact ⟨hw.1, hw.2.1, hw.2.2.1, hw.2.2.2.1, trivial⟩
  have hw5 : Jvm.Cond.methodLink RL im (nameOf μ) ∈ lwG := by
    simp only [List.all_cons, List.all_nil, Bool.and_eq_true, decide_eq_true_eq] at hw
    exact List.mem_filter.mpr hw.2.2.2.2.1
  refine lv_aload_n hx hb h0 rfl (lv_at hl 1 rfl) ?_
  refine la_ld (k := 1) hX hS (lv_at hl 0 rfl) (lv_at hl 5 rfl) (by omega) (by decide) ha00 ?_
  refine la_ldb (k := 2) hX hS (lv_at hl 0 rfl) (lv_at hl 5 rfl) (by omega) (by decide) ha10 ha11 ?_
  refine lv_aload_n hx hb w1 rfl (lv_at hl 3 rfl) ?_
  refine W.eq (g2 := F0 m (p0 + 22) sl (([.ref B, .int (xs (i + 1)), .int (bI (xs (i + 2))), .ref (B + 326)] : List Value).reverse ++ [])) rfl ?_
  refine lc_wrap (n := 4) hX hl.1 hW hw4 hy rfl hm (Nat.le_of_ble_eq_true rfl) hP hS hcells hslots w2 (fun H locs hP hS => ?_)
  refine lv_istore hx hb w3 hl (by decide) rfl (fun sl hl => ?_)
  refine lv_aload_n hx hb w4 rfl (lv_at hl 3 rfl) ?_
  refine la_ld (k := 1) hX hS (lv_at hl 1 rfl) (lv_at hl 6 rfl) (by omega) (by decide) hb00 ?_
  refine la_ldb (k := 2) hX hS (lv_at hl 1 rfl) (lv_at hl 6 rfl) (by omega) (by decide) hb10 hb11 ?_
  refine W.eq (g2 := F0 m (p0 + 48) sl ((([vI (xs (i + 1)), vI (bI (xs (i + 2)))] : List VL).map (toV B adK)).reverse ++ .ref (B + 312) :: [])) rfl ?_
  refine lc_mod (as := [vI (xs (i + 1)), vI (bI (xs (i + 2)))]) hX hl.1 hμ hst hcl hn.symm (fun w hw => by simp only [List.mem_cons, List.not_mem_nil, or_false] at hw; rcases hw with rfl | rfl <;> exact trivial) hMc hw5 (Nat.le_of_ble_eq_true rfl) hP hS hcells hslots v1 (fun H locs hP hS => ?_)
  refine lv_istore hx hb v2 hl (by decide) rfl (fun sl hl => ?_)
  exact tl_b (t := hp2 (10, 0, 0) 0) hX hl rfl hf1 hP hS hcells hslots ho ht0 ht1 ht2 (fun sl H locs hl hP hS => kk sl H locs hp2 _ _ hl hP hS hI2)
theorem cs_nd {p0 iw im μ maxL tb : Nat} {y : MethodName} {bytes : ByteArray} {hh : List (Nat × Nat × Nat × Nat)} {cs : List Nat} {off : Int} {op : CmpOp} {C : HP → Option ((UInt64 ⊕ Nat) × HP)} {M : HP → Option (UInt64 × HP)} (hX : LawX p l s m meth c R sargs b Ls xs B D G L adK adV adM) (hl : lv_has sl 9 (lwL b B i)) (hP : LwS B D G L hp f g H) (hS : va_S (ab B) s.heap H locs) (hi : i + 6 ≤ Ls) (hcells : cells + 1 ≤ R.cells) (hslots : slots + 6 ≤ R.slots) (htb : tb < 500000000) (hI : Inv tb hp hp) (hop : Op (agr cs) C M)
    (hC : ∀ r hp1, C hp = some (r, hp1) → ∀ bb t, agr cs r bb t → ∃ g1, WrM l B D G L adK adV adM y bytes maxL hh [.ref B, .ref (B + 327)] hp f g t hp1 f g1 ∧ (t = 0 → g1 0 = bb ∧ vf_n64 bb))
    (hM : ∀ hp1 bb hp2, M hp1 = some (bb, hp2) → Calls 9 μ (vR (10, 0, 0) :: []) hp1 (.inl (some (vD bb)), hp2))
    (hw : ([.codeWith y bytes maxL (some .int) hh, .methodLink RL iw y, .static y, .initialized y.cls, .methodLink RL im (nameOf μ)] : List Jvm.Cond).all (fun w => decide (w ∈ lw_tbl) && goodWord w) = true)
    (hy : y.cls ≠ "java/lang/invoke/MethodHandle" ∧ y.cls ≠ "java/lang/invoke/VarHandle" ∧ (parseMethodDescriptor y.desc).map (fun d => d.parameters.length) = some 2) (hm : maxL ≤ 5) (hμ : μ < 290) (hst : (mus μ).2.1 = false) (hcl : clOf μ = 10) (hn : (mus μ).2.2 = 0)
    (h0 : decode code p0 = .ok (.aload_n 1, 1)) (h1 : decode code (p0 + 1) = .ok (.aload 4, 2) ∧ decode code (p0 + 3) = .ok (.invokestatic iw, 3) ∧ decode code (p0 + 6) = .ok (.istore 6, 2) ∧ decode code (p0 + 8) = .ok (.aload_n 2, 1)) (h2 : decode code (p0 + 9) = .ok (.invokevirtual im, 3) ∧ decode code (p0 + 12) = .ok (.dstore 7, 2)) (ht0 : decode code (p0 + 14) = .ok (.aload_n 2, 1) ∧ decode code (p0 + 15) = .ok (.invokevirtual 180, 3) ∧ decode code (p0 + 18) = .ok (.iload 6, 2) ∧ decode code (p0 + 20) = .ok (.if_icmp .eq 5, 3)) (ht1 : decode code (p0 + 25) = .ok (.iload 6, 2) ∧ decode code (p0 + 27) = .ok (.ifCond .ne 35, 3) ∧ decode code (p0 + 30) = .ok (.aload 4, 2) ∧ decode code (p0 + 32) = .ok (.iconst 0, 1) ∧ decode code (p0 + 33) = .ok (.daload, 1) ∧ decode code (p0 + 34) = .ok (.dload 7, 2) ∧ decode code (p0 + 36) = .ok (.dcmp op, 1) ∧ decode code (p0 + 37) = .ok (.ifCond .eq 25, 3) ∧ decode code (p0 + 62) = .ok (.goto off, 3))
    (ho : ((p0 + 62 : Nat) : Int) + off = 3098)
    (kk : ∀ sl H locs hp1 f1 g1, lv_has sl 9 (lwL b B i) → LwS B D G L hp1 f1 g1 H → va_S (ab B) s.heap H locs → Inv (tb + 600000) hp1 hp1 → W p l e R s m sargs below meth c H locs (cells + 1) (slots + 6) Q (F0 m 3098 sl [])) : W p l e R s m sargs below meth c H locs cells slots Q (F0 m p0 sl []) := by
  obtain ⟨r, hp1, bb, hp2, e1, e2, hag, hI2⟩ := hop.join htb hI
  obtain ⟨g1, hW, hf1⟩ := hC r hp1 e1 bb _ hag
  have hMc := hM hp1 bb hp2 e2
  have hX2 := hX
  obtain ⟨hx, hb, hml, hts, hown, hE, hfl, hSc, hbl, hbB, hL, hRf, hRl⟩ := hX2
  obtain ⟨w1, w2, w3, w4⟩ := h1
  obtain ⟨v1, v2⟩ := h2
  have hw4 : ([.codeWith y bytes maxL (some .int) hh, .methodLink RL iw y, .static y, .initialized y.cls] : List Jvm.Cond).all (fun w => decide (w ∈ lw_tbl) && goodWord w) = true := by
    simp only [List.all_cons, List.all_nil, Bool.and_eq_true] at hw ⊢
    exact ⟨hw.1, hw.2.1, hw.2.2.1, hw.2.2.2.1, trivial⟩
  have hw5 : Jvm.Cond.methodLink RL im (nameOf μ) ∈ lwG := by
    simp only [List.all_cons, List.all_nil, Bool.and_eq_true, decide_eq_true_eq] at hw
    exact List.mem_filter.mpr hw.2.2.2.2.1
  refine lv_aload_n hx hb h0 rfl (lv_at hl 1 rfl) ?_
  refine lv_aload hx hb w1 (lv_at hl 4 rfl) ?_
  refine W.eq (g2 := F0 m (p0 + 3) sl (([.ref B, .ref (B + 327)] : List Value).reverse ++ [])) rfl ?_
  refine lc_wrap (n := 2) hX hl.1 hW hw4 hy rfl hm (Nat.le_of_ble_eq_true rfl) hP hS hcells hslots w2 (fun H locs hP hS => ?_)
  refine lv_istore hx hb w3 hl (by decide) rfl (fun sl hl => ?_)
  refine lv_aload_n hx hb w4 rfl (lv_at hl 3 rfl) ?_
  refine W.eq (g2 := F0 m (p0 + 9) sl ((([] : List VL).map (toV B adK)).reverse ++ .ref (B + 312) :: [])) rfl ?_
  refine lc_mod (as := []) hX hl.1 hμ hst hcl hn.symm (fun w hw => absurd hw List.not_mem_nil) hMc hw5 (Nat.le_of_ble_eq_true rfl) hP hS hcells hslots v1 (fun H locs hP hS => ?_)
  refine lv_dstore hx hb v2 hl (by decide) rfl (fun sl hl => ?_)
  exact tl_d (t := hp2 (10, 0, 0) 0) hX hl rfl hf1 hP hS hcells hslots ho ht0 ht1 (fun sl H locs hl hP hS => kk sl H locs hp2 _ _ hl hP hS hI2)
theorem cs_nf {p0 iw im μ maxL tb : Nat} {y : MethodName} {bytes : ByteArray} {hh : List (Nat × Nat × Nat × Nat)} {cs : List Nat} {off : Int} {op : CmpOp} {C : HP → Option ((UInt32 ⊕ Nat) × HP)} {M : HP → Option (UInt32 × HP)} (hX : LawX p l s m meth c R sargs b Ls xs B D G L adK adV adM) (hl : lv_has sl 9 (lwL b B i)) (hP : LwS B D G L hp f g H) (hS : va_S (ab B) s.heap H locs) (hi : i + 6 ≤ Ls) (hcells : cells + 1 ≤ R.cells) (hslots : slots + 6 ≤ R.slots) (htb : tb < 500000000) (hI : Inv tb hp hp) (hop : Op (agr cs) C M)
    (hC : ∀ r hp1, C hp = some (r, hp1) → ∀ bb t, agr cs r bb t → ∃ g1, WrM l B D G L adK adV adM y bytes maxL hh [.ref B, .ref (B + 327)] hp f g t hp1 f g1 ∧ (t = 0 → g1 0 = FP.f2d bb ∧ vf_n64 (FP.f2d bb)))
    (hM : ∀ hp1 bb hp2, M hp1 = some (bb, hp2) → Calls 9 μ (vR (10, 0, 0) :: []) hp1 (.inl (some (vF bb)), hp2))
    (hw : ([.codeWith y bytes maxL (some .int) hh, .methodLink RL iw y, .static y, .initialized y.cls, .methodLink RL im (nameOf μ)] : List Jvm.Cond).all (fun w => decide (w ∈ lw_tbl) && goodWord w) = true)
    (hy : y.cls ≠ "java/lang/invoke/MethodHandle" ∧ y.cls ≠ "java/lang/invoke/VarHandle" ∧ (parseMethodDescriptor y.desc).map (fun d => d.parameters.length) = some 2) (hm : maxL ≤ 5) (hμ : μ < 290) (hst : (mus μ).2.1 = false) (hcl : clOf μ = 10) (hn : (mus μ).2.2 = 0)
    (h0 : decode code p0 = .ok (.aload_n 1, 1)) (h1 : decode code (p0 + 1) = .ok (.aload 4, 2) ∧ decode code (p0 + 3) = .ok (.invokestatic iw, 3) ∧ decode code (p0 + 6) = .ok (.istore 6, 2) ∧ decode code (p0 + 8) = .ok (.aload_n 2, 1)) (h2 : decode code (p0 + 9) = .ok (.invokevirtual im, 3) ∧ decode code (p0 + 12) = .ok (.fstore 7, 2)) (ht0 : decode code (p0 + 14) = .ok (.aload_n 2, 1) ∧ decode code (p0 + 15) = .ok (.invokevirtual 180, 3) ∧ decode code (p0 + 18) = .ok (.iload 6, 2) ∧ decode code (p0 + 20) = .ok (.if_icmp .eq 5, 3)) (ht1 : decode code (p0 + 25) = .ok (.iload 6, 2) ∧ decode code (p0 + 27) = .ok (.ifCond .ne 36, 3) ∧ decode code (p0 + 30) = .ok (.aload 4, 2) ∧ decode code (p0 + 32) = .ok (.iconst 0, 1) ∧ decode code (p0 + 33) = .ok (.daload, 1) ∧ decode code (p0 + 34) = .ok (.fload 7, 2) ∧ decode code (p0 + 36) = .ok (.f2d, 1) ∧ decode code (p0 + 37) = .ok (.dcmp op, 1) ∧ decode code (p0 + 38) = .ok (.ifCond .eq 25, 3) ∧ decode code (p0 + 63) = .ok (.goto off, 3))
    (ho : ((p0 + 63 : Nat) : Int) + off = 3098)
    (kk : ∀ sl H locs hp1 f1 g1, lv_has sl 9 (lwL b B i) → LwS B D G L hp1 f1 g1 H → va_S (ab B) s.heap H locs → Inv (tb + 600000) hp1 hp1 → W p l e R s m sargs below meth c H locs (cells + 1) (slots + 6) Q (F0 m 3098 sl [])) : W p l e R s m sargs below meth c H locs cells slots Q (F0 m p0 sl []) := by
  obtain ⟨r, hp1, bb, hp2, e1, e2, hag, hI2⟩ := hop.join htb hI
  obtain ⟨g1, hW, hf1⟩ := hC r hp1 e1 bb _ hag
  have hMc := hM hp1 bb hp2 e2
  have hX2 := hX
  obtain ⟨hx, hb, hml, hts, hown, hE, hfl, hSc, hbl, hbB, hL, hRf, hRl⟩ := hX2
  obtain ⟨w1, w2, w3, w4⟩ := h1
  obtain ⟨v1, v2⟩ := h2
  have hw4 : ([.codeWith y bytes maxL (some .int) hh, .methodLink RL iw y, .static y, .initialized y.cls] : List Jvm.Cond).all (fun w => decide (w ∈ lw_tbl) && goodWord w) = true := by
    simp only [List.all_cons, List.all_nil, Bool.and_eq_true] at hw ⊢
    exact ⟨hw.1, hw.2.1, hw.2.2.1, hw.2.2.2.1, trivial⟩
  have hw5 : Jvm.Cond.methodLink RL im (nameOf μ) ∈ lwG := by
    simp only [List.all_cons, List.all_nil, Bool.and_eq_true, decide_eq_true_eq] at hw
    exact List.mem_filter.mpr hw.2.2.2.2.1
  refine lv_aload_n hx hb h0 rfl (lv_at hl 1 rfl) ?_
  refine lv_aload hx hb w1 (lv_at hl 4 rfl) ?_
  refine W.eq (g2 := F0 m (p0 + 3) sl (([.ref B, .ref (B + 327)] : List Value).reverse ++ [])) rfl ?_
  refine lc_wrap (n := 2) hX hl.1 hW hw4 hy rfl hm (Nat.le_of_ble_eq_true rfl) hP hS hcells hslots w2 (fun H locs hP hS => ?_)
  refine lv_istore hx hb w3 hl (by decide) rfl (fun sl hl => ?_)
  refine lv_aload_n hx hb w4 rfl (lv_at hl 3 rfl) ?_
  refine W.eq (g2 := F0 m (p0 + 9) sl ((([] : List VL).map (toV B adK)).reverse ++ .ref (B + 312) :: [])) rfl ?_
  refine lc_mod (as := []) hX hl.1 hμ hst hcl hn.symm (fun w hw => absurd hw List.not_mem_nil) hMc hw5 (Nat.le_of_ble_eq_true rfl) hP hS hcells hslots v1 (fun H locs hP hS => ?_)
  refine lv_fstore hx hb v2 hl (by decide) rfl (fun sl hl => ?_)
  exact tl_f (t := hp2 (10, 0, 0) 0) hX hl rfl hf1 hP hS hcells hslots ho ht0 ht1 (fun sl H locs hl hP hS => kk sl H locs hp2 _ _ hl hP hS hI2)
end LSH
