/-! ===== the cases of the law, one by one ===== -/
section LCA
variable {p : Program} {l : Launch} {e : Env} {R : Room} {s : State} {m : MethodId} {sargs : Array Value} {below : List Frame} {meth : Method} {c : Code} {Q : State → Prop}
variable {b B Ls pc cells slots i tb : Nat} {xs : Nat → Int32} {D : va_G} {G : GG} {L : GL} {adK adV adM : Nat → Nat} {hp : HP} {f : Nat → Int64} {g : Nat → UInt64} {H : Heap} {locs : List Loc} {sl : Array Slot}
theorem ca_20 (hX : LawX p l s m meth c R sargs b Ls xs B D G L adK adV adM) (hl : lv_has sl 9 (lwL b B i)) (hP : LwS B D G L hp f g H) (hS : va_S (ab B) s.heap H locs) (hi : i + 6 ≤ Ls) (hcells : cells + 1 ≤ R.cells) (hslots : slots + 6 ≤ R.slots) (htb : tb < 500000000) (hI : Inv tb hp hp) (kk : CKq p l e R s m sargs below meth c Q b B i tb cells slots D G L) : W p l e R s m sargs below meth c H locs cells slots Q (F0 m 1283 sl []) := by
  have hq : ∀ r hp1, ((fX9_letters (xs (i + 1)) hp).bind fun r => some (r, hp)) = some (r, hp1) → fX9_letters (xs (i + 1)) hp = some r ∧ hp1 = hp := fun r hp1 h => by
    obtain ⟨q, hq, h2⟩ := Option.bind_eq_some_iff.mp h
    cases h2
    exact ⟨hq, rfl⟩
  refine cs_0i (p0 := 1283) (iw := 242) (im := 244) (μ := 245) (maxL := 4) (y := yL_letters) (bytes := cL_letters) (hh := [(0, 9, 12, 20)]) (cs := [1]) (off := 1762) hX hl hP hS hi hcells hslots htb hI (op_letters (xs (i + 1))).op
    (fun r hp1 h bb t hag => by
      obtain ⟨h1, rfl⟩ := hq r hp1 h
      exact wm_letters (l := l) (B := B) (D := D) (G := G) (L := L) (adK := adK) (adV := adV) (adM := adM) (f := f) (g := g) hX.2.2.2.2.2.2.1 (exX9_letters (d := 2) h1) hag)
    (fun hp1 bb hp2 h => exX10_letters (d := 7) h) (by decide +kernel) (by decide +kernel) (by decide) (by decide) (by decide) (by decide) (by decide) (by decide +kernel) (by decide +kernel) (by decide +kernel) (by decide +kernel) (by decide +kernel) (by decide +kernel) (by decide +kernel) (by decide) kk
theorem ca_21 (hX : LawX p l s m meth c R sargs b Ls xs B D G L adK adV adM) (hl : lv_has sl 9 (lwL b B i)) (hP : LwS B D G L hp f g H) (hS : va_S (ab B) s.heap H locs) (hi : i + 6 ≤ Ls) (hcells : cells + 1 ≤ R.cells) (hslots : slots + 6 ≤ R.slots) (htb : tb < 500000000) (hI : Inv tb hp hp) (kk : CKq p l e R s m sargs below meth c Q b B i tb cells slots D G L) : W p l e R s m sargs below meth c H locs cells slots Q (F0 m 1339 sl []) := by
  have hq : ∀ r hp1, ((fX9_palest hp).bind fun r => some (r, hp)) = some (r, hp1) → fX9_palest hp = some r ∧ hp1 = hp := fun r hp1 h => by
    obtain ⟨q, hq, h2⟩ := Option.bind_eq_some_iff.mp h
    cases h2
    exact ⟨hq, rfl⟩
  refine cs_ni (p0 := 1339) (iw := 245) (im := 247) (μ := 247) (maxL := 3) (y := yL_palest) (bytes := cL_palest) (hh := [(0, 8, 11, 20)]) (cs := [1]) (off := 1718) hX hl hP hS hi hcells hslots htb hI (op_palest).op
    (fun r hp1 h bb t hag => by
      obtain ⟨h1, rfl⟩ := hq r hp1 h
      exact wm_palest (l := l) (B := B) (D := D) (G := G) (L := L) (adK := adK) (adV := adV) (adM := adM) (f := f) (g := g) hX.2.2.2.2.2.2.1 (exX9_palest (d := 2) h1) hag)
    (fun hp1 bb hp2 h => exX10_palest (d := 7) h) (by decide +kernel) (by decide +kernel) (by decide) (by decide) (by decide) (by decide) (by decide) (by decide +kernel) (by decide +kernel) (by decide +kernel) (by decide +kernel) (by decide +kernel) (by decide) kk
theorem ca_22 (hX : LawX p l s m meth c R sargs b Ls xs B D G L adK adV adM) (hl : lv_has sl 9 (lwL b B i)) (hP : LwS B D G L hp f g H) (hS : va_S (ab B) s.heap H locs) (hi : i + 6 ≤ Ls) (hcells : cells + 1 ≤ R.cells) (hslots : slots + 6 ≤ R.slots) (htb : tb < 500000000) (hI : Inv tb hp hp) (kk : CKq p l e R s m sargs below meth c Q b B i tb cells slots D G L) : W p l e R s m sargs below meth c H locs cells slots Q (F0 m 1383 sl []) := by
  have hq : ∀ r hp1, ((fX9_meanDarkness hp).bind fun r => some (r, hp)) = some (r, hp1) → fX9_meanDarkness hp = some r ∧ hp1 = hp := fun r hp1 h => by
    obtain ⟨q, hq, h2⟩ := Option.bind_eq_some_iff.mp h
    cases h2
    exact ⟨hq, rfl⟩
  refine cs_nd (p0 := 1383) (iw := 248) (im := 251) (μ := 248) (maxL := 3) (y := yL_meanDarkness) (bytes := cL_meanDarkness) (hh := [(0, 7, 10, 20)]) (cs := [1]) (off := 1653) (op := .l) hX hl hP hS hi hcells hslots htb hI (op_meanDarkness).op
    (fun r hp1 h bb t hag => by
      obtain ⟨h1, rfl⟩ := hq r hp1 h
      obtain ⟨g1, a1, a2⟩ := wm_meanDarkness (l := l) (B := B) (D := D) (G := G) (L := L) (adK := adK) (adV := adV) (adM := adM) (f := f) (g := g) hX.2.2.2.2.2.2.1 (exX9_meanDarkness (d := 2) h1) hag
      refine ⟨g1, a1, fun ht => ⟨a2 ht, ?_⟩⟩
      rcases r with x | E
      · obtain ⟨-, rfl⟩ := hag
        exact mean_ok h1
      · obtain ⟨q, hq2, rfl⟩ := hag
        rcases q with _ | q
        · exact absurd ht (by decide)
        · cases hq2)
    (fun hp1 bb hp2 h => exX10_meanDarkness (d := 7) h) (by decide +kernel) (by decide +kernel) (by decide) (by decide) (by decide) (by decide) (by decide) (by decide +kernel) (by decide +kernel) (by decide +kernel) (by decide +kernel) (by decide +kernel) (by decide) kk
theorem ca_23 (hX : LawX p l s m meth c R sargs b Ls xs B D G L adK adV adM) (hl : lv_has sl 9 (lwL b B i)) (hP : LwS B D G L hp f g H) (hS : va_S (ab B) s.heap H locs) (hi : i + 6 ≤ Ls) (hcells : cells + 1 ≤ R.cells) (hslots : slots + 6 ≤ R.slots) (htb : tb < 500000000) (hI : Inv tb hp hp) (kk : CKq p l e R s m sargs below meth c Q b B i tb cells slots D G L) : W p l e R s m sargs below meth c H locs cells slots Q (F0 m 1448 sl []) := by
  have hq : ∀ r hp1, ((fX9_inkShare hp).bind fun r => some (r, hp)) = some (r, hp1) → fX9_inkShare hp = some r ∧ hp1 = hp := fun r hp1 h => by
    obtain ⟨q, hq, h2⟩ := Option.bind_eq_some_iff.mp h
    cases h2
    exact ⟨hq, rfl⟩
  refine cs_nf (p0 := 1448) (iw := 252) (im := 254) (μ := 249) (maxL := 3) (y := yL_inkShare) (bytes := cL_inkShare) (hh := [(0, 8, 11, 20)]) (cs := [1]) (off := 1587) (op := .l) hX hl hP hS hi hcells hslots htb hI (op_inkShare).op
    (fun r hp1 h bb t hag => by
      obtain ⟨h1, rfl⟩ := hq r hp1 h
      obtain ⟨g1, a1, a2⟩ := wm_inkShare (l := l) (B := B) (D := D) (G := G) (L := L) (adK := adK) (adV := adV) (adM := adM) (f := f) (g := g) hX.2.2.2.2.2.2.1 (exX9_inkShare (d := 2) h1) hag (fun x hx => nan_a (ink_ok (by rw [hx] at h1; exact h1)))
      refine ⟨g1, a1, fun ht => ⟨a2 ht, ?_⟩⟩
      rcases r with x | E
      · obtain ⟨-, rfl⟩ := hag
        exact nan_a (ink_ok h1)
      · obtain ⟨q, hq2, rfl⟩ := hag
        rcases q with _ | q
        · exact absurd ht (by decide)
        · cases hq2)
    (fun hp1 bb hp2 h => exX10_inkShare (d := 7) h) (by decide +kernel) (by decide +kernel) (by decide) (by decide) (by decide) (by decide) (by decide) (by decide +kernel) (by decide +kernel) (by decide +kernel) (by decide +kernel) (by decide +kernel) (by decide) kk
theorem ca_24 (hX : LawX p l s m meth c R sargs b Ls xs B D G L adK adV adM) (hl : lv_has sl 9 (lwL b B i)) (hP : LwS B D G L hp f g H) (hS : va_S (ab B) s.heap H locs) (hi : i + 6 ≤ Ls) (hcells : cells + 1 ≤ R.cells) (hslots : slots + 6 ≤ R.slots) (htb : tb < 500000000) (hI : Inv tb hp hp) (kk : CKq p l e R s m sargs below meth c Q b B i tb cells slots D G L) : W p l e R s m sargs below meth c H locs cells slots Q (F0 m 1514 sl []) := by
  have hq : ∀ r hp1, ((fX9_slowest hp).bind fun r => some (r, hp)) = some (r, hp1) → fX9_slowest hp = some r ∧ hp1 = hp := fun r hp1 h => by
    obtain ⟨q, hq, h2⟩ := Option.bind_eq_some_iff.mp h
    cases h2
    exact ⟨hq, rfl⟩
  refine cs_ni (p0 := 1514) (iw := 255) (im := 257) (μ := 250) (maxL := 3) (y := yL_slowest) (bytes := cL_slowest) (hh := [(0, 8, 11, 20)]) (cs := [1]) (off := 1543) hX hl hP hS hi hcells hslots htb hI (op_slowest).op
    (fun r hp1 h bb t hag => by
      obtain ⟨h1, rfl⟩ := hq r hp1 h
      exact wm_slowest (l := l) (B := B) (D := D) (G := G) (L := L) (adK := adK) (adV := adV) (adM := adM) (f := f) (g := g) hX.2.2.2.2.2.2.1 (exX9_slowest (d := 2) h1) hag)
    (fun hp1 bb hp2 h => exX10_slowest (d := 7) h) (by decide +kernel) (by decide +kernel) (by decide) (by decide) (by decide) (by decide) (by decide) (by decide +kernel) (by decide +kernel) (by decide +kernel) (by decide +kernel) (by decide +kernel) (by decide) kk
theorem ca_25 (hX : LawX p l s m meth c R sargs b Ls xs B D G L adK adV adM) (hl : lv_has sl 9 (lwL b B i)) (hP : LwS B D G L hp f g H) (hS : va_S (ab B) s.heap H locs) (hi : i + 6 ≤ Ls) (hcells : cells + 1 ≤ R.cells) (hslots : slots + 6 ≤ R.slots) (htb : tb < 500000000) (hI : Inv tb hp hp) (kk : CKq p l e R s m sargs below meth c Q b B i tb cells slots D G L) : W p l e R s m sargs below meth c H locs cells slots Q (F0 m 1558 sl []) := by
  have hq : ∀ r hp1, ((fX9_nextStop (xs (i + 1)) hp).bind fun r => some (r, hp)) = some (r, hp1) → fX9_nextStop (xs (i + 1)) hp = some r ∧ hp1 = hp := fun r hp1 h => by
    obtain ⟨q, hq, h2⟩ := Option.bind_eq_some_iff.mp h
    cases h2
    exact ⟨hq, rfl⟩
  refine cs_0i (p0 := 1558) (iw := 258) (im := 260) (μ := 251) (maxL := 4) (y := yL_nextStop) (bytes := cL_nextStop) (hh := [(0, 9, 12, 20), (0, 9, 15, 13)]) (cs := [1, 3]) (off := 1487) hX hl hP hS hi hcells hslots htb hI (op_nextStop (xs (i + 1))).op
    (fun r hp1 h bb t hag => by
      obtain ⟨h1, rfl⟩ := hq r hp1 h
      exact wm_nextStop (l := l) (B := B) (D := D) (G := G) (L := L) (adK := adK) (adV := adV) (adM := adM) (f := f) (g := g) hX.2.2.2.2.2.2.1 (exX9_nextStop (d := 1) h1) hag)
    (fun hp1 bb hp2 h => exX10_nextStop (d := 7) h) (by decide +kernel) (by decide +kernel) (by decide) (by decide) (by decide) (by decide) (by decide) (by decide +kernel) (by decide +kernel) (by decide +kernel) (by decide +kernel) (by decide +kernel) (by decide +kernel) (by decide +kernel) (by decide) kk
theorem ca_26 (hX : LawX p l s m meth c R sargs b Ls xs B D G L adK adV adM) (hl : lv_has sl 9 (lwL b B i)) (hP : LwS B D G L hp f g H) (hS : va_S (ab B) s.heap H locs) (hi : i + 6 ≤ Ls) (hcells : cells + 1 ≤ R.cells) (hslots : slots + 6 ≤ R.slots) (htb : tb < 500000000) (hI : Inv tb hp hp) (kk : CKq p l e R s m sargs below meth c Q b B i tb cells slots D G L) : W p l e R s m sargs below meth c H locs cells slots Q (F0 m 1614 sl []) := by
  have hq : ∀ r hp1, ((fX9_bellIn hp).bind fun r => some (r, hp)) = some (r, hp1) → fX9_bellIn hp = some r ∧ hp1 = hp := fun r hp1 h => by
    obtain ⟨q, hq, h2⟩ := Option.bind_eq_some_iff.mp h
    cases h2
    exact ⟨hq, rfl⟩
  refine cs_ni (p0 := 1614) (iw := 261) (im := 263) (μ := 252) (maxL := 3) (y := yL_bellIn) (bytes := cL_bellIn) (hh := [(0, 8, 11, 20)]) (cs := [1]) (off := 1443) hX hl hP hS hi hcells hslots htb hI (op_bellIn).op
    (fun r hp1 h bb t hag => by
      obtain ⟨h1, rfl⟩ := hq r hp1 h
      exact wm_bellIn (l := l) (B := B) (D := D) (G := G) (L := L) (adK := adK) (adV := adV) (adM := adM) (f := f) (g := g) hX.2.2.2.2.2.2.1 (exX9_bellIn (d := 2) h1) hag)
    (fun hp1 bb hp2 h => exX10_bellIn (d := 7) h) (by decide +kernel) (by decide +kernel) (by decide) (by decide) (by decide) (by decide) (by decide) (by decide +kernel) (by decide +kernel) (by decide +kernel) (by decide +kernel) (by decide +kernel) (by decide) kk
theorem ca_27 (hX : LawX p l s m meth c R sargs b Ls xs B D G L adK adV adM) (hl : lv_has sl 9 (lwL b B i)) (hP : LwS B D G L hp f g H) (hS : va_S (ab B) s.heap H locs) (hi : i + 6 ≤ Ls) (hcells : cells + 1 ≤ R.cells) (hslots : slots + 6 ≤ R.slots) (htb : tb < 500000000) (hI : Inv tb hp hp) (kk : CKq p l e R s m sargs below meth c Q b B i tb cells slots D G L) : W p l e R s m sargs below meth c H locs cells slots Q (F0 m 1658 sl []) := by
  have hq : ∀ r hp1, ((fX9_wouldBe (xs (i + 1)) (bI (xs (i + 2))) hp).bind fun r => some (r, hp)) = some (r, hp1) → fX9_wouldBe (xs (i + 1)) (bI (xs (i + 2))) hp = some r ∧ hp1 = hp := fun r hp1 h => by
    obtain ⟨q, hq, h2⟩ := Option.bind_eq_some_iff.mp h
    cases h2
    exact ⟨hq, rfl⟩
  refine cs_01i (p0 := 1658) (iw := 264) (im := 267) (μ := 253) (maxL := 5) (y := yL_wouldBe) (bytes := cL_wouldBe) (hh := [(0, 10, 13, 20), (0, 10, 17, 13)]) (cs := [1, 3]) (off := 1359) hX hl hP hS hi hcells hslots htb hI (op_wouldBe (xs (i + 1)) (bI (xs (i + 2)))).op
    (fun r hp1 h bb t hag => by
      obtain ⟨h1, rfl⟩ := hq r hp1 h
      exact wm_wouldBe (l := l) (B := B) (D := D) (G := G) (L := L) (adK := adK) (adV := adV) (adM := adM) (f := f) (g := g) hX.2.2.2.2.2.2.1 (exX9_wouldBe (d := 1) h1) hag)
    (fun hp1 bb hp2 h => exX10_wouldBe (d := 4) h) (by decide +kernel) (by decide +kernel) (by decide) (by decide) (by decide) (by decide) (by decide) (by decide +kernel) (by decide +kernel) (by decide +kernel) (by decide +kernel) (by decide +kernel) (by decide +kernel) (by decide +kernel) (by decide +kernel) (by decide +kernel) (by decide +kernel) (by decide +kernel) (by decide) kk
theorem ca_28 (hX : LawX p l s m meth c R sargs b Ls xs B D G L adK adV adM) (hl : lv_has sl 9 (lwL b B i)) (hP : LwS B D G L hp f g H) (hS : va_S (ab B) s.heap H locs) (hi : i + 6 ≤ Ls) (hcells : cells + 1 ≤ R.cells) (hslots : slots + 6 ≤ R.slots) (htb : tb < 500000000) (hI : Inv tb hp hp) (kk : CKq p l e R s m sargs below meth c Q b B i tb cells slots D G L) : W p l e R s m sargs below meth c H locs cells slots Q (F0 m 1742 sl []) := by
  have hq : ∀ r hp1, ((fX9_freeIn (xs (i + 1)) hp).bind fun r => some (r, hp)) = some (r, hp1) → fX9_freeIn (xs (i + 1)) hp = some r ∧ hp1 = hp := fun r hp1 h => by
    obtain ⟨q, hq, h2⟩ := Option.bind_eq_some_iff.mp h
    cases h2
    exact ⟨hq, rfl⟩
  refine cs_0i (p0 := 1742) (iw := 268) (im := 270) (μ := 254) (maxL := 4) (y := yL_freeIn) (bytes := cL_freeIn) (hh := [(0, 9, 12, 20), (0, 9, 15, 13)]) (cs := [1, 3]) (off := 1303) hX hl hP hS hi hcells hslots htb hI (op_freeIn (xs (i + 1))).op
    (fun r hp1 h bb t hag => by
      obtain ⟨h1, rfl⟩ := hq r hp1 h
      exact wm_freeIn (l := l) (B := B) (D := D) (G := G) (L := L) (adK := adK) (adV := adV) (adM := adM) (f := f) (g := g) hX.2.2.2.2.2.2.1 (exX9_freeIn (d := 1) h1) hag)
    (fun hp1 bb hp2 h => exX10_freeIn (d := 5) h) (by decide +kernel) (by decide +kernel) (by decide) (by decide) (by decide) (by decide) (by decide) (by decide +kernel) (by decide +kernel) (by decide +kernel) (by decide +kernel) (by decide +kernel) (by decide +kernel) (by decide +kernel) (by decide) kk
theorem ca_29 (hX : LawX p l s m meth c R sargs b Ls xs B D G L adK adV adM) (hl : lv_has sl 9 (lwL b B i)) (hP : LwS B D G L hp f g H) (hS : va_S (ab B) s.heap H locs) (hi : i + 6 ≤ Ls) (hcells : cells + 1 ≤ R.cells) (hslots : slots + 6 ≤ R.slots) (htb : tb < 500000000) (hI : Inv tb hp hp) (kk : CKq p l e R s m sargs below meth c Q b B i tb cells slots D G L) : W p l e R s m sargs below meth c H locs cells slots Q (F0 m 1798 sl []) := by
  have hq : ∀ r hp1, ((fX9_paceOf (xs (i + 1)) (xs (i + 2)) hp).bind fun r => some (r, hp)) = some (r, hp1) → fX9_paceOf (xs (i + 1)) (xs (i + 2)) hp = some r ∧ hp1 = hp := fun r hp1 h => by
    obtain ⟨q, hq, h2⟩ := Option.bind_eq_some_iff.mp h
    cases h2
    exact ⟨hq, rfl⟩
  refine cs_00i (p0 := 1798) (iw := 271) (im := 273) (μ := 256) (maxL := 5) (y := yL_paceOf) (bytes := cL_paceOf) (hh := [(0, 10, 13, 20), (0, 10, 17, 13)]) (cs := [1, 3]) (off := 1235) hX hl hP hS hi hcells hslots htb hI (op_paceOf (xs (i + 1)) (xs (i + 2))).op
    (fun r hp1 h bb t hag => by
      obtain ⟨h1, rfl⟩ := hq r hp1 h
      exact wm_paceOf (l := l) (B := B) (D := D) (G := G) (L := L) (adK := adK) (adV := adV) (adM := adM) (f := f) (g := g) hX.2.2.2.2.2.2.1 (exX9_paceOf (d := 1) h1) hag)
    (fun hp1 bb hp2 h => exX10_paceOf (d := 6) h) (by decide +kernel) (by decide +kernel) (by decide) (by decide) (by decide) (by decide) (by decide) (by decide +kernel) (by decide +kernel) (by decide +kernel) (by decide +kernel) (by decide +kernel) (by decide +kernel) (by decide +kernel) (by decide +kernel) (by decide +kernel) (by decide) kk
theorem ca_30 (hX : LawX p l s m meth c R sargs b Ls xs B D G L adK adV adM) (hl : lv_has sl 9 (lwL b B i)) (hP : LwS B D G L hp f g H) (hS : va_S (ab B) s.heap H locs) (hi : i + 6 ≤ Ls) (hcells : cells + 1 ≤ R.cells) (hslots : slots + 6 ≤ R.slots) (htb : tb < 500000000) (hI : Inv tb hp hp) (kk : CKq p l e R s m sargs below meth c Q b B i tb cells slots D G L) : W p l e R s m sargs below meth c H locs cells slots Q (F0 m 1866 sl []) := by
  have hq : ∀ r hp1, ((fX9_worstPair hp).bind fun r => some (r, hp)) = some (r, hp1) → fX9_worstPair hp = some r ∧ hp1 = hp := fun r hp1 h => by
    obtain ⟨q, hq, h2⟩ := Option.bind_eq_some_iff.mp h
    cases h2
    exact ⟨hq, rfl⟩
  refine cs_ni (p0 := 1866) (iw := 274) (im := 276) (μ := 257) (maxL := 3) (y := yL_worstPair) (bytes := cL_worstPair) (hh := [(0, 8, 11, 20)]) (cs := [1]) (off := 1191) hX hl hP hS hi hcells hslots htb hI (op_worstPair).op
    (fun r hp1 h bb t hag => by
      obtain ⟨h1, rfl⟩ := hq r hp1 h
      exact wm_worstPair (l := l) (B := B) (D := D) (G := G) (L := L) (adK := adK) (adV := adV) (adM := adM) (f := f) (g := g) hX.2.2.2.2.2.2.1 (exX9_worstPair (d := 2) h1) hag)
    (fun hp1 bb hp2 h => exX10_worstPair (d := 6) h) (by decide +kernel) (by decide +kernel) (by decide) (by decide) (by decide) (by decide) (by decide) (by decide +kernel) (by decide +kernel) (by decide +kernel) (by decide +kernel) (by decide +kernel) (by decide) kk
theorem ca_31 (hX : LawX p l s m meth c R sargs b Ls xs B D G L adK adV adM) (hl : lv_has sl 9 (lwL b B i)) (hP : LwS B D G L hp f g H) (hS : va_S (ab B) s.heap H locs) (hi : i + 6 ≤ Ls) (hcells : cells + 1 ≤ R.cells) (hslots : slots + 6 ≤ R.slots) (htb : tb < 500000000) (hI : Inv tb hp hp) (kk : CKq p l e R s m sargs below meth c Q b B i tb cells slots D G L) : W p l e R s m sargs below meth c H locs cells slots Q (F0 m 1910 sl []) := by
  refine cs_00i (p0 := 1910) (iw := 277) (im := 279) (μ := 261) (maxL := 5) (y := yL_wouldType) (bytes := cL_wouldType) (hh := [(0, 10, 13, 20), (0, 10, 17, 13), (0, 10, 21, 15)]) (cs := [1, 3, 2]) (off := 1123) hX hl hP hS hi hcells hslots htb hI (op_wouldType (xs (i + 1)) (xs (i + 2)))
    (fun r hp1 h bb t hag => wm_wouldType (l := l) (B := B) (D := D) (G := G) (L := L) (adK := adK) (adV := adV) (adM := adM) (f := f) (g := g) hX.2.2.2.2.2.2.1 (exX9_wouldType (d := 1) h) hag)
    (fun hp1 bb hp2 h => exX10_wouldType (d := 1) h) (by decide +kernel) (by decide +kernel) (by decide) (by decide) (by decide) (by decide) (by decide) (by decide +kernel) (by decide +kernel) (by decide +kernel) (by decide +kernel) (by decide +kernel) (by decide +kernel) (by decide +kernel) (by decide +kernel) (by decide +kernel) (by decide) kk
theorem ca_32 (hX : LawX p l s m meth c R sargs b Ls xs B D G L adK adV adM) (hl : lv_has sl 9 (lwL b B i)) (hP : LwS B D G L hp f g H) (hS : va_S (ab B) s.heap H locs) (hi : i + 6 ≤ Ls) (hcells : cells + 1 ≤ R.cells) (hslots : slots + 6 ≤ R.slots) (htb : tb < 500000000) (hI : Inv tb hp hp) (kk : CKq p l e R s m sargs below meth c Q b B i tb cells slots D G L) : W p l e R s m sargs below meth c H locs cells slots Q (F0 m 1978 sl []) := by
  refine cs_0i (p0 := 1978) (iw := 280) (im := 282) (μ := 262) (maxL := 4) (y := yL_paceFor) (bytes := cL_paceFor) (hh := [(0, 9, 12, 20), (0, 9, 15, 13)]) (cs := [1, 3]) (off := 1067) hX hl hP hS hi hcells hslots htb hI (op_paceFor (xs (i + 1)))
    (fun r hp1 h bb t hag => wm_paceFor (l := l) (B := B) (D := D) (G := G) (L := L) (adK := adK) (adV := adV) (adM := adM) (f := f) (g := g) hX.2.2.2.2.2.2.1 (exX9_paceFor (d := 1) h) hag)
    (fun hp1 bb hp2 h => exX10_paceFor (d := 1) h) (by decide +kernel) (by decide +kernel) (by decide) (by decide) (by decide) (by decide) (by decide) (by decide +kernel) (by decide +kernel) (by decide +kernel) (by decide +kernel) (by decide +kernel) (by decide +kernel) (by decide +kernel) (by decide) kk
theorem ca_33 (hX : LawX p l s m meth c R sargs b Ls xs B D G L adK adV adM) (hl : lv_has sl 9 (lwL b B i)) (hP : LwS B D G L hp f g H) (hS : va_S (ab B) s.heap H locs) (hi : i + 6 ≤ Ls) (hcells : cells + 1 ≤ R.cells) (hslots : slots + 6 ≤ R.slots) (htb : tb < 500000000) (hI : Inv tb hp hp) (kk : CKq p l e R s m sargs below meth c Q b B i tb cells slots D G L) : W p l e R s m sargs below meth c H locs cells slots Q (F0 m 2034 sl []) := by
  refine cs_0i (p0 := 2034) (iw := 283) (im := 285) (μ := 264) (maxL := 4) (y := yL_keysTo) (bytes := cL_keysTo) (hh := [(0, 9, 12, 20), (0, 9, 15, 13)]) (cs := [1, 3]) (off := 1011) hX hl hP hS hi hcells hslots htb hI (op_keysTo (xs (i + 1)))
    (fun r hp1 h bb t hag => wm_keysTo (l := l) (B := B) (D := D) (G := G) (L := L) (adK := adK) (adV := adV) (adM := adM) (f := f) (g := g) hX.2.2.2.2.2.2.1 (exX9_keysTo (d := 1) h) hag)
    (fun hp1 bb hp2 h => exX10_keysTo (d := 7) h) (by decide +kernel) (by decide +kernel) (by decide) (by decide) (by decide) (by decide) (by decide) (by decide +kernel) (by decide +kernel) (by decide +kernel) (by decide +kernel) (by decide +kernel) (by decide +kernel) (by decide +kernel) (by decide) kk
theorem ca_34 (hX : LawX p l s m meth c R sargs b Ls xs B D G L adK adV adM) (hl : lv_has sl 9 (lwL b B i)) (hP : LwS B D G L hp f g H) (hS : va_S (ab B) s.heap H locs) (hi : i + 6 ≤ Ls) (hcells : cells + 1 ≤ R.cells) (hslots : slots + 6 ≤ R.slots) (htb : tb < 500000000) (hI : Inv tb hp hp) (kk : CKq p l e R s m sargs below meth c Q b B i tb cells slots D G L) : W p l e R s m sargs below meth c H locs cells slots Q (F0 m 2090 sl []) := by
  refine cs_ni (p0 := 2090) (iw := 286) (im := 288) (μ := 265) (maxL := 3) (y := yL_printsLeft) (bytes := cL_printsLeft) (hh := [(0, 8, 11, 20)]) (cs := [1]) (off := 967) hX hl hP hS hi hcells hslots htb hI (op_printsLeft)
    (fun r hp1 h bb t hag => wm_printsLeft (l := l) (B := B) (D := D) (G := G) (L := L) (adK := adK) (adV := adV) (adM := adM) (f := f) (g := g) hX.2.2.2.2.2.2.1 (exX9_printsLeft (d := 2) h) hag)
    (fun hp1 bb hp2 h => exX10_printsLeft (d := 7) h) (by decide +kernel) (by decide +kernel) (by decide) (by decide) (by decide) (by decide) (by decide) (by decide +kernel) (by decide +kernel) (by decide +kernel) (by decide +kernel) (by decide +kernel) (by decide) kk
theorem ca_35 (hX : LawX p l s m meth c R sargs b Ls xs B D G L adK adV adM) (hl : lv_has sl 9 (lwL b B i)) (hP : LwS B D G L hp f g H) (hS : va_S (ab B) s.heap H locs) (hi : i + 6 ≤ Ls) (hcells : cells + 1 ≤ R.cells) (hslots : slots + 6 ≤ R.slots) (htb : tb < 500000000) (hI : Inv tb hp hp) (kk : CKq p l e R s m sargs below meth c Q b B i tb cells slots D G L) : W p l e R s m sargs below meth c H locs cells slots Q (F0 m 2134 sl []) := by
  refine cs_0i (p0 := 2134) (iw := 289) (im := 291) (μ := 267) (maxL := 4) (y := yL_writeLine) (bytes := cL_writeLine) (hh := [(0, 9, 12, 20), (0, 9, 15, 13)]) (cs := [1, 3]) (off := 911) hX hl hP hS hi hcells hslots htb hI (op_writeLine (xs (i + 1)))
    (fun r hp1 h bb t hag => wm_writeLine (l := l) (B := B) (D := D) (G := G) (L := L) (adK := adK) (adV := adV) (adM := adM) (f := f) (g := g) hX.2.2.2.2.2.2.1 (exX9_writeLine (d := 1) h) hag)
    (fun hp1 bb hp2 h => exX10_writeLine (d := 6) h) (by decide +kernel) (by decide +kernel) (by decide) (by decide) (by decide) (by decide) (by decide) (by decide +kernel) (by decide +kernel) (by decide +kernel) (by decide +kernel) (by decide +kernel) (by decide +kernel) (by decide +kernel) (by decide) kk
end LCA
