/-! ===== the cases of the law, one by one ===== -/
section LCA
variable {p : Program} {l : Launch} {e : Env} {R : Room} {s : State} {m : MethodId} {sargs : Array Value} {below : List Frame} {meth : Method} {c : Code} {Q : State → Prop}
variable {b B Ls pc cells slots i tb : Nat} {xs : Nat → Int32} {D : va_G} {G : GG} {L : GL} {adK adV adM : Nat → Nat} {hp : HP} {f : Nat → Int64} {g : Nat → UInt64} {H : Heap} {locs : List Loc} {sl : Array Slot}
/-- what follows a case -/
def CKq (p : Program) (l : Launch) (e : Env) (R : Room) (s : State) (m : MethodId) (sargs : Array Value) (below : List Frame) (meth : Method) (c : Code) (Q : State → Prop) (b B i tb cells slots : Nat) (D : va_G) (G : GG) (L : GL) : Prop :=
  ∀ sl H locs hp1 f1 g1, lv_has sl 9 (lwL b B i) → LwS B D G L hp1 f1 g1 H → va_S (ab B) s.heap H locs → Inv (tb + 600000) hp1 hp1 → W p l e R s m sargs below meth c H locs (cells + 1) (slots + 6) Q (F0 m 3098 sl [])
theorem ink_ok {hp : HP} {x : UInt32} (h : fX9_inkShare hp = some (.inl x)) : okF x = true := by
  unfold fX9_inkShare at h
  obtain ⟨q2, -, h⟩ := Option.bind_eq_some_iff.mp h
  rcases q2 with u | E
  · rw [Sum.elim_inl] at h
    obtain ⟨v3, -, h⟩ := Option.bind_eq_some_iff.mp h
    obtain ⟨v4, -, h⟩ := Option.bind_eq_some_iff.mp h
    by_cases hz : v3 * v4 = 0
    · rw [if_pos hz] at h
      cases h
      decide
    · rw [if_neg hz] at h
      obtain ⟨v5, -, h⟩ := Option.bind_eq_some_iff.mp h
      by_cases hk : okF (FP.fdiv (FP.i2f v5) (FP.i2f (v3 * v4))) = true
      · rw [if_pos hk] at h
        cases h
        exact hk
      · rw [if_neg hk] at h
        cases h
  · cases h
theorem mean_ok {hp : HP} {x : UInt64} (h : fX9_meanDarkness hp = some (.inl x)) : vf_n64 x := by
  unfold fX9_meanDarkness at h
  obtain ⟨q2, -, h⟩ := Option.bind_eq_some_iff.mp h
  rcases q2 with u | E
  · rw [Sum.elim_inl] at h
    obtain ⟨v3, -, h⟩ := Option.bind_eq_some_iff.mp h
    by_cases hz : v3 = 0
    · rw [if_pos hz] at h
      cases h
      unfold vf_n64
      decide
    · rw [if_neg hz] at h
      obtain ⟨v5, -, h⟩ := Option.bind_eq_some_iff.mp h
      by_cases hk : okD (FP.ddiv (FP.i2d v5) (FP.i2d v3)) = true
      · rw [if_pos hk] at h
        cases h
        unfold vf_n64
        exact of_decide_eq_true hk
      · rw [if_neg hk] at h
        cases h
  · cases h
theorem ca_1 (hX : LawX p l s m meth c R sargs b Ls xs B D G L adK adV adM) (hl : lv_has sl 9 (lwL b B i)) (hP : LwS B D G L hp f g H) (hS : va_S (ab B) s.heap H locs) (hi : i + 6 ≤ Ls) (hcells : cells + 1 ≤ R.cells) (hslots : slots + 6 ≤ R.slots) (htb : tb < 500000000) (hI : Inv tb hp hp) (kk : CKq p l e R s m sargs below meth c Q b B i tb cells slots D G L) : W p l e R s m sargs below meth c H locs cells slots Q (F0 m 341 sl []) := by
  refine cs_0i (p0 := 341) (iw := 174) (im := 179) (μ := 190) (maxL := 4) (y := yL_load) (bytes := cL_load) (hh := [(0, 9, 12, 13), (0, 9, 15, 15)]) (cs := [3, 2]) (off := 2704) hX hl hP hS hi hcells hslots htb hI (op_load (xs (i + 1)))
    (fun r hp1 h bb t hag => wm_load (l := l) (B := B) (D := D) (G := G) (L := L) (adK := adK) (adV := adV) (adM := adM) (f := f) (g := g) hX.2.2.2.2.2.2.1 (exX9_load (d := 1) h) hag)
    (fun hp1 bb hp2 h => exX10_load (d := 0) h) (by decide +kernel) (by decide +kernel) (by decide) (by decide) (by decide) (by decide) (by decide) (by decide +kernel) (by decide +kernel) (by decide +kernel) (by decide +kernel) (by decide +kernel) (by decide +kernel) (by decide +kernel) (by decide) kk
theorem ca_5 (hX : LawX p l s m meth c R sargs b Ls xs B D G L adK adV adM) (hl : lv_has sl 9 (lwL b B i)) (hP : LwS B D G L hp f g H) (hS : va_S (ab B) s.heap H locs) (hi : i + 6 ≤ Ls) (hcells : cells + 1 ≤ R.cells) (hslots : slots + 6 ≤ R.slots) (htb : tb < 500000000) (hI : Inv tb hp hp) (kk : CKq p l e R s m sargs below meth c Q b B i tb cells slots D G L) : W p l e R s m sargs below meth c H locs cells slots Q (F0 m 436 sl []) := by
  have hq : ∀ r hp1, ((fX9_count (xs (i + 1)) hp).bind fun r => some (r, hp)) = some (r, hp1) → fX9_count (xs (i + 1)) hp = some r ∧ hp1 = hp := fun r hp1 h => by
    obtain ⟨q, hq, h2⟩ := Option.bind_eq_some_iff.mp h
    cases h2
    exact ⟨hq, rfl⟩
  refine cs_0i (p0 := 436) (iw := 195) (im := 197) (μ := 219) (maxL := 4) (y := yL_count) (bytes := cL_count) (hh := [(0, 9, 12, 20), (0, 9, 15, 15)]) (cs := [1, 2]) (off := 2609) hX hl hP hS hi hcells hslots htb hI (op_count (xs (i + 1))).op
    (fun r hp1 h bb t hag => by
      obtain ⟨h1, rfl⟩ := hq r hp1 h
      exact wm_count (l := l) (B := B) (D := D) (G := G) (L := L) (adK := adK) (adV := adV) (adM := adM) (f := f) (g := g) hX.2.2.2.2.2.2.1 (exX9_count (d := 2) h1) hag)
    (fun hp1 bb hp2 h => exX10_count (d := 7) h) (by decide +kernel) (by decide +kernel) (by decide) (by decide) (by decide) (by decide) (by decide) (by decide +kernel) (by decide +kernel) (by decide +kernel) (by decide +kernel) (by decide +kernel) (by decide +kernel) (by decide +kernel) (by decide) kk
theorem ca_6 (hX : LawX p l s m meth c R sargs b Ls xs B D G L adK adV adM) (hl : lv_has sl 9 (lwL b B i)) (hP : LwS B D G L hp f g H) (hS : va_S (ab B) s.heap H locs) (hi : i + 6 ≤ Ls) (hcells : cells + 1 ≤ R.cells) (hslots : slots + 6 ≤ R.slots) (htb : tb < 500000000) (hI : Inv tb hp hp) (kk : CKq p l e R s m sargs below meth c Q b B i tb cells slots D G L) : W p l e R s m sargs below meth c H locs cells slots Q (F0 m 492 sl []) := by
  have hq : ∀ r hp1, ((fX9_setting (xs (i + 1)) hp).bind fun r => some (r, hp)) = some (r, hp1) → fX9_setting (xs (i + 1)) hp = some r ∧ hp1 = hp := fun r hp1 h => by
    obtain ⟨q, hq, h2⟩ := Option.bind_eq_some_iff.mp h
    cases h2
    exact ⟨hq, rfl⟩
  refine cs_0i (p0 := 492) (iw := 198) (im := 200) (μ := 220) (maxL := 4) (y := yL_setting) (bytes := cL_setting) (hh := [(0, 9, 12, 20), (0, 9, 15, 15)]) (cs := [1, 2]) (off := 2553) hX hl hP hS hi hcells hslots htb hI (op_setting (xs (i + 1))).op
    (fun r hp1 h bb t hag => by
      obtain ⟨h1, rfl⟩ := hq r hp1 h
      exact wm_setting (l := l) (B := B) (D := D) (G := G) (L := L) (adK := adK) (adV := adV) (adM := adM) (f := f) (g := g) hX.2.2.2.2.2.2.1 (exX9_setting (d := 2) h1) hag)
    (fun hp1 bb hp2 h => exX10_setting (d := 7) h) (by decide +kernel) (by decide +kernel) (by decide) (by decide) (by decide) (by decide) (by decide) (by decide +kernel) (by decide +kernel) (by decide +kernel) (by decide +kernel) (by decide +kernel) (by decide +kernel) (by decide +kernel) (by decide) kk
theorem ca_7 (hX : LawX p l s m meth c R sargs b Ls xs B D G L adK adV adM) (hl : lv_has sl 9 (lwL b B i)) (hP : LwS B D G L hp f g H) (hS : va_S (ab B) s.heap H locs) (hi : i + 6 ≤ Ls) (hcells : cells + 1 ≤ R.cells) (hslots : slots + 6 ≤ R.slots) (htb : tb < 500000000) (hI : Inv tb hp hp) (kk : CKq p l e R s m sargs below meth c Q b B i tb cells slots D G L) : W p l e R s m sargs below meth c H locs cells slots Q (F0 m 548 sl []) := by
  have hq : ∀ r hp1, ((fX9_carriage (xs (i + 1)) hp).bind fun r => some (r, hp)) = some (r, hp1) → fX9_carriage (xs (i + 1)) hp = some r ∧ hp1 = hp := fun r hp1 h => by
    obtain ⟨q, hq, h2⟩ := Option.bind_eq_some_iff.mp h
    cases h2
    exact ⟨hq, rfl⟩
  refine cs_0i (p0 := 548) (iw := 201) (im := 203) (μ := 221) (maxL := 4) (y := yL_carriage) (bytes := cL_carriage) (hh := [(0, 9, 12, 20), (0, 9, 15, 15)]) (cs := [1, 2]) (off := 2497) hX hl hP hS hi hcells hslots htb hI (op_carriage (xs (i + 1))).op
    (fun r hp1 h bb t hag => by
      obtain ⟨h1, rfl⟩ := hq r hp1 h
      exact wm_carriage (l := l) (B := B) (D := D) (G := G) (L := L) (adK := adK) (adV := adV) (adM := adM) (f := f) (g := g) hX.2.2.2.2.2.2.1 (exX9_carriage (d := 2) h1) hag)
    (fun hp1 bb hp2 h => exX10_carriage (d := 7) h) (by decide +kernel) (by decide +kernel) (by decide) (by decide) (by decide) (by decide) (by decide) (by decide +kernel) (by decide +kernel) (by decide +kernel) (by decide +kernel) (by decide +kernel) (by decide +kernel) (by decide +kernel) (by decide) kk
theorem ca_8 (hX : LawX p l s m meth c R sargs b Ls xs B D G L adK adV adM) (hl : lv_has sl 9 (lwL b B i)) (hP : LwS B D G L hp f g H) (hS : va_S (ab B) s.heap H locs) (hi : i + 6 ≤ Ls) (hcells : cells + 1 ≤ R.cells) (hslots : slots + 6 ≤ R.slots) (htb : tb < 500000000) (hI : Inv tb hp hp) (kk : CKq p l e R s m sargs below meth c Q b B i tb cells slots D G L) : W p l e R s m sargs below meth c H locs cells slots Q (F0 m 604 sl []) := by
  have hq : ∀ r hp1, ((fX9_bar (xs (i + 1)) (xs (i + 2)) hp).bind fun r => some (r, hp)) = some (r, hp1) → fX9_bar (xs (i + 1)) (xs (i + 2)) hp = some r ∧ hp1 = hp := fun r hp1 h => by
    obtain ⟨q, hq, h2⟩ := Option.bind_eq_some_iff.mp h
    cases h2
    exact ⟨hq, rfl⟩
  refine cs_00i (p0 := 604) (iw := 204) (im := 207) (μ := 224) (maxL := 5) (y := yL_bar) (bytes := cL_bar) (hh := [(0, 10, 13, 20), (0, 10, 17, 13), (0, 10, 21, 15)]) (cs := [1, 3, 2]) (off := 2429) hX hl hP hS hi hcells hslots htb hI (op_bar (xs (i + 1)) (xs (i + 2))).op
    (fun r hp1 h bb t hag => by
      obtain ⟨h1, rfl⟩ := hq r hp1 h
      exact wm_bar (l := l) (B := B) (D := D) (G := G) (L := L) (adK := adK) (adV := adV) (adM := adM) (f := f) (g := g) hX.2.2.2.2.2.2.1 (exX9_bar (d := 1) h1) hag)
    (fun hp1 bb hp2 h => exX10_bar (d := 6) h) (by decide +kernel) (by decide +kernel) (by decide) (by decide) (by decide) (by decide) (by decide) (by decide +kernel) (by decide +kernel) (by decide +kernel) (by decide +kernel) (by decide +kernel) (by decide +kernel) (by decide +kernel) (by decide +kernel) (by decide +kernel) (by decide) kk
theorem ca_9 (hX : LawX p l s m meth c R sargs b Ls xs B D G L adK adV adM) (hl : lv_has sl 9 (lwL b B i)) (hP : LwS B D G L hp f g H) (hS : va_S (ab B) s.heap H locs) (hi : i + 6 ≤ Ls) (hcells : cells + 1 ≤ R.cells) (hslots : slots + 6 ≤ R.slots) (htb : tb < 500000000) (hI : Inv tb hp hp) (kk : CKq p l e R s m sargs below meth c Q b B i tb cells slots D G L) : W p l e R s m sargs below meth c H locs cells slots Q (F0 m 672 sl []) := by
  have hq : ∀ r hp1, ((fX9_barOf (xs (i + 1)) hp).bind fun r => some (r, hp)) = some (r, hp1) → fX9_barOf (xs (i + 1)) hp = some r ∧ hp1 = hp := fun r hp1 h => by
    obtain ⟨q, hq, h2⟩ := Option.bind_eq_some_iff.mp h
    cases h2
    exact ⟨hq, rfl⟩
  refine cs_0i (p0 := 672) (iw := 208) (im := 210) (μ := 225) (maxL := 4) (y := yL_barOf) (bytes := cL_barOf) (hh := [(0, 9, 12, 20)]) (cs := [1]) (off := 2373) hX hl hP hS hi hcells hslots htb hI (op_barOf (xs (i + 1))).op
    (fun r hp1 h bb t hag => by
      obtain ⟨h1, rfl⟩ := hq r hp1 h
      exact wm_barOf (l := l) (B := B) (D := D) (G := G) (L := L) (adK := adK) (adV := adV) (adM := adM) (f := f) (g := g) hX.2.2.2.2.2.2.1 (exX9_barOf (d := 2) h1) hag)
    (fun hp1 bb hp2 h => exX10_barOf (d := 7) h) (by decide +kernel) (by decide +kernel) (by decide) (by decide) (by decide) (by decide) (by decide) (by decide +kernel) (by decide +kernel) (by decide +kernel) (by decide +kernel) (by decide +kernel) (by decide +kernel) (by decide +kernel) (by decide) kk
theorem ca_10 (hX : LawX p l s m meth c R sargs b Ls xs B D G L adK adV adM) (hl : lv_has sl 9 (lwL b B i)) (hP : LwS B D G L hp f g H) (hS : va_S (ab B) s.heap H locs) (hi : i + 6 ≤ Ls) (hcells : cells + 1 ≤ R.cells) (hslots : slots + 6 ≤ R.slots) (htb : tb < 500000000) (hI : Inv tb hp hp) (kk : CKq p l e R s m sargs below meth c Q b B i tb cells slots D G L) : W p l e R s m sargs below meth c H locs cells slots Q (F0 m 728 sl []) := by
  have hq : ∀ r hp1, ((fX9_latest hp).bind fun r => some (r, hp)) = some (r, hp1) → fX9_latest hp = some r ∧ hp1 = hp := fun r hp1 h => by
    obtain ⟨q, hq, h2⟩ := Option.bind_eq_some_iff.mp h
    cases h2
    exact ⟨hq, rfl⟩
  refine cs_ni (p0 := 728) (iw := 211) (im := 214) (μ := 226) (maxL := 3) (y := yL_latest) (bytes := cL_latest) (hh := [(0, 8, 11, 20)]) (cs := [1]) (off := 2329) hX hl hP hS hi hcells hslots htb hI (op_latest).op
    (fun r hp1 h bb t hag => by
      obtain ⟨h1, rfl⟩ := hq r hp1 h
      exact wm_latest (l := l) (B := B) (D := D) (G := G) (L := L) (adK := adK) (adV := adV) (adM := adM) (f := f) (g := g) hX.2.2.2.2.2.2.1 (exX9_latest (d := 2) h1) hag)
    (fun hp1 bb hp2 h => exX10_latest (d := 7) h) (by decide +kernel) (by decide +kernel) (by decide) (by decide) (by decide) (by decide) (by decide) (by decide +kernel) (by decide +kernel) (by decide +kernel) (by decide +kernel) (by decide +kernel) (by decide) kk
theorem ca_11 (hX : LawX p l s m meth c R sargs b Ls xs B D G L adK adV adM) (hl : lv_has sl 9 (lwL b B i)) (hP : LwS B D G L hp f g H) (hS : va_S (ab B) s.heap H locs) (hi : i + 6 ≤ Ls) (hcells : cells + 1 ≤ R.cells) (hslots : slots + 6 ≤ R.slots) (htb : tb < 500000000) (hI : Inv tb hp hp) (kk : CKq p l e R s m sargs below meth c Q b B i tb cells slots D G L) : W p l e R s m sargs below meth c H locs cells slots Q (F0 m 772 sl []) := by
  have hq : ∀ r hp1, ((fX9_ribbon (xs (i + 1)) hp).bind fun r => some (r, hp)) = some (r, hp1) → fX9_ribbon (xs (i + 1)) hp = some r ∧ hp1 = hp := fun r hp1 h => by
    obtain ⟨q, hq, h2⟩ := Option.bind_eq_some_iff.mp h
    cases h2
    exact ⟨hq, rfl⟩
  refine cs_0i (p0 := 772) (iw := 215) (im := 217) (μ := 227) (maxL := 4) (y := yL_ribbon) (bytes := cL_ribbon) (hh := [(0, 9, 12, 20), (0, 9, 15, 13)]) (cs := [1, 3]) (off := 2273) hX hl hP hS hi hcells hslots htb hI (op_ribbon (xs (i + 1))).op
    (fun r hp1 h bb t hag => by
      obtain ⟨h1, rfl⟩ := hq r hp1 h
      exact wm_ribbon (l := l) (B := B) (D := D) (G := G) (L := L) (adK := adK) (adV := adV) (adM := adM) (f := f) (g := g) hX.2.2.2.2.2.2.1 (exX9_ribbon (d := 2) h1) hag)
    (fun hp1 bb hp2 h => exX10_ribbon (d := 7) h) (by decide +kernel) (by decide +kernel) (by decide) (by decide) (by decide) (by decide) (by decide) (by decide +kernel) (by decide +kernel) (by decide +kernel) (by decide +kernel) (by decide +kernel) (by decide +kernel) (by decide +kernel) (by decide) kk
theorem ca_12 (hX : LawX p l s m meth c R sargs b Ls xs B D G L adK adV adM) (hl : lv_has sl 9 (lwL b B i)) (hP : LwS B D G L hp f g H) (hS : va_S (ab B) s.heap H locs) (hi : i + 6 ≤ Ls) (hcells : cells + 1 ≤ R.cells) (hslots : slots + 6 ≤ R.slots) (htb : tb < 500000000) (hI : Inv tb hp hp) (kk : CKq p l e R s m sargs below meth c Q b B i tb cells slots D G L) : W p l e R s m sargs below meth c H locs cells slots Q (F0 m 828 sl []) := by
  have hq : ∀ r hp1, ((fX9_head (xs (i + 1)) hp).bind fun r => some (r, hp)) = some (r, hp1) → fX9_head (xs (i + 1)) hp = some r ∧ hp1 = hp := fun r hp1 h => by
    obtain ⟨q, hq, h2⟩ := Option.bind_eq_some_iff.mp h
    cases h2
    exact ⟨hq, rfl⟩
  refine cs_0i (p0 := 828) (iw := 218) (im := 220) (μ := 230) (maxL := 4) (y := yL_head) (bytes := cL_head) (hh := [(0, 9, 12, 20), (0, 9, 15, 15)]) (cs := [1, 2]) (off := 2217) hX hl hP hS hi hcells hslots htb hI (op_head (xs (i + 1))).op
    (fun r hp1 h bb t hag => by
      obtain ⟨h1, rfl⟩ := hq r hp1 h
      exact wm_head (l := l) (B := B) (D := D) (G := G) (L := L) (adK := adK) (adV := adV) (adM := adM) (f := f) (g := g) hX.2.2.2.2.2.2.1 (exX9_head (d := 2) h1) hag)
    (fun hp1 bb hp2 h => exX10_head (d := 7) h) (by decide +kernel) (by decide +kernel) (by decide) (by decide) (by decide) (by decide) (by decide) (by decide +kernel) (by decide +kernel) (by decide +kernel) (by decide +kernel) (by decide +kernel) (by decide +kernel) (by decide +kernel) (by decide) kk
theorem ca_13 (hX : LawX p l s m meth c R sargs b Ls xs B D G L adK adV adM) (hl : lv_has sl 9 (lwL b B i)) (hP : LwS B D G L hp f g H) (hS : va_S (ab B) s.heap H locs) (hi : i + 6 ≤ Ls) (hcells : cells + 1 ≤ R.cells) (hslots : slots + 6 ≤ R.slots) (htb : tb < 500000000) (hI : Inv tb hp hp) (kk : CKq p l e R s m sargs below meth c Q b B i tb cells slots D G L) : W p l e R s m sargs below meth c H locs cells slots Q (F0 m 884 sl []) := by
  have hq : ∀ r hp1, ((fX9_sign (xs (i + 1)) (xs (i + 2)) hp).bind fun r => some (r, hp)) = some (r, hp1) → fX9_sign (xs (i + 1)) (xs (i + 2)) hp = some r ∧ hp1 = hp := fun r hp1 h => by
    obtain ⟨q, hq, h2⟩ := Option.bind_eq_some_iff.mp h
    cases h2
    exact ⟨hq, rfl⟩
  refine cs_00i (p0 := 884) (iw := 221) (im := 223) (μ := 237) (maxL := 5) (y := yL_sign) (bytes := cL_sign) (hh := [(0, 10, 13, 20), (0, 10, 17, 13)]) (cs := [1, 3]) (off := 2149) hX hl hP hS hi hcells hslots htb hI (op_sign (xs (i + 1)) (xs (i + 2))).op
    (fun r hp1 h bb t hag => by
      obtain ⟨h1, rfl⟩ := hq r hp1 h
      exact wm_sign (l := l) (B := B) (D := D) (G := G) (L := L) (adK := adK) (adV := adV) (adM := adM) (f := f) (g := g) hX.2.2.2.2.2.2.1 (exX9_sign (d := 1) h1) hag)
    (fun hp1 bb hp2 h => exX10_sign (d := 6) h) (by decide +kernel) (by decide +kernel) (by decide) (by decide) (by decide) (by decide) (by decide) (by decide +kernel) (by decide +kernel) (by decide +kernel) (by decide +kernel) (by decide +kernel) (by decide +kernel) (by decide +kernel) (by decide +kernel) (by decide +kernel) (by decide) kk
theorem ca_14 (hX : LawX p l s m meth c R sargs b Ls xs B D G L adK adV adM) (hl : lv_has sl 9 (lwL b B i)) (hP : LwS B D G L hp f g H) (hS : va_S (ab B) s.heap H locs) (hi : i + 6 ≤ Ls) (hcells : cells + 1 ≤ R.cells) (hslots : slots + 6 ≤ R.slots) (htb : tb < 500000000) (hI : Inv tb hp hp) (kk : CKq p l e R s m sargs below meth c Q b B i tb cells slots D G L) : W p l e R s m sargs below meth c H locs cells slots Q (F0 m 952 sl []) := by
  have hq : ∀ r hp1, ((fX9_darkness (xs (i + 1)) (xs (i + 2)) hp).bind fun r => some (r, hp)) = some (r, hp1) → fX9_darkness (xs (i + 1)) (xs (i + 2)) hp = some r ∧ hp1 = hp := fun r hp1 h => by
    obtain ⟨q, hq, h2⟩ := Option.bind_eq_some_iff.mp h
    cases h2
    exact ⟨hq, rfl⟩
  refine cs_00i (p0 := 952) (iw := 224) (im := 226) (μ := 238) (maxL := 5) (y := yL_darkness) (bytes := cL_darkness) (hh := [(0, 10, 13, 20), (0, 10, 17, 13)]) (cs := [1, 3]) (off := 2081) hX hl hP hS hi hcells hslots htb hI (op_darkness (xs (i + 1)) (xs (i + 2))).op
    (fun r hp1 h bb t hag => by
      obtain ⟨h1, rfl⟩ := hq r hp1 h
      exact wm_darkness (l := l) (B := B) (D := D) (G := G) (L := L) (adK := adK) (adV := adV) (adM := adM) (f := f) (g := g) hX.2.2.2.2.2.2.1 (exX9_darkness (d := 1) h1) hag)
    (fun hp1 bb hp2 h => exX10_darkness (d := 6) h) (by decide +kernel) (by decide +kernel) (by decide) (by decide) (by decide) (by decide) (by decide) (by decide +kernel) (by decide +kernel) (by decide +kernel) (by decide +kernel) (by decide +kernel) (by decide +kernel) (by decide +kernel) (by decide +kernel) (by decide +kernel) (by decide) kk
theorem ca_15 (hX : LawX p l s m meth c R sargs b Ls xs B D G L adK adV adM) (hl : lv_has sl 9 (lwL b B i)) (hP : LwS B D G L hp f g H) (hS : va_S (ab B) s.heap H locs) (hi : i + 6 ≤ Ls) (hcells : cells + 1 ≤ R.cells) (hslots : slots + 6 ≤ R.slots) (htb : tb < 500000000) (hI : Inv tb hp hp) (kk : CKq p l e R s m sargs below meth c Q b B i tb cells slots D G L) : W p l e R s m sargs below meth c H locs cells slots Q (F0 m 1020 sl []) := by
  have hq : ∀ r hp1, ((fX9_isStop (xs (i + 1)) hp).bind fun r => some (r, hp)) = some (r, hp1) → fX9_isStop (xs (i + 1)) hp = some r ∧ hp1 = hp := fun r hp1 h => by
    obtain ⟨q, hq, h2⟩ := Option.bind_eq_some_iff.mp h
    cases h2
    exact ⟨hq, rfl⟩
  refine cs_0b (p0 := 1020) (iw := 227) (im := 229) (μ := 239) (maxL := 4) (y := yL_isStop) (bytes := cL_isStop) (hh := [(0, 16, 19, 20), (0, 16, 22, 13)]) (cs := [1, 3]) (off := 2018) hX hl hP hS hi hcells hslots htb hI (op_isStop (xs (i + 1))).op
    (fun r hp1 h bb t hag => by
      obtain ⟨h1, rfl⟩ := hq r hp1 h
      exact wm_isStop (l := l) (B := B) (D := D) (G := G) (L := L) (adK := adK) (adV := adV) (adM := adM) (f := f) (g := g) hX.2.2.2.2.2.2.1 (exX9_isStop (d := 1) h1) hag)
    (fun hp1 bb hp2 h => exX10_isStop (d := 7) h) (by decide +kernel) (by decide +kernel) (by decide) (by decide) (by decide) (by decide) (by decide) (by decide +kernel) (by decide +kernel) (by decide +kernel) (by decide +kernel) (by decide +kernel) (by decide +kernel) (by decide +kernel) (by decide +kernel) (by decide) kk
theorem ca_16 (hX : LawX p l s m meth c R sargs b Ls xs B D G L adK adV adM) (hl : lv_has sl 9 (lwL b B i)) (hP : LwS B D G L hp f g H) (hS : va_S (ab B) s.heap H locs) (hi : i + 6 ≤ Ls) (hcells : cells + 1 ≤ R.cells) (hslots : slots + 6 ≤ R.slots) (htb : tb < 500000000) (hI : Inv tb hp hp) (kk : CKq p l e R s m sargs below meth c Q b B i tb cells slots D G L) : W p l e R s m sargs below meth c H locs cells slots Q (F0 m 1083 sl []) := by
  have hq : ∀ r hp1, ((fX9_reason hp).bind fun r => some (r, hp)) = some (r, hp1) → fX9_reason hp = some r ∧ hp1 = hp := fun r hp1 h => by
    obtain ⟨q, hq, h2⟩ := Option.bind_eq_some_iff.mp h
    cases h2
    exact ⟨hq, rfl⟩
  refine cs_ni (p0 := 1083) (iw := 230) (im := 232) (μ := 240) (maxL := 3) (y := yL_reason) (bytes := cL_reason) (hh := [(0, 8, 11, 20)]) (cs := [1]) (off := 1974) hX hl hP hS hi hcells hslots htb hI (op_reason).op
    (fun r hp1 h bb t hag => by
      obtain ⟨h1, rfl⟩ := hq r hp1 h
      exact wm_reason (l := l) (B := B) (D := D) (G := G) (L := L) (adK := adK) (adV := adV) (adM := adM) (f := f) (g := g) hX.2.2.2.2.2.2.1 (exX9_reason (d := 2) h1) hag)
    (fun hp1 bb hp2 h => exX10_reason (d := 7) h) (by decide +kernel) (by decide +kernel) (by decide) (by decide) (by decide) (by decide) (by decide) (by decide +kernel) (by decide +kernel) (by decide +kernel) (by decide +kernel) (by decide +kernel) (by decide) kk
theorem ca_17 (hX : LawX p l s m meth c R sargs b Ls xs B D G L adK adV adM) (hl : lv_has sl 9 (lwL b B i)) (hP : LwS B D G L hp f g H) (hS : va_S (ab B) s.heap H locs) (hi : i + 6 ≤ Ls) (hcells : cells + 1 ≤ R.cells) (hslots : slots + 6 ≤ R.slots) (htb : tb < 500000000) (hI : Inv tb hp hp) (kk : CKq p l e R s m sargs below meth c Q b B i tb cells slots D G L) : W p l e R s m sargs below meth c H locs cells slots Q (F0 m 1127 sl []) := by
  have hq : ∀ r hp1, ((fX9_reasonAt hp).bind fun r => some (r, hp)) = some (r, hp1) → fX9_reasonAt hp = some r ∧ hp1 = hp := fun r hp1 h => by
    obtain ⟨q, hq, h2⟩ := Option.bind_eq_some_iff.mp h
    cases h2
    exact ⟨hq, rfl⟩
  refine cs_ni (p0 := 1127) (iw := 233) (im := 235) (μ := 241) (maxL := 3) (y := yL_reasonAt) (bytes := cL_reasonAt) (hh := [(0, 8, 11, 20)]) (cs := [1]) (off := 1930) hX hl hP hS hi hcells hslots htb hI (op_reasonAt).op
    (fun r hp1 h bb t hag => by
      obtain ⟨h1, rfl⟩ := hq r hp1 h
      exact wm_reasonAt (l := l) (B := B) (D := D) (G := G) (L := L) (adK := adK) (adV := adV) (adM := adM) (f := f) (g := g) hX.2.2.2.2.2.2.1 (exX9_reasonAt (d := 2) h1) hag)
    (fun hp1 bb hp2 h => exX10_reasonAt (d := 7) h) (by decide +kernel) (by decide +kernel) (by decide) (by decide) (by decide) (by decide) (by decide) (by decide +kernel) (by decide +kernel) (by decide +kernel) (by decide +kernel) (by decide +kernel) (by decide) kk
theorem ca_18 (hX : LawX p l s m meth c R sargs b Ls xs B D G L adK adV adM) (hl : lv_has sl 9 (lwL b B i)) (hP : LwS B D G L hp f g H) (hS : va_S (ab B) s.heap H locs) (hi : i + 6 ≤ Ls) (hcells : cells + 1 ≤ R.cells) (hslots : slots + 6 ≤ R.slots) (htb : tb < 500000000) (hI : Inv tb hp hp) (kk : CKq p l e R s m sargs below meth c Q b B i tb cells slots D G L) : W p l e R s m sargs below meth c H locs cells slots Q (F0 m 1171 sl []) := by
  have hq : ∀ r hp1, ((fX9_lineLength (xs (i + 1)) hp).bind fun r => some (r, hp)) = some (r, hp1) → fX9_lineLength (xs (i + 1)) hp = some r ∧ hp1 = hp := fun r hp1 h => by
    obtain ⟨q, hq, h2⟩ := Option.bind_eq_some_iff.mp h
    cases h2
    exact ⟨hq, rfl⟩
  refine cs_0i (p0 := 1171) (iw := 236) (im := 238) (μ := 243) (maxL := 4) (y := yL_lineLength) (bytes := cL_lineLength) (hh := [(0, 9, 12, 20), (0, 9, 15, 13)]) (cs := [1, 3]) (off := 1874) hX hl hP hS hi hcells hslots htb hI (op_lineLength (xs (i + 1))).op
    (fun r hp1 h bb t hag => by
      obtain ⟨h1, rfl⟩ := hq r hp1 h
      exact wm_lineLength (l := l) (B := B) (D := D) (G := G) (L := L) (adK := adK) (adV := adV) (adM := adM) (f := f) (g := g) hX.2.2.2.2.2.2.1 (exX9_lineLength (d := 1) h1) hag)
    (fun hp1 bb hp2 h => exX10_lineLength (d := 6) h) (by decide +kernel) (by decide +kernel) (by decide) (by decide) (by decide) (by decide) (by decide) (by decide +kernel) (by decide +kernel) (by decide +kernel) (by decide +kernel) (by decide +kernel) (by decide +kernel) (by decide +kernel) (by decide) kk
theorem ca_19 (hX : LawX p l s m meth c R sargs b Ls xs B D G L adK adV adM) (hl : lv_has sl 9 (lwL b B i)) (hP : LwS B D G L hp f g H) (hS : va_S (ab B) s.heap H locs) (hi : i + 6 ≤ Ls) (hcells : cells + 1 ≤ R.cells) (hslots : slots + 6 ≤ R.slots) (htb : tb < 500000000) (hI : Inv tb hp hp) (kk : CKq p l e R s m sargs below meth c Q b B i tb cells slots D G L) : W p l e R s m sargs below meth c H locs cells slots Q (F0 m 1227 sl []) := by
  have hq : ∀ r hp1, ((fX9_words (xs (i + 1)) hp).bind fun r => some (r, hp)) = some (r, hp1) → fX9_words (xs (i + 1)) hp = some r ∧ hp1 = hp := fun r hp1 h => by
    obtain ⟨q, hq, h2⟩ := Option.bind_eq_some_iff.mp h
    cases h2
    exact ⟨hq, rfl⟩
  refine cs_0i (p0 := 1227) (iw := 239) (im := 241) (μ := 244) (maxL := 4) (y := yL_words) (bytes := cL_words) (hh := [(0, 9, 12, 20), (0, 9, 15, 13)]) (cs := [1, 3]) (off := 1818) hX hl hP hS hi hcells hslots htb hI (op_words (xs (i + 1))).op
    (fun r hp1 h bb t hag => by
      obtain ⟨h1, rfl⟩ := hq r hp1 h
      exact wm_words (l := l) (B := B) (D := D) (G := G) (L := L) (adK := adK) (adV := adV) (adM := adM) (f := f) (g := g) hX.2.2.2.2.2.2.1 (exX9_words (d := 1) h1) hag)
    (fun hp1 bb hp2 h => exX10_words (d := 6) h) (by decide +kernel) (by decide +kernel) (by decide) (by decide) (by decide) (by decide) (by decide) (by decide +kernel) (by decide +kernel) (by decide +kernel) (by decide +kernel) (by decide +kernel) (by decide +kernel) (by decide +kernel) (by decide) kk
end LCA
