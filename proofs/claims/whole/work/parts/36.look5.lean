/-! ===== looks at the page, answered ===== -/
section
variable {hc hm h0 : HP} {T L A : Tr0} {tb nb m : Nat} {F : Prop}
theorem sg_32 {x : Int32} (h : x ≠ 32) : sg x = 32 ↔ x = 0 := by
  unfold sg
  by_cases q : x = 0
  · rw [if_pos q]; exact ⟨fun _ => q, fun _ => rfl⟩
  · rw [if_neg q]; exact ⟨fun p => absurd p h, fun p => absurd p q⟩
theorem sg_x {x y : Int32} (h : y ≠ 32) (h0 : y ≠ 0) : sg x = y ↔ x = y := by
  unfold sg
  by_cases q : x = 0
  · rw [if_pos q]; exact ⟨fun p => absurd p.symm h, fun p => absurd (p.symm.trans q) h0⟩
  · rw [if_neg q]
theorem letters_p (h : MR True h0 hc m T L A nb) (hW : WF tb T L A nb) {x : Int32} (hx : x ≠ 32) (hx0 : x ≠ 0) : foldN (fun p v => if hc (11, 2, m) p = x then v + 1 else v) (tn (T 10) * tn (T 9)) (0 : Int32) = foldN (fun q v => if T (190 + q) = x then v + 1 else v) 480 (0 : Int32) := by
  have hU := h.2.1 trivial
  refine grid (R := fun (a b : Int32) => a = b) (LN := tn (T 10)) (W := tn (T 9)) _ _ hW.ln.2.2 hW.w.2.2 ?_ ?_ rfl
  · intro l c a b hl hc' e
    have hln := hW.ln
    show (if hc (11, 2, m) (l * tn (T 9) + c) = x then a + 1 else a) = (if T (190 + (40 * l + c)) = x then b + 1 else b)
    rw [hU.a5 l c (by omega) hc', e, ← Nat.add_assoc]
    by_cases q : T (190 + 40 * l + c) = x
    · rw [if_pos ((sg_x hx hx0).mpr q), if_pos q]
    · rw [if_neg (fun p => q ((sg_x hx hx0).mp p)), if_neg q]
  · intro l c a b hl hc' ho e
    show a = (if T (190 + (40 * l + c)) = x then b + 1 else b)
    rw [← Nat.add_assoc, (hW.em l c hl hc' ho).1, if_neg (fun p => hx0 p.symm)]; exact e
theorem op_letters (a : Int32) : Look [1] (fX9_letters a) (fX10_letters a) := by
  refine lookL (d0 := 0) rfl (F := fun hc => (fX9_isSmall a hc).bind fun v4 => if v4 = 0 then ((fX9_isCapital a hc).bind fun v5 => if v5 = 0 then (some (.inl 0)) else (fX9_letters_18 a hc)) else (fX9_letters_18 a hc)) (G := fun hm => (fX10_isSmall a hm).bind fun v4 => if v4 = 0 then ((fX10_isCapital a hm).bind fun v5 => if v5 = 0 then (some (0, hm)) else (fX10_letters_23 a hm)) else (fX10_letters_23 a hm)) (fun hc => rfl) ?_ ?_ ?_
  · intro hm q
    simp only [fX10_letters]
    rw [nl_1 q, Option.bind_some, if_neg n10]
  · intro hm q
    simp only [fX10_letters]
    rw [nl_0 q, Option.bind_some, if_pos rfl]
  · intro tb hc hm T L A nb ht hL h0
    obtain ⟨h, hR, hW, hl⟩ := hL
    have hf := FU_ge
    have key : ∀ (hx : a ≠ 32) (hx0 : a ≠ 0), ∃ v, fX9_letters_18 a hc = some (.inl v) ∧ fX10_letters_23 a (rwm hm T) = some (v, rwm hm T) := by
      intro hx hx0
      refine ⟨foldN (fun q v => if T (190 + q) = a then v + 1 else v) 480 (0 : Int32), ?_, ?_⟩
      · show (fX4_placesWith_4 FU 0 a 0 (nI 0) hc).bind (fun v1 => some (Sum.inl v1)) = _
        have := cl_with h hW a (tn (T 10) * tn (T 9)) 0 FU 0 (by omega) (by have := pl_b hW; omega)
        rw [show fX4_placesWith_4 FU 0 a 0 (nI 0) hc = _ from this, Option.bind_some, letters_p h hW hx hx0]
      · exact ml_with (hm := hm) (T := T) a 480 0 FU 0 (by omega) (by omega)
    show ∃ r b t, ((fX9_isSmall a hc).bind fun v4 => if v4 = 0 then ((fX9_isCapital a hc).bind fun v5 => if v5 = 0 then (some (Sum.inl 0)) else (fX9_letters_18 a hc)) else (fX9_letters_18 a hc)) = some r ∧ ((fX10_isSmall a (rwm hm T)).bind fun v4 => if v4 = 0 then ((fX10_isCapital a (rwm hm T)).bind fun v5 => if v5 = 0 then (some (0, rwm hm T)) else (fX10_letters_23 a (rwm hm T))) else (fX10_letters_23 a (rwm hm T))) = some (b, rwm (th hm t) T) ∧ agr [1] r b t
    rw [c_isSmall, m_small, c_isCapital, m_capital]
    simp only [Option.bind_some]
    have z32 : (32 : Int32).toInt = 32 := rfl
    have z00 : (0 : Int32).toInt = 0 := rfl
    by_cases q : smI a = 0
    · rw [if_pos q, if_pos q]
      by_cases q2 : caI a = 0
      · rw [if_pos q2, if_pos q2]
        exact ⟨_, _, 0, rfl, by rw [th_0 h0], agr_ok⟩
      · rw [if_neg q2, if_neg q2]
        have hb := caI_b q2
        obtain ⟨v, v1, v2⟩ := key (fun e => by rw [e, z32] at hb; omega) (fun e => by rw [e, z00] at hb; omega)
        exact ⟨_, _, 0, v1, by rw [th_0 h0]; exact v2, agr_ok⟩
    · rw [if_neg q, if_neg q]
      have hb : ¬ (a.toInt < 97 ∨ 122 < a.toInt) := fun p => q (smI_b.mpr p)
      obtain ⟨v, v1, v2⟩ := key (fun e => by rw [e, z32] at hb; omega) (fun e => by rw [e, z00] at hb; omega)
      exact ⟨_, _, 0, v1, by rw [th_0 h0]; exact v2, agr_ok⟩
theorem fill_p (h : MR True h0 hc m T L A nb) (hW : WF tb T L A nb) : ∃ z, z ≤ tn (T 10) * tn (T 9) ∧ fX4_filledPlaces m hc = some (nI z) ∧ fX10_filled (rwm hm T) = some (nI z) := by
  have hU := h.2.1 trivial
  have hf := FU_ge
  have hb := pl_b hW
  have hg : ∃ z, z ≤ (foldN (fun p (v : Int32 × Nat) => (if hc (11, 2, m) p = 32 then v.1 + 1 else v.1, v.2 + 1)) (tn (T 10) * tn (T 9)) ((0 : Int32), 0)).2 ∧ foldN (fun q v => if T (190 + q) = 0 then v else v + 1) 480 (0 : Int32) = nI z ∧ (foldN (fun p (v : Int32 × Nat) => (if hc (11, 2, m) p = 32 then v.1 + 1 else v.1, v.2 + 1)) (tn (T 10) * tn (T 9)) ((0 : Int32), 0)).1 = nI ((foldN (fun p (v : Int32 × Nat) => (if hc (11, 2, m) p = 32 then v.1 + 1 else v.1, v.2 + 1)) (tn (T 10) * tn (T 9)) ((0 : Int32), 0)).2 - z) := by
    refine grid (R := fun (a : Int32 × Nat) (b : Int32) => ∃ z, z ≤ a.2 ∧ b = nI z ∧ a.1 = nI (a.2 - z)) (LN := tn (T 10)) (W := tn (T 9)) _ _ hW.ln.2.2 hW.w.2.2 ?_ ?_ ⟨0, Nat.le_refl _, rfl, rfl⟩
    · intro l c a b hl hc' e
      obtain ⟨z, z1, z2, z3⟩ := e
      have hln := hW.ln
      have hw := hW.w
      show ∃ z, z ≤ a.2 + 1 ∧ (if T (190 + (40 * l + c)) = 0 then b else b + 1) = nI z ∧ (if hc (11, 2, m) (l * tn (T 9) + c) = 32 then a.1 + 1 else a.1) = nI (a.2 + 1 - z)
      rw [hU.a5 l c (by omega) hc', ← Nat.add_assoc]
      have hs := sg_32 (hW.sn l c (by omega) (by omega))
      by_cases q : T (190 + 40 * l + c) = 0
      · rw [if_pos (hs.mpr q), if_pos q]
        exact ⟨z, by omega, z2, by rw [z3, ← nI_succ]; congr 1; omega⟩
      · rw [if_neg (fun p => q (hs.mp p)), if_neg q]
        exact ⟨z + 1, by omega, by rw [z2, ← nI_succ], by rw [z3]; congr 1; omega⟩
    · intro l c a b hl hc' ho e
      obtain ⟨z, z1, z2, z3⟩ := e
      show ∃ z, z ≤ a.2 ∧ (if T (190 + (40 * l + c)) = 0 then b else b + 1) = nI z ∧ a.1 = nI (a.2 - z)
      rw [← Nat.add_assoc, (hW.em l c hl hc' ho).1, if_pos rfl]; exact ⟨z, z1, z2, z3⟩
  rw [foldN_p (s := fun p v => if hc (11, 2, m) p = 32 then v + 1 else v) (fun n q => rfl), foldN_k (s := fun p v => if hc (11, 2, m) p = 32 then v + 1 else v) (fun n q => rfl)] at hg
  obtain ⟨z, z1, z2, z3⟩ := hg
  refine ⟨z, z1, ?_, ?_⟩
  · show (fX4_places m hc).bind (fun v1 => (fX4_placesWith_4 FU m 32 0 (nI 0) hc).bind fun v2 => some (v1 - v2)) = _
    have := cl_with h hW 32 (tn (T 10) * tn (T 9)) 0 FU 0 (by omega) (by omega)
    rw [c_places h hW, Option.bind_some, show fX4_placesWith_4 FU m 32 0 (nI 0) hc = _ from this, Option.bind_some, z3, n_sub (by omega)]
    congr 2; omega
  · have := ml_fill (hm := hm) (T := T) 480 0 FU 0 (by omega) (by omega)
    rw [z2] at this
    exact this
theorem dark_p (h : MR True h0 hc m T L A nb) (hW : WF tb T L A nb) : ∃ z, z ≤ 9 * (tn (T 10) * tn (T 9)) ∧ foldN (fun p v => v + hc (11, 3, m) p) (tn (T 10) * tn (T 9)) (0 : Int32) = nI z ∧ foldN (fun q v => v + T (670 + q)) 480 (0 : Int32) = nI z := by
  have hU := h.2.1 trivial
  have hg : ∃ z, z ≤ 9 * (foldN (fun p (v : Int32 × Nat) => (v.1 + hc (11, 3, m) p, v.2 + 1)) (tn (T 10) * tn (T 9)) ((0 : Int32), 0)).2 ∧ (foldN (fun p (v : Int32 × Nat) => (v.1 + hc (11, 3, m) p, v.2 + 1)) (tn (T 10) * tn (T 9)) ((0 : Int32), 0)).1 = nI z ∧ foldN (fun q v => v + T (670 + q)) 480 (0 : Int32) = nI z := by
    refine grid (R := fun (a : Int32 × Nat) (b : Int32) => ∃ z, z ≤ 9 * a.2 ∧ a.1 = nI z ∧ b = nI z) (LN := tn (T 10)) (W := tn (T 9)) _ _ hW.ln.2.2 hW.w.2.2 ?_ ?_ ⟨0, Nat.le_refl _, rfl, rfl⟩
    · intro l c a b hl hc' e
      obtain ⟨z, z1, z2, z3⟩ := e
      have hln := hW.ln
      have hw := hW.w
      have hd := hW.dk l c (by omega) (by omega)
      have ed : T (670 + 40 * l + c) = nI (tn (T (670 + 40 * l + c))) := hd.1
      show ∃ z, z ≤ 9 * (a.2 + 1) ∧ a.1 + hc (11, 3, m) (l * tn (T 9) + c) = nI z ∧ b + T (670 + (40 * l + c)) = nI z
      rw [hU.a6 l c (by omega) hc', ← Nat.add_assoc, z2, z3]
      refine ⟨z + tn (T (670 + 40 * l + c)), by omega, ?_, ?_⟩
      · rw [← n_add, ← ed]
      · rw [← n_add, ← ed]
    · intro l c a b hl hc' ho e
      obtain ⟨z, z1, z2, z3⟩ := e
      show ∃ z, z ≤ 9 * a.2 ∧ a.1 = nI z ∧ b + T (670 + (40 * l + c)) = nI z
      rw [← Nat.add_assoc, (hW.em l c hl hc' ho).2, add_0]; exact ⟨z, z1, z2, z3⟩
  rw [foldN_p (s := fun p v => v + hc (11, 3, m) p) (fun n q => rfl), foldN_k (s := fun p v => v + hc (11, 3, m) p) (fun n q => rfl)] at hg
  exact hg
theorem op_meanDarkness : Look [1] fX9_meanDarkness fX10_meanDarkness := by
  refine lookL (d0 := FP.dconst0) rfl (F := fun hc => (fX4_filledPlaces 0 hc).bind fun v3 => if v3 = 0 then (fX9_meanDarkness_37 FP.dconst0 hc) else ((fX4_allDarkness 0 hc).bind fun v4 => if okD (FP.ddiv (FP.i2d v4) (FP.i2d v3)) = true then (fX9_meanDarkness_37 (FP.ddiv (FP.i2d v4) (FP.i2d v3)) hc) else none)) (G := fun hm => (fX10_filled hm).bind fun v4 => if v4 = 0 then (fX10_meanDarkness_14 hm) else (fX10_meanDarkness_20 FU 0 0 hm)) (fun hc => rfl) ?_ ?_ ?_
  · intro hm q
    simp only [fX10_meanDarkness]
    rw [nl_1 q, Option.bind_some, if_neg n10]; rfl
  · intro hm q
    simp only [fX10_meanDarkness]
    rw [nl_0 q, Option.bind_some, if_pos rfl]
  · intro tb hc hm T L A nb ht hL h0
    obtain ⟨h, hR, hW, hl⟩ := hL
    have hf := FU_ge
    have hb := pl_b hW
    obtain ⟨z, z1, z2, z3⟩ := fill_p (hm := hm) h hW
    obtain ⟨s, s1, s2, s3⟩ := dark_p h hW
    show ∃ r b t, ((fX4_filledPlaces 0 hc).bind fun v3 => if v3 = 0 then (some (Sum.inl FP.dconst0)) else ((fX4_allDarkness_4 FU 0 0 (nI 0) hc).bind fun v4 => if okD (FP.ddiv (FP.i2d v4) (FP.i2d v3)) = true then (some (Sum.inl (FP.ddiv (FP.i2d v4) (FP.i2d v3)))) else none)) = some r ∧ ((fX10_filled (rwm hm T)).bind fun v4 => if v4 = 0 then (some (FP.dconst0, rwm hm T)) else (fX10_meanDarkness_20 FU 0 (nI 0) (rwm hm T))) = some (b, rwm (th hm t) T) ∧ agr [1] r b t
    rw [z2, z3, Option.bind_some, Option.bind_some]
    by_cases q : z = 0
    · rw [q, if_pos (show nI 0 = 0 from rfl), if_pos (show nI 0 = 0 from rfl)]
      exact ⟨_, _, 0, rfl, by rw [th_0 h0], agr_ok⟩
    · have qn : ¬ nI z = 0 := by rw [n_lit 0, n_eq (by omega) (by omega)]; exact q
      have c1 := cl_dark h hW (tn (T 10) * tn (T 9)) 0 FU 0 (by omega) (by omega)
      have m1' := ml_dark (hm := hm) (T := T) 480 0 FU 0 (by omega) (by omega)
      rw [s2] at c1
      rw [s3, z3, Option.bind_some, if_pos (ok_ddiv (by omega) (by omega) q)] at m1'
      rw [if_neg qn, if_neg qn, show fX4_allDarkness_4 FU 0 0 (nI 0) hc = _ from c1, Option.bind_some, if_pos (ok_ddiv (by omega) (by omega) q)]
      exact ⟨_, _, 0, rfl, by rw [th_0 h0]; exact m1', agr_ok⟩
theorem op_inkShare : Look [1] fX9_inkShare fX10_inkShare := by
  refine lookL (d0 := FP.fconst0) rfl (F := fun hc => (fX7_at 0 0 9 hc).bind fun v3 => (fX7_at 0 0 10 hc).bind fun v4 => if (v3 * v4) = 0 then (fX9_inkShare_52 FP.fconst0 hc) else ((fX6_allInk 0 hc).bind fun v5 => if okF (FP.fdiv (FP.i2f v5) (FP.i2f (v3 * v4))) = true then (fX9_inkShare_52 (FP.fdiv (FP.i2f v5) (FP.i2f (v3 * v4))) hc) else none)) (G := fun hm => (fX10_allInk hm).bind fun v3 => (fX10_its 9 hm).bind fun v4 => (fX10_its 10 hm).bind fun v5 => if okF (FP.fdiv (FP.i2f v3) (FP.i2f (v4 * v5))) = true then (fX10_inkShare_31 (FP.fdiv (FP.i2f v3) (FP.i2f (v4 * v5))) hm) else none) (fun hc => rfl) ?_ ?_ ?_
  · intro hm q
    simp only [fX10_inkShare]
    rw [nl_1 q, Option.bind_some, if_neg n10]; rfl
  · intro hm q
    simp only [fX10_inkShare]
    rw [nl_0 q, Option.bind_some, if_pos rfl]
  · intro tb hc hm T L A nb ht hL h0
    obtain ⟨h, hR, hW, hl⟩ := hL
    have hlg := hW.lg
    have hik := hW.ik
    have e18 : T 18 = nI (tn (T 18)) := hlg.1
    have e19 : T 19 = nI (tn (T 19)) := hik.1
    have em : T 18 * T 19 = nI (tn (T 18) * tn (T 19)) := by rw [← n_mul, ← e18, ← e19]
    have hb1 : tn (T 18) * tn (T 19) ≤ 60 * 9 := Nat.mul_le_mul (by omega) (by omega)
    have hb2 : 5 * 1 ≤ tn (T 18) * tn (T 19) := Nat.mul_le_mul (by omega) (by omega)
    obtain ⟨v, v1, v2, v3, v4⟩ := allInk_p (hm := hm) h hW
    have ev : v = nI (tn v) := n_of v3
    have ev2 : (tn v : Int) = v.toInt := by
      have := tn_lt v
      conv => rhs; rw [ev, n_i this]
    have hok : okF (FP.fdiv (FP.i2f v) (FP.i2f (nI (tn (T 18) * tn (T 19))))) = true := by
      rw [ev]; exact ok_fdiv (by omega) (by omega) (by omega)
    refine ⟨.inl (FP.fdiv (FP.i2f v) (FP.i2f (nI (tn (T 18) * tn (T 19))))), FP.fdiv (FP.i2f v) (FP.i2f (nI (tn (T 18) * tn (T 19)))), 0, ?_, ?_, agr_ok⟩
    · show (fX7_at 0 0 9 hc).bind (fun v3 => (fX7_at 0 0 10 hc).bind fun v4 => if (v3 * v4) = 0 then (some (Sum.inl FP.fconst0)) else ((fX6_allInk 0 hc).bind fun v5 => if okF (FP.fdiv (FP.i2f v5) (FP.i2f (v3 * v4))) = true then (some (Sum.inl (FP.fdiv (FP.i2f v5) (FP.i2f (v3 * v4))))) else none)) = _
      rw [c_s9 h, c_s10 h, Option.bind_some, Option.bind_some, em, if_neg (show ¬ nI (tn (T 18) * tn (T 19)) = 0 by rw [n_lit 0, n_eq (by omega) (by omega)]; omega), v1, Option.bind_some, if_pos hok]
    · show (fX10_allInk (rwm hm T)).bind (fun v3 => (fX10_its 9 (rwm hm T)).bind fun v4 => (fX10_its 10 (rwm hm T)).bind fun v5 => if okF (FP.fdiv (FP.i2f v3) (FP.i2f (v4 * v5))) = true then (some ((FP.fdiv (FP.i2f v3) (FP.i2f (v4 * v5))), rwm hm T)) else none) = _
      rw [v2, its_9, its_10, Option.bind_some, Option.bind_some, Option.bind_some, em, if_pos hok, th_0 h0]
theorem k40 : ∀ n, n < 480 → idv (nI n) 40 = nI (n / 40) ∧ irm (nI n) 40 = nI (n % 40) := by decide +kernel
theorem op_palest : Look [1] fX9_palest fX10_palest := by
  refine lookL (d0 := 0) rfl (F := fun hc => (fX4_palestPlace 0 hc).bind fun v3 => some (.inl v3)) (G := fun hm => fX10_palest_13 FU m1 0 hm) (fun hc => rfl) ?_ ?_ ?_
  · intro hm q
    simp only [fX10_palest]
    rw [nl_1 q, Option.bind_some, if_neg n10]
  · intro hm q
    simp only [fX10_palest]
    rw [nl_0 q, Option.bind_some, if_pos rfl]
  · intro tb hc hm T L A nb ht hL h0
    obtain ⟨h, hR, hW, hl⟩ := hL
    have hU := h.2.1 trivial
    have hf := FU_ge
    have hb := pl_b hW
    have hw := hW.w
    have hln := hW.ln
    have e9 : T 9 = nI (tn (T 9)) := hw.1
    have hq : ∀ i, i ≤ 480 → foldN (paM T) i m1 = m1 ∨ ∃ q, q < 480 ∧ foldN (paM T) i m1 = nI q := by
      intro i
      induction i with
      | zero => intro _; exact Or.inl rfl
      | succ i ih =>
        intro hi
        show paM T i (foldN (paM T) i m1) = m1 ∨ ∃ q, q < 480 ∧ paM T i (foldN (paM T) i m1) = nI q
        have := ih (by omega)
        unfold paM at this ⊢
        split
        · exact this
        · split
          · exact Or.inr ⟨i, by omega, rfl⟩
          · split
            · exact Or.inr ⟨i, by omega, rfl⟩
            · exact this
    have hg : (foldN (paC hc 0) (tn (T 10) * tn (T 9)) m1 = m1 ∧ foldN (paM T) 480 m1 = m1) ∨ ∃ l c, l < tn (T 10) ∧ c < tn (T 9) ∧ foldN (paC hc 0) (tn (T 10) * tn (T 9)) m1 = nI (l * tn (T 9) + c) ∧ foldN (paM T) 480 m1 = nI (40 * l + c) := by
      refine grid (R := fun (a b : Int32) => (a = m1 ∧ b = m1) ∨ ∃ l c, l < tn (T 10) ∧ c < tn (T 9) ∧ a = nI (l * tn (T 9) + c) ∧ b = nI (40 * l + c)) (LN := tn (T 10)) (W := tn (T 9)) _ _ hln.2.2 hw.2.2 ?_ ?_ (Or.inl ⟨rfl, rfl⟩)
      · intro l c a b hl hc' e
        have hs := sg_32 (hW.sn l c (by omega) (by omega))
        show ((paC hc 0 (l * tn (T 9) + c) a = m1 ∧ paM T (40 * l + c) b = m1) ∨ _)
        unfold paC paM
        rw [hU.a5 l c (by omega) hc', hU.a6 l c (by omega) hc', ← Nat.add_assoc, ← Nat.add_assoc]
        by_cases q : T (190 + 40 * l + c) = 0
        · rw [if_pos (hs.mpr q), if_pos q]; exact e
        · rw [if_neg (fun p => q (hs.mp p)), if_neg q]
          rcases e with ⟨ea, eb⟩ | ⟨l0, c0, g1, g2, g3, g4⟩
          · rw [if_pos ea, if_pos eb]; exact Or.inr ⟨l, c, hl, hc', rfl, rfl⟩
          · have hp0 := plc_lt (show l0 < 12 by omega) g2 hw.2.2
            rw [g3, g4, if_neg (n_m1 (by omega)), if_neg (n_m1 (by omega)), RAt_n (show l0 * tn (T 9) + c0 < wlen 3 from hp0), hU.a6 l0 c0 (by omega) g2, n_t (by omega), ← Nat.add_assoc]
            by_cases q2 : T (670 + 40 * l + c) < T (670 + 40 * l0 + c0)
            · rw [if_pos q2, if_pos q2]; exact Or.inr ⟨l, c, hl, hc', rfl, rfl⟩
            · rw [if_neg q2, if_neg q2]; exact Or.inr ⟨l0, c0, g1, g2, rfl, rfl⟩
      · intro l c a b hl hc' ho e
        show ((a = m1 ∧ paM T (40 * l + c) b = m1) ∨ _)
        unfold paM
        rw [← Nat.add_assoc, (hW.em l c hl hc' ho).1, if_pos rfl]; exact e
    have c1 := cl_pale h hW (tn (T 10) * tn (T 9)) 0 FU m1 (by omega) (by omega)
    have g1 := ml_pale (hm := hm) (T := T) 480 0 FU (by omega) (by omega) hq
    show ∃ r b t, ((fX4_palestPlace_4 FU 0 m1 (nI 0) hc).bind fun v3 => some (Sum.inl v3)) = some r ∧ (fX10_palest_13 FU m1 (nI 0) (rwm hm T)) = some (b, rwm (th hm t) T) ∧ agr [1] r b t
    rw [show fX4_palestPlace_4 FU 0 m1 (nI 0) hc = _ from c1, Option.bind_some, show fX10_palest_13 FU m1 (nI 0) (rwm hm T) = _ from g1]
    rcases hg with ⟨q1, q2⟩ | ⟨l, c, q1, q2, q3, q4⟩
    · rw [q1, q2, if_pos rfl]; exact ⟨_, _, 0, rfl, by rw [th_0 h0], agr_ok⟩
    · have k := k40 (40 * l + c) (by omega)
      rw [q3, q4, if_neg (n_m1 (by omega)), k.1, k.2, e9, n_mul, n_add, n_t (by omega)]
      have e1 : (40 * l + c) / 40 = l := by omega
      have e2 : (40 * l + c) % 40 = c := by omega
      rw [e1, e2, Nat.mul_comm (tn (T 9)) l]
      exact ⟨_, _, 0, rfl, by rw [th_0 h0], agr_ok⟩
end
section
variable {hc hm h0 : HP} {T L A : Tr0} {tb nb m : Nat} {F : Prop}
theorem c_empty (h : MR True h0 hc m T L A nb) (hW : WF tb T L A nb) {l c : Nat} (hl : l < 12) (hcw : c < tn (T 9)) : (fX4_placeOf m (nI l) (nI c) hc).bind (fun v1 => fX4_isEmpty m v1 hc) = some (if T (190 + 40 * l + c) = 0 then 1 else 0) := by
  have hw := hW.w
  have hs := sg_32 (hW.sn l c hl (by omega))
  rw [c_placeOf h (by omega) hw.1, Option.bind_some]
  show (fX7_at 2 m (nI (l * tn (T 9) + c)) hc).bind (fun v1 => if v1 = 32 then (some 1) else (some 0)) = _
  rw [at_n (show l * tn (T 9) + c < wlen 2 from plc_lt hl hcw hw.2.2), Option.bind_some, (h.2.1 trivial).a5 l c hl hcw]
  by_cases q : T (190 + 40 * l + c) = 0
  · rw [if_pos (hs.mpr q), if_pos q]
  · rw [if_neg (fun p => q (hs.mp p)), if_neg q]
theorem end_aux (h : MR True h0 hc m T L A nb) (hW : WF tb T L A nb) {l : Nat} (hl : l < 12) : ∀ (k n n' : Nat) (x : Int32), k ≤ tn (T 9) → x + 1 = nI k → k < n → k < n' → ∃ v, v ≤ k ∧ fX4_endOf_11 n m (nI l) x hc = some (nI v) ∧ fX10_longOf_6 n' (nI l) (nI k) (rwm hm T) = some (nI v) := by
  have hw := hW.w
  intro k
  induction k with
  | zero =>
    intro n n' x hk hx hn hn'
    obtain ⟨n, rfl⟩ : ∃ q, n = q + 1 := ⟨n - 1, by omega⟩
    obtain ⟨n', rfl⟩ : ∃ q, n' = q + 1 := ⟨n' - 1, by omega⟩
    have g : x < 0 := by
      have z1 : (1 : Int32).toInt = 1 := rfl
      have z0 : (0 : Int32).toInt = 0 := rfl
      have := congrArg Int32.toInt hx
      have a := lo_i x
      have b := hi_i x
      rw [add_i, z1, n_i (by omega)] at this
      rw [lt_i, z0]; omega
    refine ⟨0, Nat.le_refl _, ?_, ?_⟩
    · simp only [fX4_endOf_11]; rw [if_pos g]; rfl
    · simp only [fX10_longOf_6]; exact if_neg (show ¬ nI 0 < nI 0 from Int32.lt_irrefl)
  | succ k ih =>
    intro n n' x hk hx hn hn'
    obtain ⟨n, rfl⟩ : ∃ q, n = q + 1 := ⟨n - 1, by omega⟩
    obtain ⟨n', rfl⟩ : ∃ q, n' = q + 1 := ⟨n' - 1, by omega⟩
    have ex : x = nI k := by
      have z1 : (1 : Int32).toInt = 1 := rfl
      have := congrArg Int32.toInt hx
      have a := lo_i x
      have b := hi_i x
      rw [add_i, z1, n_i (by omega)] at this
      rw [eqi, n_i (by omega)]; omega
    subst ex
    have ee := c_empty h hW hl (c := k) (by omega)
    have es : nI (k + 1) - 1 = nI k := nI_pred k
    have em : nI (k + 1) + m1 = nI k := by
      rw [eqi, add_s (by rw [n_i (by omega), m1_i]; omega) (by rw [n_i (by omega), m1_i]; omega), n_i (by omega), n_i (by omega), m1_i]; omega
    have g0 : (0 : Int32) < nI (k + 1) := by show nI 0 < nI (k + 1); rw [n_lt (by omega) (by omega)]; omega
    simp only [fX4_endOf_11, fX10_longOf_6, fX10_longOf_27]
    rw [if_neg (n_neg (show k < 2147483648 by omega)), if_pos g0, es, em, m_signAt hl (by omega), Option.bind_some, ← Option.bind_assoc, ee, Option.bind_some]
    by_cases q : T (190 + 40 * l + k) = 0
    · rw [if_pos q, if_pos q, if_neg n10]
      obtain ⟨v, v1, v2, v3⟩ := ih n n' (nI k + m1) (by omega) (by
        have z1 : (1 : Int32).toInt = 1 := rfl
        have a : (nI k + m1).toInt = (k : Int) - 1 := by rw [add_s (by rw [n_i (by omega), m1_i]; omega) (by rw [n_i (by omega), m1_i]; omega), n_i (by omega), m1_i]; omega
        rw [eqi, add_s (by omega) (by omega), a, z1, n_i (by omega)]; omega) (by omega) (by omega)
      exact ⟨v, by omega, v2, v3⟩
    · rw [if_neg q, if_neg q, if_pos rfl, ← nI_succ]
      exact ⟨k + 1, Nat.le_refl _, rfl, rfl⟩
theorem end_p (h : MR True h0 hc m T L A nb) (hW : WF tb T L A nb) {l : Nat} (hl : l < 12) : ∃ v, v ≤ tn (T 9) ∧ fX4_endOf m (nI l) hc = some (nI v) ∧ fX10_longOf (nI l) (rwm hm T) = some (nI v) := by
  have hf := FU_ge
  have hw := hW.w
  have e9 : T 9 = nI (tn (T 9)) := hw.1
  obtain ⟨v, v1, v2, v3⟩ := end_aux (hm := hm) h hW hl (tn (T 9)) FU FU (nI (tn (T 9)) - 1) (Nat.le_refl _) (by
    rw [n_lit 1, n_sub (by omega), n_add]; congr 1; omega) (by omega) (by omega)
  refine ⟨v, v1, ?_, ?_⟩
  · show (fX7_at 0 m 0 hc).bind (fun v3 => fX4_endOf_11 FU m (nI l) (v3 - 1) hc) = _
    rw [c_s0 h, Option.bind_some]
    conv => lhs; rw [e9]
    exact v2
  · show (fX10_its 0 (rwm hm T)).bind (fun v2 => fX10_longOf_6 FU (nI l) v2 (rwm hm T)) = _
    rw [its_0, Option.bind_some]
    conv => lhs; rw [e9]
    exact v3
/-- a look at a line -/
theorem lookLn {a : Int32} {C F : HP → Option (Int32 ⊕ Nat)} {M G : HP → Option (Int32 × HP)}
    (hC : ∀ hc, C hc = (fX9_requireLoaded hc).bind fun q2 => Sum.elim (fun _ => (fX9_requireLine a hc).bind fun q4 => Sum.elim (fun _ => F hc) (fun E => some (.inr E)) q4) (fun E => some (.inr E)) q2)
    (hM : ∀ hm, M hm = (fX10_noLine a hm).bind fun q2 => if q2.1 = 0 then G q2.2 else (some (0, q2.2)))
    (h : ∀ tb hc hm T L A nb k, tb < 500000000 → Ldd tb hc hm T L A nb → hm (10, 0, 0) 0 = 0 → k < tn (T 10) → a = nI k → ∃ r b t, F hc = some r ∧ G (rwm hm T) = some (b, rwm (th hm t) T) ∧ agr [1, 3] r b t) : Look [1, 3] C M := by
  refine lookL (d0 := 0) rfl (F := fun hc => (fX9_requireLine a hc).bind fun q4 => Sum.elim (fun _ => F hc) (fun E => some (.inr E)) q4) (G := fun hm => (nlM a hm).bind fun q2 => if q2.1 = 0 then G q2.2 else (some (0, q2.2))) hC ?_ ?_ ?_
  · intro hm q
    rw [hM, noLine_1 q, Option.bind_some, if_neg n10]
  · intro hm q
    rw [hM, noLine_0 q]
  · intro tb hc hm T L A nb ht hL h0
    have hL' := hL
    obtain ⟨h1, hR, hW, hl⟩ := hL
    have hln := hW.ln
    rcases ix_n a (n := tn (T 10)) (by omega) with ⟨k, hk, rfl⟩ | ho
    · obtain ⟨r, b, t, s1, s2, ag⟩ := h tb hc hm T L A nb k ht hL' h0 hk rfl
      refine ⟨r, b, t, ?_, ?_, ag⟩
      · show (fX9_requireLine (nI k) hc).bind (fun q4 => Sum.elim (fun _ => F hc) (fun E => some (.inr E)) q4) = _
        rw [rqLine_in h1 hW hk, Option.bind_some]; exact s1
      · show (nlM (nI k) (rwm hm T)).bind (fun q2 => if q2.1 = 0 then G q2.2 else (some (0, q2.2))) = _
        rw [nlM_in hW h0 hk, Option.bind_some, if_pos rfl]; exact s2
    · refine ⟨.inr 3, 0, nI (1 + 1), ?_, ?_, agr_th rfl⟩
      · show (fX9_requireLine a hc).bind (fun q4 => Sum.elim (fun _ => F hc) (fun E => some (.inr E)) q4) = _
        rw [rqLine_out h1 hW ho]; rfl
      · show (nlM a (rwm hm T)).bind (fun q2 => if q2.1 = 0 then G q2.2 else (some (0, q2.2))) = _
        rw [nlM_out hW h0 ho, Option.bind_some, if_neg n10]; rfl
theorem op_lineLength (a : Int32) : Look [1, 3] (fX9_lineLength a) (fX10_lineLength a) := by
  refine lookLn (a := a) (F := fun hc => (fX4_endOf 0 a hc).bind fun v5 => some (.inl v5)) (G := fun hm => (fX10_longOf a hm).bind fun v3 => some (v3, hm)) (fun hc => rfl) (fun hm => rfl) ?_
  intro tb hc hm T L A nb k ht hL h0 hk ha
  obtain ⟨h, hR, hW, hl⟩ := hL
  subst ha
  have hln := hW.ln
  obtain ⟨v, v1, v2, v3⟩ := end_p (hm := hm) h hW (l := k) (by omega)
  refine ⟨.inl (nI v), nI v, 0, ?_, ?_, agr_ok⟩
  · show (fX4_endOf 0 (nI k) hc).bind (fun v5 => some (Sum.inl v5)) = _
    rw [v2, Option.bind_some]
  · show (fX10_longOf (nI k) (rwm hm T)).bind (fun v3 => some (v3, rwm hm T)) = _
    rw [v3, Option.bind_some, th_0 h0]
theorem words_aux (h : MR True h0 hc m T L A nb) (hW : WF tb T L A nb) {l : Nat} (hl : l < 12) : ∀ (k c n n' : Nat) (a : Int32), c + k = tn (T 9) → k < n → k < n' → ∃ v, fX4_wordsIn_7 n m (nI l) a (if c = 0 then 0 else (if T (190 + 40 * l + (c - 1)) = 0 then 0 else 1)) (nI c) hc = some v ∧ fX10_words_14 n' (nI l) a (nI c) (rwm hm T) = some (v, rwm hm T) := by
  have hw := hW.w
  have e9 : T 9 = nI (tn (T 9)) := hw.1
  intro k
  induction k with
  | zero =>
    intro c n n' a hk hn hn'
    obtain ⟨n, rfl⟩ : ∃ q, n = q + 1 := ⟨n - 1, by omega⟩
    obtain ⟨n', rfl⟩ : ∃ q, n' = q + 1 := ⟨n' - 1, by omega⟩
    have g : ¬ nI c < nI (tn (T 9)) := by rw [n_lt (by omega) (by omega)]; omega
    refine ⟨a, ?_, ?_⟩
    · simp only [fX4_wordsIn_7]; rw [c_s0 h, Option.bind_some, e9, if_neg g]
    · simp only [fX10_words_14]; rw [its_0, Option.bind_some, e9, if_neg g]
  | succ k ih =>
    intro c n n' a hk hn hn'
    obtain ⟨n, rfl⟩ : ∃ q, n = q + 1 := ⟨n - 1, by omega⟩
    obtain ⟨n', rfl⟩ : ∃ q, n' = q + 1 := ⟨n' - 1, by omega⟩
    have g : nI c < T 9 := by rw [e9, n_lt (by omega) (by omega)]; omega
    have ee := c_empty h hW hl (c := c) (by omega)
    have st := fun a => ih (c + 1) n n' a (by omega) (by omega) (by omega)
    rw [if_neg (show ¬ c + 1 = 0 by omega), show c + 1 - 1 = c by omega] at st
    simp only [fX4_wordsIn_7, fX10_words_14, fX4_wordsIn_39, fX4_wordsIn_53, fX10_words_52, fX10_words_53, flag_1, flag_0, Option.bind_some]
    rw [c_s0 h, its_0, Option.bind_some, Option.bind_some, if_pos g, if_pos g, ← Option.bind_assoc, ee, m_signAt hl (by omega), Option.bind_some, Option.bind_some, ← nI_succ, add_0]
    by_cases q : T (190 + 40 * l + c) = 0
    · have s := st a
      rw [if_pos q] at s
      rw [if_pos q, if_pos q, if_neg n10, if_pos True.intro]; exact s
    · rw [if_neg q] at st
      rw [if_neg q, if_neg q, if_pos rfl, if_neg n10]
      by_cases c0 : c = 0
      · subst c0
        rw [if_pos rfl, if_pos rfl, if_pos (show nI 0 = 0 from rfl)]; exact st _
      · have ep : nI c - 1 = nI (c - 1) := by rw [n_lit 1]; exact n_sub (by omega)
        rw [if_neg c0, if_neg (show ¬ nI c = 0 by rw [n_lit 0, n_eq (by omega) (by omega)]; exact c0), ep, m_signAt hl (by omega), Option.bind_some]
        by_cases q2 : T (190 + 40 * l + (c - 1)) = 0
        · rw [if_pos q2, if_pos q2, if_pos rfl]; exact st _
        · rw [if_neg q2, if_neg q2, if_neg n10]; exact st _
theorem op_words (a : Int32) : Look [1, 3] (fX9_words a) (fX10_words a) := by
  refine lookLn (a := a) (F := fun hc => (fX4_wordsIn 0 a hc).bind fun v5 => some (.inl v5)) (G := fun hm => fX10_words_14 FU a 0 0 hm) (fun hc => rfl) (fun hm => rfl) ?_
  intro tb hc hm T L A nb k ht hL h0 hk ha
  obtain ⟨h, hR, hW, hl⟩ := hL
  subst ha
  have hln := hW.ln
  have hw := hW.w
  have hf := FU_ge
  obtain ⟨v, v1, v2⟩ := words_aux (hm := hm) h hW (l := k) (by omega) (tn (T 9)) 0 FU FU 0 (by omega) (by omega) (by omega)
  refine ⟨.inl v, v, 0, ?_, ?_, agr_ok⟩
  · show (fX4_wordsIn_7 FU 0 (nI k) 0 0 (nI 0) hc).bind (fun v5 => some (Sum.inl v5)) = _
    rw [show fX4_wordsIn_7 FU 0 (nI k) 0 0 (nI 0) hc = _ from v1, Option.bind_some]
  · rw [th_0 h0]; exact v2
end
