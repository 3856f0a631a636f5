/-! ===== reading a text: both readers ===== -/
section
def FrP (β : Nat) (a hc : HP) : Prop := (∀ r, ¬ ofm 1 r → r ≠ (5, 0, 0) → hc r = a r) ∧ isB (hc (1, 0, 1) 4) = true ∧ isB (hc (6, 0, 1) 3) = true ∧ ∃ bb, bb ≤ β ∧ hc (0, 0, 1) 5 = nI bb
def FrQ (b hm : HP) : Prop := (∀ r, r ≠ (10, 0, 0) → r ≠ (11, 20, 0) → r ≠ (11, 21, 0) → r ≠ (11, 22, 0) → hm r = b r) ∧ ∀ k, k ≠ 2 → (k < 14 ∨ 20 < k) → hm (10, 0, 0) k = b (10, 0, 0) k
/-- an error was found, the same one -/
def Ded (hc hm : HP) : Prop := ∃ c, c < 4 ∧ c ≠ 0 ∧ hc (5, 0, 0) 7 = nI c ∧ hm (10, 0, 0) 19 = nI c ∧ hc (5, 0, 0) 8 = hm (10, 0, 0) 20
def Liv (n : Nat) (a : HP) (X : HP → HP → Prop) (hc hm : HP) : Prop := TkR (tn (a (5, 0, 0) 3)) (a (11, 10, 0)) n (hc (5, 0, 0)) (hm (10, 0, 0)) ∧ hc (5, 0, 0) 7 = 0 ∧ hm (10, 0, 0) 19 = 0 ∧ hc (5, 0, 0) 8 = m1 ∧ X hc hm
def PRx (β n : Nat) (a b : HP) (X : HP → HP → Prop) (hc hm : HP) : Prop := FrP β a hc ∧ FrQ b hm ∧ (Ded hc hm ∨ Liv n a X hc hm)
def XIv (X : HP → HP → Prop) : Prop := ∀ hc hm hc' hm', (∀ r, r ≠ (5, 0, 0) → hc' r = hc r) → (∀ r, r ≠ (10, 0, 0) → hm' r = hm r) → hm' (10, 0, 0) 2 = hm (10, 0, 0) 2 → X hc hm → X hc' hm'
def Bas (n : Nat) (a b : HP) : Prop := n ≤ 500 ∧ (∀ k, k < 500 → a (11, 10, 0) k = b (11, 25, 0) k) ∧ ∀ k, k < 500 → isN (b (11, 25, 0) k)
variable {β n : Nat} {a b hc hm : HP} {X : HP → HP → Prop}
theorem n_z {c : Nat} (h : c < 4) (h0 : c ≠ 0) : ¬ nI c = 0 := by
  rw [show (0 : Int32) = nI 0 from rfl, n_eq (by omega) (by omega)]; exact h0
theorem FrP_5 {hc' : HP} (h : FrP β a hc) (e : ∀ r, r ≠ (5, 0, 0) → hc' r = hc r) : FrP β a hc' :=
  ⟨fun r h1 h2 => (e r h2).trans (h.1 r h1 h2), by rw [e _ (by decide)]; exact h.2.1, by rw [e _ (by decide)]; exact h.2.2.1, by rw [e _ (by decide)]; exact h.2.2.2⟩
theorem ded_fail (h : Ded hc hm) (y : Int32) : fX5_fail y hc = some hc := by
  obtain ⟨c, c1, c2, c3, _⟩ := h
  simp only [fX5_fail]; rw [c3, if_neg (n_z c1 c2)]
theorem ded_tok (h : Ded hc hm) : fX5_readToken hc = some hc := by
  obtain ⟨c, c1, c2, c3, _⟩ := h
  simp only [fX5_readToken]; rw [c3, if_neg (n_z c1 c2)]
theorem ded_fails (h : Ded hc hm) (y : Int32) : fX10_fails y hm = some hm := by
  obtain ⟨c, c1, c2, _, c3, _⟩ := h
  simp only [fX10_fails]; rw [c3, if_neg (n_z c1 c2)]
theorem ded_goes (h : Ded hc hm) : fX10_goesOn hm = some hm := by
  obtain ⟨c, c1, c2, _, c3, _⟩ := h
  simp only [fX10_goesOn]; rw [c3, if_neg (n_z c1 c2)]
theorem ded_if (h : Ded hc hm) (x y : Int32) : fX10_failsIf x y hm = some hm := by
  simp only [fX10_failsIf]
  split
  · rfl
  · rw [ded_fails h, Option.bind_some]
/-- a text is read on from here -/
def reb (a hc : HP) : HP := up a (5, 0, 0) 3 (hc (5, 0, 0) 3)
theorem reb_n {a hc : HP} {r : RF} (h : r ≠ (5, 0, 0)) : reb a hc r = a r := up_n h
theorem reb_3 {a hc : HP} : reb a hc (5, 0, 0) 3 = hc (5, 0, 0) 3 := up_s
theorem FrP_reb {a hc h0 : HP} (h : FrP β a hc) : FrP β (reb a h0) hc :=
  ⟨fun r h1 h2 => by rw [reb_n h2]; exact h.1 r h1 h2, h.2⟩
theorem FrP_unreb {a hc h0 : HP} (h : FrP β (reb a h0) hc) : FrP β a hc :=
  ⟨fun r h1 h2 => by have := h.1 r h1 h2; rw [reb_n h2] at this; exact this, h.2⟩
theorem Liv_lo {n : Nat} {a a' : HP} {X : HP → HP → Prop} {hc hm : HP} (hL : Liv n a' X hc hm) (e : a' (11, 10, 0) = a (11, 10, 0)) (h : tn (a (5, 0, 0) 3) ≤ tn (a' (5, 0, 0) 3)) : Liv n a X hc hm := by
  obtain ⟨ht, l⟩ := hL
  obtain ⟨t1, t2, pos, st, kd, t3, t4, t5, t6, t7, t8, t9, t10, t11, t12, t13, t14, t15⟩ := ht
  exact ⟨⟨t1, t2, pos, st, kd, t3, t4, t5, t6, t7, t8, t9, t10, t11, t12, by rw [← e]; exact t13, by omega, fun z => by have := t15 z; omega⟩, l⟩
theorem rt_reb (hb : Bas n a b) (hX : XIv X) (hP : FrP β a hc) (hQ : FrQ b hm) (hL : Liv n a X hc hm) : ∃ hc' hm', fX5_readToken hc = some hc' ∧ fX10_token hm = some hm' ∧ FrP β a hc' ∧ FrQ b hm' ∧ Liv n (reb a hc) X hc' hm' := by
  obtain ⟨ht, l7, l19, l8, hx⟩ := hL
  obtain ⟨t1, t2, pos, st, kd, t3, t4, t5, t6, t7, t8, _⟩ := ht
  have hn := hb.1
  have eB : hc (11, 10, 0) = a (11, 10, 0) := hP.1 _ (by unfold ofm; simp) (by decide)
  have eY : hm (11, 25, 0) = b (11, 25, 0) := hQ.1 _ (by decide) (by decide) (by decide) (by decide)
  obtain ⟨F', G', e1, e2, e3, e4, e5⟩ := tok_p (hc := hc) (hm := hm) (n := n) (by rw [eB, eY]; exact hb.2.1) (by rw [eY]; exact hb.2.2) hb.1 (F := hc (5, 0, 0)) (G := hm (10, 0, 0)) t8 t1 t3 l7 t2 t4 (lo := tn (reb a hc (5, 0, 0) 3)) (by rw [reb_3, t3, n_t (by omega)]; exact Nat.le_refl _)
  rw [rwr_id] at e1 e2
  refine ⟨_, _, e1, e2, FrP_5 hP (fun r hr => rwr_n hr), ⟨fun r h1 h2 h3 h4 => by rw [rwr_n h1]; exact hQ.1 r h1 h2 h3 h4, fun k h1 h2 => by rw [rwr_e, e5 k (by omega)]; exact hQ.2 k h1 h2⟩, ?_, ?_, ?_, ?_, ?_⟩
  · rw [rwr_e, rwr_e, reb_n (r := (11, 10, 0)) (by decide), ← eB]; exact e3
  · rw [rwr_e, e4 7 (by omega)]; exact l7
  · rw [rwr_e, e5 19 (by omega)]; exact l19
  · rw [rwr_e, e4 8 (by omega)]; exact l8
  · exact hX hc hm _ _ (fun r hr => rwr_n hr) (fun r hr => rwr_n hr) (by rw [rwr_e]; exact e5 2 (by omega)) hx
theorem Liv_pos (hn : n ≤ 500) (hL : Liv n a X hc hm) : tn (a (5, 0, 0) 3) ≤ tn (hc (5, 0, 0) 3) := by
  obtain ⟨t1, t2, pos, st, kd, t3, t4, t5, t6, t7, t8, t9, t10, t11, t12, t13, t14, t15⟩ := hL.1
  rw [t3, n_t (by omega)]; exact t14
theorem rt_live (hb : Bas n a b) (hX : XIv X) (hP : FrP β a hc) (hQ : FrQ b hm) (hL : Liv n a X hc hm) : ∃ hc' hm', fX5_readToken hc = some hc' ∧ fX10_token hm = some hm' ∧ FrP β a hc' ∧ FrQ b hm' ∧ Liv n a X hc' hm' := by
  obtain ⟨hc', hm', e1, e2, e3, e4, e5⟩ := rt_reb hb hX hP hQ hL
  exact ⟨hc', hm', e1, e2, e3, e4, Liv_lo e5 (reb_n (by decide)) (by rw [reb_3]; exact Liv_pos hb.1 hL)⟩
theorem rt_p (hb : Bas n a b) (hX : XIv X) (h : PRx β n a b X hc hm) : ∃ hc' hm', fX5_readToken hc = some hc' ∧ fX10_goesOn hm = some hm' ∧ PRx β n a b X hc' hm' := by
  obtain ⟨hP, hQ, hD | hL⟩ := h
  · exact ⟨hc, hm, ded_tok hD, ded_goes hD, hP, hQ, Or.inl hD⟩
  · obtain ⟨hc', hm', e1, e2, p1, p2, p3⟩ := rt_live hb hX hP hQ hL
    refine ⟨hc', hm', e1, ?_, p1, p2, Or.inr p3⟩
    simp only [fX10_goesOn]
    rw [hL.2.2.1, if_pos rfl, e2, Option.bind_some]
theorem fail_live {c : Nat} (hc1 : c < 4) (hc0 : c ≠ 0) (hP : FrP β a hc) (hQ : FrQ b hm) (hL : Liv n a X hc hm) : ∃ hc' hm', fX5_fail (nI c) hc = some hc' ∧ fX10_fails (nI c) hm = some hm' ∧ FrP β a hc' ∧ FrQ b hm' ∧ Ded hc' hm' ∧ hc' (5, 0, 0) 6 = hc (5, 0, 0) 6 := by
  obtain ⟨ht, l7, l19, l8, hx⟩ := hL
  obtain ⟨t1, t2, pos, st, kd, t3, t4, t5, t6, _⟩ := ht
  refine ⟨up (up hc (5, 0, 0) 7 (nI c)) (5, 0, 0) 8 (nI st), up (up hm (10, 0, 0) 19 (nI c)) (10, 0, 0) 20 (nI st), ?_, ?_, FrP_5 hP (fun r hr => by rw [up_n hr, up_n hr]), ⟨fun r h1 h2 h3 h4 => by rw [up_n h1, up_n h1]; exact hQ.1 r h1 h2 h3 h4, fun k h1 h2 => by rw [up_o (fun z => by have := z.2; omega), up_o (fun z => by have := z.2; omega)]; exact hQ.2 k h1 h2⟩, ⟨c, hc1, hc0, by rw [up_o (by simp), up_s], by rw [up_o (by simp), up_s], by rw [up_s, up_s]⟩, by rw [up_o (by simp), up_o (by simp)]⟩
  · simp only [fX5_fail, fX5_fail_12]
    rw [l7, if_pos rfl, up_o (by simp), t5]
  · simp only [fX10_fails, fX10_fails_12]
    rw [l19, if_pos rfl, up_o (by simp), t6]
theorem isW_c (wr : Nat) (hl : (txt wr).length < 100) : ∀ (p i m : Nat), i + p = (txt wr).length → p < m → ∃ v, (v = 0 ∨ v = 1) ∧ fX5_isWord_28 m wr (nI i) hc = some v := by
  intro p
  induction p with
  | zero =>
    intro i m hi hm0
    obtain ⟨m, rfl⟩ : ∃ q, m = q + 1 := ⟨m - 1, by omega⟩
    refine ⟨1, Or.inr rfl, ?_⟩
    simp only [fX5_isWord_28]
    rw [if_neg (by rw [n_lt (by omega) (by omega)]; omega)]
  | succ p ih =>
    intro i m hi hm0
    obtain ⟨m, rfl⟩ : ∃ q, m = q + 1 := ⟨m - 1, by omega⟩
    simp only [fX5_isWord_28]
    rw [if_pos (by rw [n_lt (by omega) (by omega)]; omega), at_eq, Option.bind_some, if_pos (inb_n (by omega) (by omega)), ← nI_succ]
    split
    · exact ih (i + 1) m (by omega) (by omega)
    · exact ⟨0, Or.inl rfl, rfl⟩
theorem isW_any (wr : Nat) (hl : (txt wr).length < 100) (hc : HP) : ∃ v, (v = 0 ∨ v = 1) ∧ fX5_isWord wr hc = some v := by
  have hf := FU_ge
  simp only [fX5_isWord]
  split
  · split
    · exact isW_c wr hl (txt wr).length 0 FU (by omega) (by omega)
    · exact ⟨0, Or.inl rfl, rfl⟩
  · exact ⟨0, Or.inl rfl, rfl⟩
theorem ded_word (h : Ded hc hm) (wr : Nat) : fX10_isWord wr hm = some 0 := by
  obtain ⟨c, c1, c2, _, c3, _⟩ := h
  simp only [fX10_isWord]; rw [c3, if_neg (n_z c1 c2)]
theorem isW_p (hb : Bas n a b) (wr : Nat) (hl : (txt wr).length < 100) (hP : FrP β a hc) (hQ : FrQ b hm) (hL : Liv n a X hc hm) : ∃ v, (v = 0 ∨ v = 1) ∧ fX5_isWord wr hc = some v ∧ fX10_isWord wr hm = some v := by
  have hf := FU_ge
  have hn := hb.1
  obtain ⟨ht, l7, l19, l8, hx⟩ := hL
  obtain ⟨t1, t2, pos, st, kd, t3, t4, t5, t6, t7, t8, t9, t10, t11, _⟩ := ht
  have eB : hc (11, 10, 0) = a (11, 10, 0) := hP.1 _ (by unfold ofm; simp) (by decide)
  have eY : hm (11, 25, 0) = b (11, 25, 0) := hQ.1 _ (by decide) (by decide) (by decide) (by decide)
  simp only [fX5_isWord, fX10_isWord]
  rw [l19, if_pos rfl, t9, t10, t3, t4, t5, t6]
  by_cases q1 : nI kd = 1
  · rw [if_pos q1, if_pos q1]
    by_cases q2 : nI pos - nI st = nI (txt wr).length
    · rw [if_pos q2, if_pos q2]
      rw [n_sub t7, n_eq (by omega) (by omega)] at q2
      have loop : ∀ (p i m m' : Nat), i + p = (txt wr).length → p < m → p < m' → ∃ v, (v = 0 ∨ v = 1) ∧ fX5_isWord_28 m wr (nI i) hc = some v ∧ fX10_isWord_35 m' wr (nI i) hm = some v := by
        intro p
        induction p with
        | zero =>
          intro i m m' hi hm0 hm1
          obtain ⟨m, rfl⟩ : ∃ q, m = q + 1 := ⟨m - 1, by omega⟩
          obtain ⟨m', rfl⟩ : ∃ q, m' = q + 1 := ⟨m' - 1, by omega⟩
          refine ⟨1, Or.inr rfl, ?_, ?_⟩
          · simp only [fX5_isWord_28]
            rw [if_neg (by rw [n_lt (by omega) (by omega)]; omega)]
          · simp only [fX10_isWord_35]
            rw [if_neg (by rw [n_lt (by omega) (by omega)]; omega)]
        | succ p ih =>
          intro i m m' hi hm0 hm1
          obtain ⟨m, rfl⟩ : ∃ q, m = q + 1 := ⟨m - 1, by omega⟩
          obtain ⟨m', rfl⟩ : ∃ q, m' = q + 1 := ⟨m' - 1, by omega⟩
          have hs : fX10_seen (nI (st + i)) hm = some (b (11, 25, 0) (st + i)) := by
            have := seen_in (hm := hm) (n := n) (k := st + i) (G := hm (10, 0, 0)) hn t2 (by omega)
            rw [rwr_id, eY] at this; exact this
          simp only [fX5_isWord_28, fX10_isWord_35]
          rw [if_pos (by rw [n_lt (by omega) (by omega)]; omega), if_pos (by rw [n_lt (by omega) (by omega)]; omega), t5, t6, n_add, at_n (show st + i < wlen 10 by show st + i < 500; omega), hs, Option.bind_some, Option.bind_some, if_pos (inb_n (by omega) (by omega)), if_pos (inb_n (by omega) (by omega)), eB, hb.2.1 _ (by omega), ← nI_succ]
          split
          · exact ih (i + 1) m m' (by omega) (by omega) (by omega)
          · exact ⟨0, Or.inl rfl, rfl, rfl⟩
      exact loop (txt wr).length 0 FU FU (by omega) (by omega) (by omega)
    · rw [if_neg q2, if_neg q2]; exact ⟨0, Or.inl rfl, rfl, rfl⟩
  · rw [if_neg q1, if_neg q1]; exact ⟨0, Or.inl rfl, rfl, rfl⟩
theorem word_p (hb : Bas n a b) (hX : XIv X) (wr : Nat) (hl : (txt wr).length < 100) (h : PRx β n a b X hc hm) : ∃ hc' hm', fX5_takeWord wr hc = some hc' ∧ fX10_word wr hm = some hm' ∧ PRx β n a b X hc' hm' := by
  obtain ⟨hP, hQ, hD | hL⟩ := h
  · obtain ⟨v, v1, v2⟩ := isW_any wr hl hc
    refine ⟨hc, hm, ?_, ?_, hP, hQ, Or.inl hD⟩
    · simp only [fX5_takeWord, fX5_takeWord_13]
      rw [v2, Option.bind_some, ded_fail hD, Option.bind_some, ded_tok hD, Option.bind_some]
      split <;> rfl
    · simp only [fX10_word, fX10_word_14]
      rw [ded_word hD, Option.bind_some, if_pos rfl, ded_if hD, Option.bind_some, ded_goes hD, Option.bind_some]
  · obtain ⟨v, v1, v2, v3⟩ := isW_p hb wr hl hP hQ hL
    by_cases q : v = 0
    · obtain ⟨h1, h2, e1, e2, p1, p2, p3, _⟩ := fail_live (c := 1) (by omega) (by omega) hP hQ hL
      refine ⟨h1, h2, ?_, ?_, p1, p2, Or.inl p3⟩
      · simp only [fX5_takeWord, fX5_takeWord_13]
        rw [v2, Option.bind_some, if_pos q, show fX5_fail 1 hc = some h1 from e1, Option.bind_some, ded_tok p3, Option.bind_some]
      · simp only [fX10_word, fX10_word_14, fX10_failsIf]
        rw [v3, Option.bind_some, if_pos q, if_neg n10, show fX10_fails 1 hm = some h2 from e2, Option.bind_some, Option.bind_some, ded_goes p3, Option.bind_some]
    · obtain ⟨h1, h2, e1, e2, p⟩ := rt_p hb hX (⟨hP, hQ, Or.inr hL⟩ : PRx β n a b X hc hm)
      refine ⟨h1, h2, ?_, ?_, p⟩
      · simp only [fX5_takeWord, fX5_takeWord_13]
        rw [v2, Option.bind_some, if_neg q, e1, Option.bind_some]
      · simp only [fX10_word, fX10_word_14, fX10_failsIf]
        rw [v3, Option.bind_some, if_neg q, if_pos trivial, Option.bind_some, e2, Option.bind_some]
theorem semi_p (hb : Bas n a b) (hX : XIv X) (h : PRx β n a b X hc hm) : ∃ hc' hm', fX5_takeSemicolon hc = some hc' ∧ fX10_semicolon hm = some hm' ∧ PRx β n a b X hc' hm' := by
  obtain ⟨hP, hQ, hD | hL⟩ := h
  · refine ⟨hc, hm, ?_, ?_, hP, hQ, Or.inl hD⟩
    · simp only [fX5_takeSemicolon, fX5_takeSemicolon_13]
      rw [ded_fail hD, Option.bind_some, ded_tok hD, Option.bind_some]
      split <;> rfl
    · obtain ⟨c, c1, c2, _, c3, _⟩ := id hD
      simp only [fX10_semicolon, fX10_semicolon_20, fX10_semicolon_21]
      rw [c3, if_neg (n_z c1 c2), ded_if hD, Option.bind_some, ded_goes hD, Option.bind_some]
  · obtain ⟨t1, t2, pos, st, kd, t3, t4, t5, t6, t7, t8, t9, t10, t11, _⟩ := id hL.1
    have e19 := hL.2.2.1
    by_cases q : nI kd = 3
    · obtain ⟨h1, h2, e1, e2, p⟩ := rt_p hb hX (⟨hP, hQ, Or.inr hL⟩ : PRx β n a b X hc hm)
      refine ⟨h1, h2, ?_, ?_, p⟩
      · simp only [fX5_takeSemicolon, fX5_takeSemicolon_13]
        rw [t9, if_pos q, e1, Option.bind_some]
      · simp only [fX10_semicolon, fX10_semicolon_20, fX10_semicolon_21, fX10_failsIf]
        rw [e19, if_pos rfl, t10, if_pos q, if_pos trivial, Option.bind_some, e2, Option.bind_some]
    · obtain ⟨h1, h2, e1, e2, p1, p2, p3, _⟩ := fail_live (c := 1) (by omega) (by omega) hP hQ hL
      refine ⟨h1, h2, ?_, ?_, p1, p2, Or.inl p3⟩
      · simp only [fX5_takeSemicolon, fX5_takeSemicolon_13]
        rw [t9, if_neg q, show fX5_fail 1 hc = some h1 from e1, Option.bind_some, ded_tok p3, Option.bind_some]
      · simp only [fX10_semicolon, fX10_semicolon_20, fX10_semicolon_21, fX10_failsIf]
        rw [e19, if_pos rfl, t10, if_neg q, if_neg n10, show fX10_fails 1 hm = some h2 from e2, Option.bind_some, Option.bind_some, ded_goes p3, Option.bind_some]
theorem ded_num (h : Ded hc hm) (lo hi : Int32) : fX5_requireNumber lo hi hc = some hc := by
  simp only [fX5_requireNumber, fX5_requireNumber_32]
  rw [ded_fail h, ded_fail h, Option.bind_some]
  split
  · split
    · rfl
    · split <;> rfl
  · rfl
theorem ded_looks (h : Ded hc hm) (lo hi : Int32) : fX10_looks lo hi hm = some (lo, hm) := by
  obtain ⟨c, c1, c2, _, c3, _⟩ := id h
  simp only [fX10_looks, fX10_looks_33]
  rw [ded_fails h, ded_fails h, Option.bind_some, c3, if_neg (n_z c1 c2)]
  split
  · simp only [fX10_in]
    split
    · rw [Option.bind_some, if_pos rfl]
    · split
      · rw [Option.bind_some, if_pos rfl]
      · rw [Option.bind_some, if_neg n10]
  · rfl
/-- a number is looked at -/
theorem look_p (hP : FrP β a hc) (hQ : FrQ b hm) (hL : Liv n a X hc hm) (lo hi : Int32) : ∃ hc' hm' y, fX5_requireNumber lo hi hc = some hc' ∧ fX10_looks lo hi hm = some (y, hm') ∧ FrP β a hc' ∧ FrQ b hm' ∧ (Ded hc' hm' ∨ (hc' = hc ∧ hm' = hm ∧ ∃ v, v < 1000 ∧ hc (5, 0, 0) 6 = nI v ∧ y = nI v ∧ ¬ nI v < lo ∧ ¬ hi < nI v)) := by
  obtain ⟨t1, t2, pos, st, kd, t3, t4, t5, t6, t7, t8, t9, t10, t11, t12, _⟩ := id hL.1
  have e19 := hL.2.2.1
  simp only [fX5_requireNumber, fX5_requireNumber_32, fX10_looks, fX10_looks_33, fX10_in]
  rw [t9, t10]
  by_cases q : nI kd = 2
  · obtain ⟨v, v1, v2, v3⟩ := t12 ((n_eq (b := 2) (by omega) (by omega)).mp q)
    rw [if_pos q, if_pos q, v2, v3]
    obtain ⟨h1, h2, e1, e2, p1, p2, p3, _⟩ := fail_live (c := 2) (by omega) (by omega) hP hQ hL
    obtain ⟨c, c1, c2, _, c3, _⟩ := id p3
    by_cases q1 : nI v < lo
    · refine ⟨h1, h2, lo, ?_, ?_, p1, p2, Or.inl p3⟩
      · rw [if_pos q1, show fX5_fail 2 hc = some h1 from e1, Option.bind_some]
      · rw [if_pos q1, Option.bind_some, if_pos rfl, show fX10_fails 2 hm = some h2 from e2, Option.bind_some, c3, if_neg (n_z c1 c2)]
    · by_cases q2 : hi < nI v
      · refine ⟨h1, h2, lo, ?_, ?_, p1, p2, Or.inl p3⟩
        · rw [if_neg q1, if_pos q2, show fX5_fail 2 hc = some h1 from e1, Option.bind_some]
        · rw [if_neg q1, if_pos q2, Option.bind_some, if_pos rfl, show fX10_fails 2 hm = some h2 from e2, Option.bind_some, c3, if_neg (n_z c1 c2)]
      · refine ⟨hc, hm, nI v, ?_, ?_, hP, hQ, Or.inr ⟨rfl, rfl, v, v1, rfl, rfl, q1, q2⟩⟩
        · rw [if_neg q1, if_neg q2]
        · rw [if_neg q1, if_neg q2, Option.bind_some, if_neg n10, e19, if_pos rfl]
  · obtain ⟨h1, h2, e1, e2, p1, p2, p3, _⟩ := fail_live (c := 1) (by omega) (by omega) hP hQ hL
    obtain ⟨c, c1, c2, _, c3, _⟩ := id p3
    refine ⟨h1, h2, lo, ?_, ?_, p1, p2, Or.inl p3⟩
    · rw [if_neg q, show fX5_fail 1 hc = some h1 from e1, Option.bind_some]
    · rw [if_neg q, show fX10_fails 1 hm = some h2 from e2, Option.bind_some, c3, if_neg (n_z c1 c2)]
/-- a number is taken -/
theorem num_p (hb : Bas n a b) (hX : XIv X) (lo hi lo' hi' : Int32) (h : PRx β n a b X hc hm) (he : Liv n a X hc hm → lo = lo' ∧ hi = hi') : ∃ x hc' y hm', fX5_takeNumber lo hi hc = some (x, hc') ∧ fX10_takes lo' hi' hm = some (y, hm') ∧ FrP β a hc' ∧ FrQ b hm' ∧ (Ded hc' hm' ∨ (Liv n a X hc' hm' ∧ ∃ v, v < 1000 ∧ x = nI v ∧ y = nI v ∧ ¬ nI v < lo ∧ ¬ hi < nI v)) := by
  obtain ⟨hP, hQ, hD | hL⟩ := h
  · refine ⟨hc (5, 0, 0) 6, hc, lo', hm, ?_, ?_, hP, hQ, Or.inl hD⟩
    · simp only [fX5_takeNumber]
      rw [ded_num hD, Option.bind_some, ded_tok hD, Option.bind_some]
    · simp only [fX10_takes]
      rw [ded_looks hD, Option.bind_some, ded_goes hD, Option.bind_some]
  · obtain ⟨he1, he2⟩ := he hL
    subst he1
    subst he2
    obtain ⟨h1, h2, y, e1, e2, p1, p2, hD | ⟨rfl, rfl, v, v1, v2, v3, v4, v5⟩⟩ := look_p hP hQ hL lo hi
    · refine ⟨h1 (5, 0, 0) 6, h1, y, h2, ?_, ?_, p1, p2, Or.inl hD⟩
      · simp only [fX5_takeNumber]
        rw [e1, Option.bind_some, ded_tok hD, Option.bind_some]
      · simp only [fX10_takes]
        rw [e2, Option.bind_some, ded_goes hD, Option.bind_some]
    · obtain ⟨h3, h4, e3, e4, p3, p4, p5⟩ := rt_live hb hX hP hQ hL
      refine ⟨nI v, h3, nI v, h4, ?_, ?_, p3, p4, Or.inr ⟨p5, v, v1, rfl, rfl, v4, v5⟩⟩
      · simp only [fX5_takeNumber]
        rw [e1, Option.bind_some, e3, Option.bind_some, v2]
      · simp only [fX10_takes, fX10_goesOn]
        rw [e2, Option.bind_some]
        show ((if h2 (10, 0, 0) 19 = 0 then (fX10_token h2).bind fun hp3 => some hp3 else some h2).bind fun hp5 => some (y, hp5)) = _
        rw [hL.2.2.1, if_pos rfl, e4, Option.bind_some, Option.bind_some, v3]
end
