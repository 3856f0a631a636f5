/-! ===== the loop over the lines ===== -/
section
/-- what the reference does behind its last line -/
noncomputable def rdT (hp : HP) : Option HP := (fX10_its 2 hp).bind fun v4 => (fX10_fillsRibbon (up hp (11, 22, 0) 1 v4)).bind fun hp7 => some hp7
variable {β n : Nat} {a b hc hm : HP}
theorem end_c {m : Nat} {x : Int32} (h : ¬ hc (5, 0, 0) 7 = 0) : fX5_parse_80 (m + 1) x hc = fX5_parse_149 hc := by
  show (if x < (hc (5, 0, 0) 2) then (if (hc (5, 0, 0) 7) = 0 then _ else (fX5_parse_149 hc)) else (fX5_parse_149 hc)) = _
  rw [if_neg h]
  split <;> rfl
theorem end_c2 {m : Nat} {x : Int32} (h : hc (5, 0, 0) 4 = 0) : fX5_parse_80 (m + 1) x hc = fX5_parse_149 hc := by
  show (if x < (hc (5, 0, 0) 2) then (if (hc (5, 0, 0) 7) = 0 then (if (hc (5, 0, 0) 4) = 0 then (fX5_parse_149 hc) else _) else (fX5_parse_149 hc)) else (fX5_parse_149 hc)) = _
  rw [if_pos h]
  split
  · split <;> rfl
  · rfl
theorem end_md {m : Nat} (hD : Ded hc hm) : fX10_reads_32 (m + 1) hm = rdT hm := by
  obtain ⟨c, c1, c2, _, c3, _⟩ := id hD
  simp only [fX10_reads_32]
  rw [c3, if_neg (n_z c1 c2)]
  simp only [fX10_reads_58, fX10_reads_71]
  rw [ded_if hD, ded_if hD, Option.bind_some]
  split <;> rfl
theorem end_m0 {m : Nat} (h19 : hm (10, 0, 0) 19 = 0) (h17 : hm (10, 0, 0) 17 = 0) : fX10_reads_32 (m + 1) hm = rdT hm := by
  simp only [fX10_reads_32]
  rw [h19, if_pos rfl, h17, if_neg (show ¬ (0 : Int32) = 3 by decide)]
  simp only [fX10_reads_58, fX10_reads_71, fX10_failsIf]
  rw [h17, if_pos rfl, if_pos trivial, Option.bind_some]
  rfl
theorem FrP_26 (h : FrP β a hc) {k : Nat} (hx : Xk k hc hm) : FrP 26 a hc := by
  obtain ⟨nb, hb⟩ := hx.2.2.2.1
  have b0 : nb ≤ 26 := hb 0
  exact ⟨h.1, h.2.1, h.2.2.1, nb, b0, hb 1⟩
theorem FrP_le {γ : Nat} (h : FrP β a hc) (e : β ≤ γ) : FrP γ a hc := by
  obtain ⟨h1, h2, h3, bb, h4, h5⟩ := h
  exact ⟨h1, h2, h3, bb, by omega, h5⟩
theorem Bas_reb (hb : Bas n a b) : Bas n (reb a hc) b := by
  refine ⟨hb.1, ?_, hb.2.2⟩
  rw [reb_n (by decide)]; exact hb.2.1
theorem ded_tabC (h : Ded hc hm) (hP : FrP β a hc) : ∃ c', fX5_takeTab hc = some c' ∧ FrP β a c' ∧ Ded c' hm := by
  refine ⟨PUt hc 4 1 (hc (5, 0, 0) 6) 1, ?_, PUt_F hP _ _, Ded_PUt h _ _⟩
  exact (bd1 (ded_tok h)).trans ((bd1 (at_eq 0 1 0 hc)).trans ((bd1 (ded_num h _ _)).trans (ded_tab h _)))
/-- both come to the end of the text alike -/
def OutE (n : Nat) (a b hc hm : HP) : Prop := FrP 100 a hc ∧ FrQ b hm ∧ (Ded hc hm ∨ Liv n a (Xk 12) hc hm)
theorem loop_p : ∀ (p x m m' : Nat) (a hc hm : HP), x + p = n → p + 1 < m → p + 1 < m' → Bas n a b → FrP 26 a hc → FrQ b hm → Liv n a (Xk 12) hc hm → (¬ hc (5, 0, 0) 4 = 0 → x < tn (hc (5, 0, 0) 3)) → ∃ hc' hm', fX5_parse_80 m (nI x) hc = fX5_parse_149 hc' ∧ fX10_reads_32 m' hm = rdT hm' ∧ OutE n a b hc' hm' := by
  intro p
  induction p with
  | zero =>
    intro x m m' a hc hm hx hm0 hm1 hb hP hQ hL hpos
    obtain ⟨m, rfl⟩ : ∃ q, m = q + 1 := ⟨m - 1, by omega⟩
    obtain ⟨m', rfl⟩ : ∃ q, m' = q + 1 := ⟨m' - 1, by omega⟩
    have hn := hb.1
    obtain ⟨t1, t2, pos, st, kd, t3, t4, t5, t6, t7, t8, t9, t10, t11, _⟩ := id hL.1
    have h4 : hc (5, 0, 0) 4 = 0 := by
      by_cases q : hc (5, 0, 0) 4 = 0
      · exact q
      · have := hpos q
        rw [t3, n_t (by omega)] at this
        omega
    have h17 : hm (10, 0, 0) 17 = 0 := by rw [t10, ← t9]; exact h4
    exact ⟨hc, hm, end_c2 h4, end_m0 hL.2.2.1 h17, FrP_le hP (by omega), hQ, Or.inr hL⟩
  | succ p ih =>
    intro x m m' a hc hm hx hm0 hm1 hb hP hQ hL hpos
    obtain ⟨m, rfl⟩ : ∃ q, m = q + 2 := ⟨m - 2, by omega⟩
    obtain ⟨m', rfl⟩ : ∃ q, m' = q + 2 := ⟨m' - 2, by omega⟩
    have hn := hb.1
    obtain ⟨t1, t2, pos, st, kd, t3, t4, t5, t6, t7, t8, t9, t10, t11, _⟩ := id hL.1
    have e19 := hL.2.2.1
    by_cases k0 : hc (5, 0, 0) 4 = 0
    · have h17 : hm (10, 0, 0) 17 = 0 := by rw [t10, ← t9]; exact k0
      exact ⟨hc, hm, end_c2 k0, end_m0 hL.2.2.1 h17, FrP_le hP (by omega), hQ, Or.inr hL⟩
    · have hx0 := hpos k0
      have k0' : ¬ nI kd = 0 := by rw [← t9]; exact k0
      have hlt : nI x < nI n := by rw [n_lt (by omega) (by omega)]; omega
      have cs : fX5_parse_80 (m + 2) (nI x) hc = ((fX5_takeSemicolon hc).bind fun hp6 => (fX5_isWord 3 hp6).bind fun v7 => if v7 = 0 then ((fX5_isWord 4 hp6).bind fun v8 => if v8 = 0 then ((fX5_fail 1 hp6).bind fun hp11 => fX5_parse_80 (m + 1) (nI (x + 1)) hp11) else ((fX5_takeTab hp6).bind fun hp14 => fX5_parse_80 (m + 1) (nI (x + 1)) hp14)) else ((fX5_takeBar hp6).bind fun hp17 => fX5_parse_80 (m + 1) (nI (x + 1)) hp17)) := by
        rw [show nI (x + 1) = nI x + 1 from (n_add x 1).symm]
        show (if nI x < (hc (5, 0, 0) 2) then (if (hc (5, 0, 0) 7) = 0 then (if (hc (5, 0, 0) 4) = 0 then (fX5_parse_149 hc) else _) else (fX5_parse_149 hc)) else (fX5_parse_149 hc)) = _
        rw [t1, if_pos hlt, hL.2.1, if_pos rfl, if_neg k0]
        rfl
      rw [cs]
      -- behind a line
      have nxt : ∀ c' m'', PRx 27 n (reb a hc) b (Xk 12) c' m'' → ∃ hc' hm', fX5_parse_80 (m + 1) (nI (x + 1)) c' = fX5_parse_149 hc' ∧ fX10_reads_32 (m' + 1) m'' = rdT hm' ∧ OutE n a b hc' hm' := by
        intro c' m'' hp
        obtain ⟨q1, q2, hD | hL'⟩ := hp
        · obtain ⟨c, c1, c2, c3, _⟩ := id hD
          exact ⟨c', m'', end_c (by rw [c3]; exact n_z c1 c2), end_md hD, FrP_le (FrP_unreb q1) (by omega), q2, Or.inl hD⟩
        · obtain ⟨hc', hm', r1, r2, r3, r4, r5⟩ := ih (x + 1) (m + 1) (m' + 1) (reb a hc) c' m'' (by omega) (by omega) (by omega) (Bas_reb hb) (FrP_26 q1 hL'.2.2.2.2) q2 hL' (fun z => by
            obtain ⟨u1, u2, pos', st', kd', u3, u4, u5, u6, u7, u8, u9, u10, u11, u12, u13, u14, u15⟩ := id hL'.1
            have := u15 (fun w => z (by rw [u9, w]; rfl))
            rw [reb_3] at this
            rw [u3, n_t (by omega)]; omega)
          refine ⟨hc', hm', r1, r2, FrP_unreb r3, r4, ?_⟩
          rcases r5 with r5 | r5
          · exact Or.inl r5
          · exact Or.inr (Liv_lo r5 (reb_n (by decide)) (by rw [reb_3]; exact Liv_pos hn hL))
      by_cases k3 : nI kd = 3
      · -- a line
        have h17 : hm (10, 0, 0) 17 = 3 := by rw [t10]; exact k3
        obtain ⟨h1, h2, e1, e2, p1, p2, p3⟩ := rt_reb hb (Xk_iv 12) hP hQ hL
        have c1 : fX5_takeSemicolon hc = some h1 := by
          simp only [fX5_takeSemicolon, fX5_takeSemicolon_13]
          rw [t9, if_pos k3, e1, Option.bind_some]
        have ms : fX10_reads_32 (m' + 2) hm = ((fX10_line h2).bind fun hp13 => fX10_reads_32 (m' + 1) hp13) := by
          show (if (hm (10, 0, 0) 19) = 0 then (if (hm (10, 0, 0) 17) = 3 then ((fX10_token hm).bind fun hp10 => (fX10_line hp10).bind fun hp13 => fX10_reads_32 (m' + 1) hp13) else (fX10_reads_58 hm)) else (fX10_reads_58 hm)) = _
          rw [e19, if_pos rfl, h17, if_pos rfl, e2, Option.bind_some]
        have p1' := FrP_reb (h0 := hc) p1
        have hb' := Bas_reb (hc := hc) hb
        rw [ms, c1, Option.bind_some]
        obtain ⟨v, v1, v2, v3⟩ := isW_p hb' 3 (by decide) p1' p2 p3
        obtain ⟨w, w1, w2, w3⟩ := isW_p hb' 4 (by decide) p1' p2 p3
        rw [v2, Option.bind_some]
        have lm : fX10_line h2 = (if v = 0 then (if w = 0 then ((fX10_fails 1 h2).bind fun hp5 => some hp5) else ((fX10_tabLine h2).bind fun hp8 => some hp8)) else ((fX10_barLine h2).bind fun hp11 => some hp11)) := by
          simp only [fX10_line]
          rw [v3, Option.bind_some, w3, Option.bind_some]
        rw [lm]
        by_cases z : v = 0
        · rw [if_pos z, if_pos z, w2, Option.bind_some]
          by_cases z2 : w = 0
          · rw [if_pos z2, if_pos z2]
            obtain ⟨c', m'', f1, f2, g1, g2, g3, _⟩ := fail_live (c := 1) (by omega) (by omega) p1' p2 p3
            rw [show fX5_fail 1 h1 = some c' from f1, Option.bind_some, show fX10_fails 1 h2 = some m'' from f2, Option.bind_some, Option.bind_some]
            exact nxt c' m'' ⟨FrP_le g1 (by omega), g2, Or.inl g3⟩
          · rw [if_neg z2, if_neg z2]
            obtain ⟨c', m'', f1, f2, g⟩ := tab_p hb' (⟨p1', p2, Or.inr p3⟩ : PRx 26 n (reb a hc) b (Xk 12) h1 h2)
            rw [f1, Option.bind_some, f2, Option.bind_some, Option.bind_some]
            exact nxt c' m'' ⟨FrP_le g.1 (by omega), g.2⟩
        · rw [if_neg z, if_neg z]
          obtain ⟨c', m'', f1, f2, g⟩ := bar_p hb' (by omega) (⟨p1', p2, Or.inr p3⟩ : PRx 26 n (reb a hc) b (Xk 12) h1 h2)
          rw [f1, Option.bind_some, f2, Option.bind_some, Option.bind_some]
          exact nxt c' m'' g
      · -- no semicolon
        have h17 : ¬ hm (10, 0, 0) 17 = 3 := by rw [t10]; exact k3
        have h17' : ¬ hm (10, 0, 0) 17 = 0 := by rw [t10]; exact k0'
        obtain ⟨h1, h2, f1, f2, g1, g2, g3, _⟩ := fail_live (c := 1) (by omega) (by omega) hP hQ hL
        obtain ⟨c, c1, c2, c3, _⟩ := id g3
        have d1 : fX5_takeSemicolon hc = some h1 := by
          simp only [fX5_takeSemicolon, fX5_takeSemicolon_13]
          rw [t9, if_neg k3, show fX5_fail 1 hc = some h1 from f1, Option.bind_some, ded_tok g3, Option.bind_some]
        have ms : fX10_reads_32 (m' + 2) hm = rdT h2 := by
          simp only [fX10_reads_32]
          rw [e19, if_pos rfl, if_neg h17]
          simp only [fX10_reads_58, fX10_reads_71, fX10_failsIf]
          rw [if_neg h17', if_neg n10, show fX10_fails 1 hm = some h2 from f2, Option.bind_some, Option.bind_some]
          rfl
        rw [ms, d1, Option.bind_some]
        obtain ⟨v, v1, v2⟩ := isW_any 3 (by decide) h1
        obtain ⟨w, w1, w2⟩ := isW_any 4 (by decide) h1
        rw [v2, Option.bind_some]
        have done : ∀ c', FrP 27 a c' → Ded c' h2 → ∃ hc' hm', fX5_parse_80 (m + 1) (nI (x + 1)) c' = fX5_parse_149 hc' ∧ rdT h2 = rdT hm' ∧ OutE n a b hc' hm' := by
          intro c' q1 hD
          obtain ⟨k, k1, k2, k3, _⟩ := id hD
          exact ⟨c', h2, end_c (by rw [k3]; exact n_z k1 k2), rfl, FrP_le q1 (by omega), g2, Or.inl hD⟩
        by_cases z : v = 0
        · rw [if_pos z, w2, Option.bind_some]
          by_cases z2 : w = 0
          · rw [if_pos z2, ded_fail g3, Option.bind_some]
            exact done h1 (FrP_le g1 (by omega)) g3
          · rw [if_neg z2]
            obtain ⟨c', q1, q2, q3⟩ := ded_tabC g3 g1
            rw [q1, Option.bind_some]
            exact done c' (FrP_le q2 (by omega)) q3
        · rw [if_neg z]
          obtain ⟨c', q1, q2, q3⟩ := ded_bar (show 26 < 100 by omega) g3 g1
          rw [q1, Option.bind_some]
          exact done c' q2 q3
end
