section
variable {hc hm : HP} {n : Nat}
theorem numS (hB : ∀ k, k < 500 → hc (11, 10, 0) k = hm (11, 25, 0) k) (hn : n ≤ 500) {st : Nat} : ∀ (p pos m m' : Nat) (F G : Tr0), pos + p = n → st ≤ pos → p < m → p < m' → F 2 = nI n → F 3 = nI pos → F 5 = nI st → G 14 = nI n → G 15 = nI pos → G 16 = nI st → (pos - st ≤ 3 → ∃ v, v < 10 ^ (pos - st) ∧ F 6 = nI v ∧ G 18 = nI v) → ∃ F' G' pos' kd, (pos ≤ pos' ∧ (pos < n → ¬ dgF (hm (11, 25, 0) pos) = 0 → pos < pos')) ∧ pos' ≤ n ∧ (kd = 2 ∨ kd = 4) ∧ fX5_readNumber_5 m (rwr (5, 0, 0) hc F) = some (rwr (5, 0, 0) hc F') ∧ fX10_token_128 m' (rwr (10, 0, 0) hm G) = some (rwr (10, 0, 0) hm G') ∧ F' 3 = nI pos' ∧ G' 15 = nI pos' ∧ F' 4 = nI kd ∧ G' 17 = nI kd ∧ (kd = 2 → ∃ v, v < 1000 ∧ F' 6 = nI v ∧ G' 18 = nI v) ∧ (∀ k, k ≠ 3 → k ≠ 4 → k ≠ 6 → F' k = F k) ∧ ∀ k, k ≠ 15 → k ≠ 17 → k ≠ 18 → G' k = G k := by
  have fin : ∀ (pos : Nat) (F G : Tr0), st ≤ pos → pos ≤ n → F 3 = nI pos → F 5 = nI st → G 15 = nI pos → G 16 = nI st → (pos - st ≤ 3 → ∃ v, v < 10 ^ (pos - st) ∧ F 6 = nI v ∧ G 18 = nI v) → ∃ F' G' kd, (kd = 2 ∨ kd = 4) ∧ fX5_readNumber_72 (rwr (5, 0, 0) hc F) = some (rwr (5, 0, 0) hc F') ∧ (if 3 < (nI pos - nI st) then (fX10_token_214 4 (rwr (10, 0, 0) hm G)) else (fX10_token_214 2 (rwr (10, 0, 0) hm G))) = some (rwr (10, 0, 0) hm G') ∧ F' 3 = nI pos ∧ G' 15 = nI pos ∧ F' 4 = nI kd ∧ G' 17 = nI kd ∧ (kd = 2 → ∃ v, v < 1000 ∧ F' 6 = nI v ∧ G' 18 = nI v) ∧ (∀ k, k ≠ 3 → k ≠ 4 → k ≠ 6 → F' k = F k) ∧ ∀ k, k ≠ 15 → k ≠ 17 → k ≠ 18 → G' k = G k := by
    intro pos F G h1 h2 f3 f5 g15 g16 hv
    have e : (3 < nI pos - nI st) ↔ 3 < pos - st := by
      rw [n_sub h1, show (3 : Int32) = nI 3 from rfl, n_lt (by omega) (by omega)]
    by_cases q : 3 < pos - st
    · refine ⟨uT F 4 (nI 4), uT G 17 (nI 4), 4, Or.inr rfl, ?_, ?_, by rw [uT_n (by decide)]; exact f3, by rw [uT_n (by decide)]; exact g15, uT_e, uT_e, fun z => absurd z (by decide), fun k _ a _ => uT_n a, fun k _ a _ => uT_n a⟩
      · simp only [fX5_readNumber_72]
        rw [rwr_e, f3, f5, if_pos (e.mpr q)]; exact congrArg some rwr_up
      · rw [if_pos (e.mpr q)]; exact congrArg some rwr_up
    · obtain ⟨v, v1, v2, v3⟩ := hv (by omega)
      refine ⟨uT F 4 (nI 2), uT G 17 (nI 2), 2, Or.inl rfl, ?_, ?_, by rw [uT_n (by decide)]; exact f3, by rw [uT_n (by decide)]; exact g15, uT_e, uT_e, fun _ => ⟨v, ?_, by rw [uT_n (by decide)]; exact v2, by rw [uT_n (by decide)]; exact v3⟩, fun k _ a _ => uT_n a, fun k _ a _ => uT_n a⟩
      · simp only [fX5_readNumber_72]
        rw [rwr_e, f3, f5, if_neg (fun z => q (e.mp z))]; exact congrArg some rwr_up
      · rw [if_neg (fun z => q (e.mp z))]; exact congrArg some rwr_up
      · exact Nat.lt_of_lt_of_le v1 (Nat.pow_le_pow_right (by omega) (show pos - st ≤ 3 by omega))
  intro p
  induction p with
  | zero =>
    intro pos m m' F G hp hs hm0 hm1 f2 f3 f5 g14 g15 g16 hv
    obtain ⟨m, rfl⟩ : ∃ q, m = q + 1 := ⟨m - 1, by omega⟩
    obtain ⟨m', rfl⟩ : ∃ q, m' = q + 1 := ⟨m' - 1, by omega⟩
    have hp' : pos = n := by omega
    subst hp'
    obtain ⟨F', G', kd, k1, k2, k3, k4⟩ := fin pos F G hs (Nat.le_refl _) f3 f5 g15 g16 hv
    refine ⟨F', G', pos, kd, ⟨Nat.le_refl _, fun z => absurd z (Nat.lt_irrefl _)⟩, Nat.le_refl _, k1, ?_, ?_, k4⟩
    · simp only [fX5_readNumber_5]
      rw [rwr_e, f2, f3, if_neg (by rw [n_lt (by omega) (by omega)]; omega)]; exact k2
    · simp only [fX10_token_128]
      rw [rwr_e, g15, g16, seen_out hn g14, Option.bind_some, m_dg, Option.bind_some, dg_m1, if_pos rfl]; exact k3
  | succ p ih =>
    intro pos m m' F G hp hs hm0 hm1 f2 f3 f5 g14 g15 g16 hv
    obtain ⟨m, rfl⟩ : ∃ q, m = q + 1 := ⟨m - 1, by omega⟩
    obtain ⟨m', rfl⟩ : ∃ q, m' = q + 1 := ⟨m' - 1, by omega⟩
    have hlt : nI pos < nI n := by rw [n_lt (by omega) (by omega)]; omega
    have eB := hB pos (by omega)
    by_cases q : dgF (hm (11, 25, 0) pos) = 0
    · obtain ⟨F', G', kd, k1, k2, k3, k4⟩ := fin pos F G hs (by omega) f3 f5 g15 g16 hv
      refine ⟨F', G', pos, kd, ⟨Nat.le_refl _, fun _ z => absurd q z⟩, by omega, k1, ?_, ?_, k4⟩
      · simp only [fX5_readNumber_5]
        rw [rwr_e, f2, f3, if_pos hlt, atB10 (by omega), Option.bind_some, c_dg, Option.bind_some, eB, if_pos q]; exact k2
      · simp only [fX10_token_128]
        rw [rwr_e, g15, g16, seen_in hn g14 (by omega), Option.bind_some, m_dg, Option.bind_some, if_pos q]; exact k3
    · obtain ⟨d, d1, d2⟩ := dg_v q
      have e3 : (nI pos - nI st < 3) ↔ pos - st < 3 := by
        rw [n_sub hs, show (3 : Int32) = nI 3 from rfl, n_lt (by omega) (by omega)]
      have ev : ∀ v, (10 * nI v + nI (48 + d)) - 48 = nI (10 * v + d) := by
        intro v
        rw [show (10 : Int32) = nI 10 from rfl, show (48 : Int32) = nI 48 from rfl, n_mul, n_add, n_sub (by omega), show 10 * v + (48 + d) - 48 = 10 * v + d by omega]
      -- the next value on both sides
      have go : ∀ (x y : Int32), (pos + 1 - st ≤ 3 → ∃ v, v < 10 ^ (pos + 1 - st) ∧ x = nI v ∧ y = nI v) → ∃ F' G' pos' kd, (pos ≤ pos' ∧ (pos < n → ¬ dgF (hm (11, 25, 0) pos) = 0 → pos < pos')) ∧ pos' ≤ n ∧ (kd = 2 ∨ kd = 4) ∧ fX5_readNumber_5 m (rwr (5, 0, 0) hc (uT (uT F 6 x) 3 (nI (pos + 1)))) = some (rwr (5, 0, 0) hc F') ∧ fX10_token_128 m' (rwr (10, 0, 0) hm (uT (uT G 18 y) 15 (nI (pos + 1)))) = some (rwr (10, 0, 0) hm G') ∧ F' 3 = nI pos' ∧ G' 15 = nI pos' ∧ F' 4 = nI kd ∧ G' 17 = nI kd ∧ (kd = 2 → ∃ v, v < 1000 ∧ F' 6 = nI v ∧ G' 18 = nI v) ∧ (∀ k, k ≠ 3 → k ≠ 4 → k ≠ 6 → F' k = F k) ∧ ∀ k, k ≠ 15 → k ≠ 17 → k ≠ 18 → G' k = G k := by
        intro x y hxy
        obtain ⟨F', G', pos', kd, ⟨a1, _⟩, a2, a3, a4, a5, a6, a7, a8, a9, a10, a11, a12⟩ := ih (pos + 1) m m' (uT (uT F 6 x) 3 (nI (pos + 1))) (uT (uT G 18 y) 15 (nI (pos + 1))) (by omega) (by omega) (by omega) (by omega) (by rw [uT_n (by decide), uT_n (by decide)]; exact f2) uT_e (by rw [uT_n (by decide), uT_n (by decide)]; exact f5) (by rw [uT_n (by decide), uT_n (by decide)]; exact g14) uT_e (by rw [uT_n (by decide), uT_n (by decide)]; exact g16) (fun z => by rw [uT_n (by decide), uT_e, uT_n (by decide), uT_e]; exact hxy z)
        exact ⟨F', G', pos', kd, ⟨by omega, fun _ _ => by omega⟩, a2, a3, a4, a5, a6, a7, a8, a9, a10, fun k b1 b2 b3 => by rw [a11 k b1 b2 b3, uT_n b1, uT_n b3], fun k b1 b2 b3 => by rw [a12 k b1 b2 b3, uT_n b1, uT_n b3]⟩
      have cs : fX5_readNumber_5 (m + 1) (rwr (5, 0, 0) hc F) = fX5_readNumber_5 m (rwr (5, 0, 0) hc (uT (uT F 6 ((10 * F 6 + nI (48 + d)) - 48)) 3 (nI (pos + 1)))) := by
        simp only [fX5_readNumber_5, fX5_readNumber_59]
        rw [rwr_e, f2, f3, if_pos hlt, atB10 (by omega), Option.bind_some, c_dg, Option.bind_some, eB, if_neg q, Option.bind_some, d2, rwr_up, rwr_e, uT_n (by decide), f3, ← nI_succ, rwr_up]
      by_cases q3 : pos - st < 3
      · obtain ⟨v, v1, v2, v3⟩ := hv (by omega)
        have hx := go (nI (10 * v + d)) (nI (10 * v + d)) (fun _ => ⟨10 * v + d, by rw [show pos + 1 - st = (pos - st) + 1 by omega, Nat.pow_succ]; omega, rfl, rfl⟩)
        rw [cs, v2, ev]
        rw [show fX10_token_128 (m' + 1) (rwr (10, 0, 0) hm G) = fX10_token_128 m' (rwr (10, 0, 0) hm (uT (uT G 18 (nI (10 * v + d))) 15 (nI (pos + 1)))) from by
          simp only [fX10_token_128, fX10_token_179, fX10_token_182]
          rw [rwr_e, g15, g16, seen_in hn g14 (by omega), Option.bind_some, m_dg, Option.bind_some, if_neg q, if_pos (e3.mpr q3), Option.bind_some, d2, v3, ev, rwr_up, rwr_e, uT_n (by decide), g15, ← nI_succ, rwr_up]]
        exact hx
      · have hx := go ((10 * F 6 + nI (48 + d)) - 48) 0 (fun z => absurd z (by omega))
        rw [cs]
        rw [show fX10_token_128 (m' + 1) (rwr (10, 0, 0) hm G) = fX10_token_128 m' (rwr (10, 0, 0) hm (uT (uT G 18 0) 15 (nI (pos + 1)))) from by
          simp only [fX10_token_128, fX10_token_179, fX10_token_182]
          rw [rwr_e, g15, g16, seen_in hn g14 (by omega), Option.bind_some, m_dg, Option.bind_some, if_neg q, if_neg (fun z => q3 (e3.mp z)), rwr_up, rwr_e, uT_n (by decide), g15, ← nI_succ, rwr_up]]
        exact hx
/-- both look at the same token -/
def TkR (lo : Nat) (B : Tr0) (n : Nat) (F G : Tr0) : Prop := F 2 = nI n ∧ G 14 = nI n ∧ ∃ pos st kd, F 3 = nI pos ∧ G 15 = nI pos ∧ F 5 = nI st ∧ G 16 = nI st ∧ st ≤ pos ∧ pos ≤ n ∧ F 4 = nI kd ∧ G 17 = nI kd ∧ kd ≤ 4 ∧ (kd = 2 → ∃ v, v < 1000 ∧ F 6 = nI v ∧ G 18 = nI v) ∧ (kd = 1 → st < n ∧ ¬ smF (B st) = 0) ∧ lo ≤ pos ∧ (kd ≠ 0 → lo < pos)
theorem isN_m1 {x : Int32} (h : isN x) : ¬ x = m1 := by
  intro e
  rw [e] at h
  exact absurd h (by unfold isN; decide)
theorem tok_p (hB : ∀ k, k < 500 → hc (11, 10, 0) k = hm (11, 25, 0) k) (hN : ∀ k, k < 500 → isN (hm (11, 25, 0) k)) (hn : n ≤ 500) {F G : Tr0} {pos : Nat} (hpos : pos ≤ n) (f2 : F 2 = nI n) (f3 : F 3 = nI pos) (f7 : F 7 = 0) (g14 : G 14 = nI n) (g15 : G 15 = nI pos) {lo : Nat} (hlo : lo ≤ pos) : ∃ F' G', fX5_readToken (rwr (5, 0, 0) hc F) = some (rwr (5, 0, 0) hc F') ∧ fX10_token (rwr (10, 0, 0) hm G) = some (rwr (10, 0, 0) hm G') ∧ TkR lo (hc (11, 10, 0)) n F' G' ∧ (∀ k, (k < 3 ∨ 6 < k) → F' k = F k) ∧ ∀ k, (k < 15 ∨ 18 < k) → G' k = G k := by
  have hf := FU_ge
  obtain ⟨st, s1, s2, e1, e2⟩ := blanks hB hn (n - pos) pos FU FU F G (by omega) (by omega) (by omega) f2 f3 g14 g15
  have ec : fX5_readToken (rwr (5, 0, 0) hc F) = fX5_readToken_56 (rwr (5, 0, 0) hc (uT (uT F 3 (nI st)) 5 (nI st))) := by
    simp only [fX5_readToken]
    rw [rwr_e, f7, if_pos rfl, e1]
    simp only [fX5_readToken_48]
    rw [rwr_e, uT_e, rwr_up]
  have em : fX10_token (rwr (10, 0, 0) hm G) = fX10_token_34 (rwr (10, 0, 0) hm (uT (uT G 15 (nI st)) 16 (nI st))) := e2
  rw [ec, em]
  have F2 : (uT (uT F 3 (nI st)) 5 (nI st)) 2 = nI n := by rw [uT_n (by decide), uT_n (by decide)]; exact f2
  have F3 : (uT (uT F 3 (nI st)) 5 (nI st)) 3 = nI st := by rw [uT_n (by decide), uT_e]
  have F5 : (uT (uT F 3 (nI st)) 5 (nI st)) 5 = nI st := uT_e
  have Fo : ∀ k, (k < 3 ∨ 6 < k) → (uT (uT F 3 (nI st)) 5 (nI st)) k = F k := fun k hk => by rw [uT_n (by omega), uT_n (by omega)]
  have G14 : (uT (uT G 15 (nI st)) 16 (nI st)) 14 = nI n := by rw [uT_n (by decide), uT_n (by decide)]; exact g14
  have G15 : (uT (uT G 15 (nI st)) 16 (nI st)) 15 = nI st := by rw [uT_n (by decide), uT_e]
  have G16 : (uT (uT G 15 (nI st)) 16 (nI st)) 16 = nI st := uT_e
  have Go : ∀ k, (k < 15 ∨ 18 < k) → (uT (uT G 15 (nI st)) 16 (nI st)) k = G k := fun k hk => by rw [uT_n (by omega), uT_n (by omega)]
  generalize uT (uT F 3 (nI st)) 5 (nI st) = F1 at F2 F3 F5 Fo ⊢
  generalize uT (uT G 15 (nI st)) 16 (nI st) = G1 at G14 G15 G16 Go ⊢
  by_cases q : st = n
  · subst q
    refine ⟨uT F1 4 0, uT G1 17 0, ?_, ?_, ⟨by rw [uT_n (by decide)]; exact F2, by rw [uT_n (by decide)]; exact G14, st, st, 0, by rw [uT_n (by decide)]; exact F3, by rw [uT_n (by decide)]; exact G15, by rw [uT_n (by decide)]; exact F5, by rw [uT_n (by decide)]; exact G16, Nat.le_refl _, Nat.le_refl _, uT_e, uT_e, by omega, fun z => absurd z (by decide), fun z => absurd z (by decide), by omega, fun z => absurd rfl z⟩, fun k hk => by rw [uT_n (by omega)]; exact Fo k hk, fun k hk => by rw [uT_n (by omega)]; exact Go k hk⟩
    · simp only [fX5_readToken_56]
      rw [at_eq, Option.bind_some, rwr_e, F3, F2, if_neg (by rw [n_lt (by omega) (by omega)]; omega), rwr_up]
    · simp only [fX10_token_34]
      rw [rwr_e, G15, seen_out hn G14, Option.bind_some, if_pos rfl, rwr_up]
  · have hlt : nI st < nI n := by rw [n_lt (by omega) (by omega)]; omega
    have eB := hB st (by omega)
    have nm := isN_m1 (hN st (by omega))
    by_cases qs : smF (hm (11, 25, 0) st) = 0
    · by_cases qd : dgF (hm (11, 25, 0) st) = 0
      · -- a sign of one byte
        have one : ∃ kd, (kd = 3 ∨ kd = 4) ∧ fX5_readToken_56 (rwr (5, 0, 0) hc F1) = some (rwr (5, 0, 0) hc (uT (uT F1 4 (nI kd)) 3 (nI (st + 1)))) ∧ fX10_token_34 (rwr (10, 0, 0) hm G1) = some (rwr (10, 0, 0) hm (uT (uT G1 17 (nI kd)) 15 (nI (st + 1)))) := by
          have c1 : fX5_readToken_56 (rwr (5, 0, 0) hc F1) = (if hm (11, 25, 0) st = 59 then (fX5_readToken_127 3 (rwr (5, 0, 0) hc F1)) else (fX5_readToken_127 4 (rwr (5, 0, 0) hc F1))) := by
            simp only [fX5_readToken_56]
            rw [rwr_e, F3, F2, atB10 (by omega), Option.bind_some, if_pos hlt, c_sm, Option.bind_some, eB, if_pos qs, c_dg, Option.bind_some, if_pos qd]
          have c2 : fX10_token_34 (rwr (10, 0, 0) hm G1) = (if hm (11, 25, 0) st = 59 then (fX10_token_232 3 (rwr (10, 0, 0) hm G1)) else (fX10_token_232 4 (rwr (10, 0, 0) hm G1))) := by
            simp only [fX10_token_34]
            rw [rwr_e, G15, seen_in hn G14 (by omega), Option.bind_some, if_neg nm, m_sm, Option.bind_some, if_pos qs, m_dg, Option.bind_some, if_pos qd]
          have d1 : ∀ y, fX5_readToken_127 y (rwr (5, 0, 0) hc F1) = some (rwr (5, 0, 0) hc (uT (uT F1 4 y) 3 (nI (st + 1)))) := fun y => by
            simp only [fX5_readToken_127, fX5_readToken_130]
            rw [rwr_up, rwr_e, uT_n (by decide), F3, ← nI_succ, rwr_up]
          have d2 : ∀ y, fX10_token_232 y (rwr (10, 0, 0) hm G1) = some (rwr (10, 0, 0) hm (uT (uT G1 17 y) 15 (nI (st + 1)))) := fun y => by
            simp only [fX10_token_232, fX10_token_235]
            rw [rwr_up, rwr_e, uT_n (by decide), G15, ← nI_succ, rwr_up]
          rw [c1, c2]
          by_cases q59 : hm (11, 25, 0) st = 59
          · rw [if_pos q59, if_pos q59, d1, d2]; exact ⟨3, Or.inl rfl, rfl, rfl⟩
          · rw [if_neg q59, if_neg q59, d1, d2]; exact ⟨4, Or.inr rfl, rfl, rfl⟩
        obtain ⟨kd, k1, k2, k3⟩ := one
        refine ⟨_, _, k2, k3, ⟨by rw [uT_n (by decide), uT_n (by decide)]; exact F2, by rw [uT_n (by decide), uT_n (by decide)]; exact G14, st + 1, st, kd, uT_e, uT_e, by rw [uT_n (by decide), uT_n (by decide)]; exact F5, by rw [uT_n (by decide), uT_n (by decide)]; exact G16, by omega, by omega, by rw [uT_n (by decide)]; exact uT_e, by rw [uT_n (by decide)]; exact uT_e, by omega, fun z => absurd z (by omega), fun z => absurd z (by omega), by omega, fun _ => by omega⟩, fun k hk => by rw [uT_n (by omega), uT_n (by omega)]; exact Fo k hk, fun k hk => by rw [uT_n (by omega), uT_n (by omega)]; exact Go k hk⟩
      · -- a number
        obtain ⟨F', G', pos', kd, ⟨a1, as⟩, a2, a3, a4, a5, a6, a7, a8, a9, a10, a11, a12⟩ := numS hB hn (st := st) (n - st) st FU FU (uT F1 6 0) (uT G1 18 0) (by omega) (Nat.le_refl _) (by omega) (by omega) (by rw [uT_n (by decide)]; exact F2) (by rw [uT_n (by decide)]; exact F3) (by rw [uT_n (by decide)]; exact F5) (by rw [uT_n (by decide)]; exact G14) (by rw [uT_n (by decide)]; exact G15) (by rw [uT_n (by decide)]; exact G16) (fun _ => ⟨0, by rw [Nat.sub_self]; decide, uT_e, uT_e⟩)
        refine ⟨F', G', ?_, ?_, ⟨by rw [a11 2 (by decide) (by decide) (by decide), uT_n (by decide)]; exact F2, by rw [a12 14 (by decide) (by decide) (by decide), uT_n (by decide)]; exact G14, pos', st, kd, a6, a7, by rw [a11 5 (by decide) (by decide) (by decide), uT_n (by decide)]; exact F5, by rw [a12 16 (by decide) (by decide) (by decide), uT_n (by decide)]; exact G16, a1, a2, a8, a9, by omega, a10, fun z => absurd z (by omega), by omega, fun _ => by have := as (by omega) qd; omega⟩, fun k hk => by rw [a11 k (by omega) (by omega) (by omega), uT_n (by omega)]; exact Fo k hk, fun k hk => by rw [a12 k (by omega) (by omega) (by omega), uT_n (by omega)]; exact Go k hk⟩
        · simp only [fX5_readToken_56, fX5_readNumber]
          rw [rwr_e, F3, F2, atB10 (by omega), Option.bind_some, if_pos hlt, c_sm, Option.bind_some, eB, if_pos qs, c_dg, Option.bind_some, if_neg qd, rwr_up, a4, Option.bind_some]
        · simp only [fX10_token_34]
          rw [rwr_e, G15, seen_in hn G14 (by omega), Option.bind_some, if_neg nm, m_sm, Option.bind_some, if_pos qs, m_dg, Option.bind_some, if_neg qd, rwr_up, a5]
    · -- a word
      obtain ⟨pos', kd, ⟨a1, as⟩, a2, a3, a4, a5⟩ := wordS hB hn (st := st) (n - st) st FU FU F1 G1 (by omega) (Nat.le_refl _) (by omega) (by omega) F2 F3 F5 G14 G15 G16
      refine ⟨uT (uT F1 3 (nI pos')) 4 (nI kd), uT (uT G1 15 (nI pos')) 17 (nI kd), ?_, ?_, ⟨by rw [uT_n (by decide), uT_n (by decide)]; exact F2, by rw [uT_n (by decide), uT_n (by decide)]; exact G14, pos', st, kd, by rw [uT_n (by decide)]; exact uT_e, by rw [uT_n (by decide)]; exact uT_e, by rw [uT_n (by decide), uT_n (by decide)]; exact F5, by rw [uT_n (by decide), uT_n (by decide)]; exact G16, a1, a2, uT_e, uT_e, by omega, fun z => absurd z (by omega), fun _ => ⟨by omega, by rw [eB]; exact qs⟩, by omega, fun _ => by have := as (by omega) qs; omega⟩, fun k hk => by rw [uT_n (by omega), uT_n (by omega)]; exact Fo k hk, fun k hk => by rw [uT_n (by omega), uT_n (by omega)]; exact Go k hk⟩
      · simp only [fX5_readToken_56, fX5_readWord]
        rw [rwr_e, F3, F2, atB10 (by omega), Option.bind_some, if_pos hlt, c_sm, Option.bind_some, eB, if_neg qs, a4, Option.bind_some]
      · simp only [fX10_token_34]
        rw [rwr_e, G15, seen_in hn G14 (by omega), Option.bind_some, if_neg nm, m_sm, Option.bind_some, if_neg qs, a5]
end
