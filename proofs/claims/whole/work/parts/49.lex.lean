/-! ===== tokens ===== -/
section
/-- a heap with one row of fields replaced -/
def rwr (r : RF) (hp : HP) (F : Tr0) : HP := fun q => if q = r then F else hp q
theorem rwr_e {r : RF} {hp : HP} {F : Tr0} : rwr r hp F r = F := if_pos rfl
theorem rwr_n {r q : RF} {hp : HP} {F : Tr0} (h : ¬ q = r) : rwr r hp F q = hp q := if_neg h
theorem rwr_id {r : RF} {hp : HP} : rwr r hp (hp r) = hp := by
  funext q; unfold rwr; split
  · rename_i e; rw [e]
  · rfl
theorem rwr_up {r : RF} {hp : HP} {F : Tr0} {k : Nat} {x : Int32} : up (rwr r hp F) r k x = rwr r hp (uT F k x) := by
  funext q j
  unfold up rwr uT
  by_cases e : q = r
  · simp only [e, true_and, if_true]
  · simp only [e, false_and, if_false]
theorem uT_me {F : Tr0} {k : Nat} {x : Int32} (h : F k = x) : uT F k x = F := by
  funext j; unfold uT; split
  · rename_i e; rw [e, h]
  · rfl
theorem uT_uT {F : Tr0} {k : Nat} {x y : Int32} : uT (uT F k x) k y = uT F k y := by
  funext j; unfold uT; split <;> rfl
def smF (v : Int32) : Int32 := if v < 97 then 0 else if 122 < v then 0 else 1
def dgF (v : Int32) : Int32 := if v < 48 then 0 else if 57 < v then 0 else 1
theorem c_sm {v : Int32} {hp : HP} : fX9_isSmall v hp = some (smF v) := by
  unfold fX9_isSmall smF; split
  · rfl
  · split <;> rfl
theorem m_sm {v : Int32} {hp : HP} : fX10_isSmall v hp = some (smF v) := by
  unfold fX10_isSmall smF; split
  · rfl
  · split <;> rfl
theorem c_dg {v : Int32} {hp : HP} : fX9_isDigit v hp = some (dgF v) := by
  unfold fX9_isDigit dgF; split
  · rfl
  · split <;> rfl
theorem m_dg {v : Int32} {hp : HP} : fX10_isDigit v hp = some (dgF v) := by
  unfold fX10_isDigit dgF; split
  · rfl
  · split <;> rfl
theorem sm_m1 : smF m1 = 0 := by decide
theorem dg_m1 : dgF m1 = 0 := by decide
theorem dg_v {v : Int32} (h : ¬ dgF v = 0) : ∃ d, d < 10 ∧ v = nI (48 + d) := by
  unfold dgF at h
  by_cases a : v < 48
  · rw [if_pos a] at h; exact absurd rfl h
  · by_cases b : 57 < v
    · rw [if_neg a, if_pos b] at h; exact absurd rfl h
    · have a' : ¬ v.toInt < 48 := fun q => a (lt_i.mpr q)
      have b' : ¬ 57 < v.toInt := fun q => b (lt_i.mpr q)
      have e := n_of (x := v) (by omega)
      have e2 : v.toInt = v.toNatClampNeg := by
        have hh := hi_i v
        have h2 : v.toNatClampNeg < 2147483648 := by rw [nat_i]; omega
        rw [nat_i]; omega
      exact ⟨v.toNatClampNeg - 48, by omega, by rw [show 48 + (v.toNatClampNeg - 48) = v.toNatClampNeg by omega]; exact e⟩
theorem sm_v {v : Int32} (h : ¬ smF v = 0) : isN v ∧ 97 ≤ tn v ∧ tn v ≤ 122 := by
  unfold smF at h
  by_cases a : v < 97
  · rw [if_pos a] at h; exact absurd rfl h
  · by_cases b : 122 < v
    · rw [if_neg a, if_pos b] at h; exact absurd rfl h
    · have a' : ¬ v.toInt < 97 := fun q => a (lt_i.mpr q)
      have b' : ¬ 122 < v.toInt := fun q => b (lt_i.mpr q)
      have e := n_of (x := v) (by omega)
      have e2 : v.toInt = v.toNatClampNeg := by
        have hh := hi_i v
        have h2 : v.toNatClampNeg < 2147483648 := by rw [nat_i]; omega
        rw [nat_i]; omega
      exact ⟨e, by unfold tn; omega, by unfold tn; omega⟩
variable {hc hm : HP} {n : Nat}
theorem seen_in {k : Nat} {G : Tr0} (hn : n ≤ 500) (hG : G 14 = nI n) (hk : k < n) : fX10_seen (nI k) (rwr (10, 0, 0) hm G) = some (hm (11, 25, 0) k) := by
  show (if nI k < (rwr (10, 0, 0) hm G (10, 0, 0) 14) then (if inb (nI k) 500 = true then (some ((rwr (10, 0, 0) hm G) (11, 25, 0) (nI k).toNatClampNeg)) else none) else (some m1)) = _
  rw [rwr_e, hG, if_pos (by rw [n_lt (by omega) (by omega)]; exact hk), if_pos (inb_n (by omega) (by decide)), n_c (by omega), rwr_n (by decide)]
theorem seen_out {G : Tr0} (hn : n ≤ 500) (hG : G 14 = nI n) : fX10_seen (nI n) (rwr (10, 0, 0) hm G) = some m1 := by
  show (if nI n < (rwr (10, 0, 0) hm G (10, 0, 0) 14) then (if inb (nI n) 500 = true then (some ((rwr (10, 0, 0) hm G) (11, 25, 0) (nI n).toNatClampNeg)) else none) else (some m1)) = _
  rw [rwr_e, hG, if_neg (by rw [n_lt (by omega) (by omega)]; omega)]
theorem atB10 {k : Nat} {F : Tr0} (hk : k < 500) : fX7_at 10 0 (nI k) (rwr (5, 0, 0) hc F) = some (hc (11, 10, 0) k) := by
  rw [at_n (show k < wlen 10 from hk), rwr_n (by decide)]
theorem blanks (hB : ∀ k, k < 500 → hc (11, 10, 0) k = hm (11, 25, 0) k) (hn : n ≤ 500) : ∀ (p pos m m' : Nat) (F G : Tr0), pos + p = n → p < m → p < m' → F 2 = nI n → F 3 = nI pos → G 14 = nI n → G 15 = nI pos → ∃ pos', pos ≤ pos' ∧ pos' ≤ n ∧ fX5_readToken_8 m (rwr (5, 0, 0) hc F) = fX5_readToken_48 (rwr (5, 0, 0) hc (uT F 3 (nI pos'))) ∧ fX10_token_0 m' (rwr (10, 0, 0) hm G) = fX10_token_34 (rwr (10, 0, 0) hm (uT (uT G 15 (nI pos')) 16 (nI pos'))) := by
  intro p
  induction p with
  | zero =>
    intro pos m m' F G hp hm0 hm1 f2 f3 g14 g15
    obtain ⟨m, rfl⟩ : ∃ q, m = q + 1 := ⟨m - 1, by omega⟩
    obtain ⟨m', rfl⟩ : ∃ q, m' = q + 1 := ⟨m' - 1, by omega⟩
    have hp' : pos = n := by omega
    subst hp'
    refine ⟨pos, Nat.le_refl _, Nat.le_refl _, ?_, ?_⟩
    · simp only [fX5_readToken_8]
      rw [rwr_e, f2, f3, if_neg (by rw [n_lt (by omega) (by omega)]; omega), uT_me f3]
    · simp only [fX10_token_0]
      rw [rwr_e, g15, seen_out hn g14, Option.bind_some, if_neg (show ¬ m1 = 32 by decide), rwr_up, uT_me g15]
  | succ p ih =>
    intro pos m m' F G hp hm0 hm1 f2 f3 g14 g15
    obtain ⟨m, rfl⟩ : ∃ q, m = q + 1 := ⟨m - 1, by omega⟩
    obtain ⟨m', rfl⟩ : ∃ q, m' = q + 1 := ⟨m' - 1, by omega⟩
    have hlt : nI pos < nI n := by rw [n_lt (by omega) (by omega)]; omega
    have eB := hB pos (by omega)
    by_cases q : hm (11, 25, 0) pos = 32
    · obtain ⟨pos', p1, p2, e1, e2⟩ := ih (pos + 1) m m' (uT F 3 (nI (pos + 1))) (uT G 15 (nI (pos + 1))) (by omega) (by omega) (by omega) (by rw [uT_n (by decide)]; exact f2) uT_e (by rw [uT_n (by decide)]; exact g14) uT_e
      refine ⟨pos', by omega, p2, ?_, ?_⟩
      · simp only [fX5_readToken_8]
        rw [rwr_e, f2, f3, if_pos hlt, atB10 (by omega), Option.bind_some, eB, if_pos q, ← nI_succ, rwr_up, e1, uT_uT]
      · simp only [fX10_token_0]
        rw [rwr_e, g15, seen_in hn g14 (by omega), Option.bind_some, if_pos q, ← nI_succ, rwr_up, e2, uT_uT]
    · refine ⟨pos, Nat.le_refl _, by omega, ?_, ?_⟩
      · simp only [fX5_readToken_8]
        rw [rwr_e, f2, f3, if_pos hlt, atB10 (by omega), Option.bind_some, eB, if_neg q, uT_me f3]
      · simp only [fX10_token_0]
        rw [rwr_e, g15, seen_in hn g14 (by omega), Option.bind_some, if_neg q, rwr_up, uT_me g15]
theorem wordS (hB : ∀ k, k < 500 → hc (11, 10, 0) k = hm (11, 25, 0) k) (hn : n ≤ 500) {st : Nat} : ∀ (p pos m m' : Nat) (F G : Tr0), pos + p = n → st ≤ pos → p < m → p < m' → F 2 = nI n → F 3 = nI pos → F 5 = nI st → G 14 = nI n → G 15 = nI pos → G 16 = nI st → ∃ pos' kd, (pos ≤ pos' ∧ (pos < n → ¬ smF (hm (11, 25, 0) pos) = 0 → pos < pos')) ∧ pos' ≤ n ∧ (kd = 1 ∨ kd = 4) ∧ fX5_readWord_0 m (rwr (5, 0, 0) hc F) = some (rwr (5, 0, 0) hc (uT (uT F 3 (nI pos')) 4 (nI kd))) ∧ fX10_token_63 m' (rwr (10, 0, 0) hm G) = some (rwr (10, 0, 0) hm (uT (uT G 15 (nI pos')) 17 (nI kd))) := by
  have fin : ∀ (pos : Nat) (F G : Tr0), st ≤ pos → pos ≤ n → F 3 = nI pos → F 5 = nI st → G 15 = nI pos → G 16 = nI st → ∃ kd, (kd = 1 ∨ kd = 4) ∧ fX5_readWord_41 (rwr (5, 0, 0) hc F) = some (rwr (5, 0, 0) hc (uT (uT F 3 (nI pos)) 4 (nI kd))) ∧ (if 7 < (nI pos - nI st) then (fX10_token_110 4 (rwr (10, 0, 0) hm G)) else (fX10_token_110 1 (rwr (10, 0, 0) hm G))) = some (rwr (10, 0, 0) hm (uT (uT G 15 (nI pos)) 17 (nI kd))) := by
    intro pos F G h1 h2 f3 f5 g15 g16
    refine ⟨if 7 < nI pos - nI st then 4 else 1, by split <;> simp, ?_, ?_⟩
    · simp only [fX5_readWord_41]
      rw [rwr_e, f3, f5, uT_me f3]
      split
      · exact congrArg some rwr_up
      · exact congrArg some rwr_up
    · rw [uT_me g15]
      split
      · exact congrArg some rwr_up
      · exact congrArg some rwr_up
  intro p
  induction p with
  | zero =>
    intro pos m m' F G hp hs hm0 hm1 f2 f3 f5 g14 g15 g16
    obtain ⟨m, rfl⟩ : ∃ q, m = q + 1 := ⟨m - 1, by omega⟩
    obtain ⟨m', rfl⟩ : ∃ q, m' = q + 1 := ⟨m' - 1, by omega⟩
    have hp' : pos = n := by omega
    subst hp'
    obtain ⟨kd, k1, k2, k3⟩ := fin pos F G hs (Nat.le_refl _) f3 f5 g15 g16
    refine ⟨pos, kd, ⟨Nat.le_refl _, fun z => absurd z (Nat.lt_irrefl _)⟩, Nat.le_refl _, k1, ?_, ?_⟩
    · simp only [fX5_readWord_0]
      rw [rwr_e, f2, f3, if_neg (by rw [n_lt (by omega) (by omega)]; omega)]; exact k2
    · simp only [fX10_token_63]
      rw [rwr_e, g15, g16, seen_out hn g14, Option.bind_some, m_sm, Option.bind_some, sm_m1, if_pos rfl]; exact k3
  | succ p ih =>
    intro pos m m' F G hp hs hm0 hm1 f2 f3 f5 g14 g15 g16
    obtain ⟨m, rfl⟩ : ∃ q, m = q + 1 := ⟨m - 1, by omega⟩
    obtain ⟨m', rfl⟩ : ∃ q, m' = q + 1 := ⟨m' - 1, by omega⟩
    have hlt : nI pos < nI n := by rw [n_lt (by omega) (by omega)]; omega
    have eB := hB pos (by omega)
    by_cases q : smF (hm (11, 25, 0) pos) = 0
    · obtain ⟨kd, k1, k2, k3⟩ := fin pos F G hs (by omega) f3 f5 g15 g16
      refine ⟨pos, kd, ⟨Nat.le_refl _, fun _ z => absurd q z⟩, by omega, k1, ?_, ?_⟩
      · simp only [fX5_readWord_0]
        rw [rwr_e, f2, f3, if_pos hlt, atB10 (by omega), Option.bind_some, c_sm, Option.bind_some, eB, if_pos q]; exact k2
      · simp only [fX10_token_63]
        rw [rwr_e, g15, g16, seen_in hn g14 (by omega), Option.bind_some, m_sm, Option.bind_some, if_pos q]; exact k3
    · obtain ⟨pos', kd, ⟨p1, _⟩, p2, k1, k2, k3⟩ := ih (pos + 1) m m' (uT F 3 (nI (pos + 1))) (uT G 15 (nI (pos + 1))) (by omega) (by omega) (by omega) (by omega) (by rw [uT_n (by decide)]; exact f2) uT_e (by rw [uT_n (by decide)]; exact f5) (by rw [uT_n (by decide)]; exact g14) uT_e (by rw [uT_n (by decide)]; exact g16)
      refine ⟨pos', kd, ⟨by omega, fun _ _ => by omega⟩, p2, k1, ?_, ?_⟩
      · simp only [fX5_readWord_0]
        rw [rwr_e, f2, f3, if_pos hlt, atB10 (by omega), Option.bind_some, c_sm, Option.bind_some, eB, if_neg q, ← nI_succ, rwr_up, k2, uT_uT]
      · simp only [fX10_token_63]
        rw [rwr_e, g15, g16, seen_in hn g14 (by omega), Option.bind_some, m_sm, Option.bind_some, if_neg q, ← nI_succ, rwr_up, k3, uT_uT]
end
