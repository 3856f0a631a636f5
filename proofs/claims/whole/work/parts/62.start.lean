/-! ===== a text is begun ===== -/
section
theorem clr_aux : ∀ (q k n : Nat) (hp : HP) (S : Tr0), k + q = 1150 → q < n → (∀ i, i < k → S i = 0) → ∃ S', (∀ i, i < 1150 → S' i = clT i) ∧ fX10_clears_7 n (nI k) (rwm hp S) = some (rwm hp S') := by
  intro q
  induction q with
  | zero =>
    intro k n hp S hk hn hS
    obtain ⟨n, rfl⟩ : ∃ p, n = p + 1 := ⟨n - 1, by omega⟩
    have hk' : k = 1150 := by omega
    subst hk'
    refine ⟨uT (uT (uT (uT (uT (uT S 4 m1) 5 m1) 6 m1) 37 m1) 8 1) 21 1, ?_, ?_⟩
    · intro i hi
      by_cases h : i = 4 ∨ i = 5 ∨ i = 6 ∨ i = 37 ∨ i = 8 ∨ i = 21
      · rcases h with h | h | h | h | h | h <;> subst h <;> rfl
      · rw [uT_n (by omega), uT_n (by omega), uT_n (by omega), uT_n (by omega), uT_n (by omega), uT_n (by omega), hS i hi]
        unfold clT
        rw [if_neg (by omega), if_neg (by omega)]
    · simp only [fX10_clears_7]
      rw [if_neg (show ¬ nI 1150 < (1150 : Int32) from Int32.lt_irrefl), rwm_up, rwm_up, rwm_up, rwm_up, rwm_up]
      have p : ∀ h : HP, fX10_puts 12 1 h = some (up h (11, 22, 0) 21 1) := fun h => by
        show (if inb (9 + nI 12) 1150 = true then (some (up h (11, 22, 0) ((9 + nI 12).toNatClampNeg) 1)) else none) = _
        rw [show (9 : Int32) + nI 12 = nI 21 from n_add 9 12, if_pos (inb_n (by omega) (by decide)), n_c (by omega)]
      rw [p, Option.bind_some, rwm_up]
  | succ q ih =>
    intro k n hp S hk hn hS
    obtain ⟨n, rfl⟩ : ∃ p, n = p + 1 := ⟨n - 1, by omega⟩
    have g : nI k < (1150 : Int32) := by show nI k < nI 1150; rw [n_lt (by omega) (by omega)]; omega
    simp only [fX10_clears_7]
    rw [if_pos g, alen_r, if_pos (inb_n (show k < wlen 22 by show _ < 1150; omega) (by decide)), n_c (by omega), rwm_up, ← nI_succ]
    refine ih (k + 1) n hp _ (by omega) (by omega) (fun i hi => ?_)
    by_cases e : i = k
    · rw [e, uT_e]
    · rw [uT_n e]; exact hS i (by omega)
/-- the class, ahead of its first token -/
def stCn (n : Nat) (hc : HP) : HP := up (up (up (up hc (5, 0, 0) 2 (nI n)) (5, 0, 0) 3 0) (5, 0, 0) 7 0) (5, 0, 0) 8 m1
def clC (hp : HP) : HP := up (up (up (up (FI (FI (FI hp 4 1 0) 7 1 m1) 8 1 0) (0, 0, 1) 5 0) (0, 0, 1) 6 m1) (0, 0, 1) 7 m1) (0, 0, 1) 8 m1
theorem clC_eq (hp : HP) : fX3_clear 1 hp = some (clC hp) := by
  simp only [fX3_clear, fX0_clear]
  rw [fill_eq, Option.bind_some, fill_eq, Option.bind_some, fill_eq, Option.bind_some, Option.bind_some]
  rfl
theorem clC_o {hp : HP} {r : RF} (h : ¬ ofm 1 r) : clC hp r = hp r := by
  have a : ¬ r = (0, 0, 1) := fun e => h (by rw [e]; unfold ofm; simp)
  unfold clC
  rw [up_n a, up_n a, up_n a, up_n a, FI_o (fun e => h (by rw [e]; unfold ofm; simp)), FI_o (fun e => h (by rw [e]; unfold ofm; simp)), FI_o (fun e => h (by rw [e]; unfold ofm; simp))]
theorem stCn_o {n : Nat} {hc : HP} {r : RF} (h : r ≠ (5, 0, 0)) : stCn n hc r = hc r := by
  unfold stCn
  rw [up_n h, up_n h, up_n h, up_n h]
variable {n : Nat} {a b : HP}
theorem start_p (hb : Bas n a b) (b1 : isB (a (1, 0, 1) 4) = true) (b6 : isB (a (6, 0, 1) 3) = true) : ∃ c c1 m, fX5_readToken (clC (stCn n a)) = some c ∧ fX10_clears (up (up (up (up b (10, 0, 0) 14 (nI n)) (10, 0, 0) 15 0) (10, 0, 0) 19 0) (10, 0, 0) 20 m1) = some c1 ∧ fX10_token c1 = some m ∧ PRx 0 n (up a (5, 0, 0) 3 0) b (Xk 0) c m := by
  have hf := FU_ge
  obtain ⟨S', s1, s2⟩ := clr_aux 1150 0 FU (up (up (up (up (up b (10, 0, 0) 14 (nI n)) (10, 0, 0) 15 0) (10, 0, 0) 19 0) (10, 0, 0) 20 m1) (10, 0, 0) 2 0) (b (11, 22, 0)) (by omega) (by omega) (fun i hi => absurd hi (by omega))
  have e22 : (up (up (up (up (up b (10, 0, 0) 14 (nI n)) (10, 0, 0) 15 0) (10, 0, 0) 19 0) (10, 0, 0) 20 m1) (10, 0, 0) 2 0) (11, 22, 0) = b (11, 22, 0) := by
    rw [up_n (by decide), up_n (by decide), up_n (by decide), up_n (by decide), up_n (by decide)]
  rw [rwm_T e22] at s2
  generalize hM : rwm (up (up (up (up (up b (10, 0, 0) 14 (nI n)) (10, 0, 0) 15 0) (10, 0, 0) 19 0) (10, 0, 0) 20 m1) (10, 0, 0) 2 0) S' = M at s2
  have M22 : M (11, 22, 0) = S' := by rw [← hM]; exact rwm_e
  have Mo : ∀ r, r ≠ (10, 0, 0) → r ≠ (11, 22, 0) → M r = b r := fun r h1 h2 => by
    rw [← hM, rwm_n h2, up_n h1, up_n h1, up_n h1, up_n h1, up_n h1]
  have M10 : M (10, 0, 0) = (up (up (up (up (up b (10, 0, 0) 14 (nI n)) (10, 0, 0) 15 0) (10, 0, 0) 19 0) (10, 0, 0) 20 m1) (10, 0, 0) 2 0) (10, 0, 0) := by rw [← hM]; exact rwm_n (by decide)
  have Mk : ∀ k, k ≠ 2 → (k < 14 ∨ 20 < k) → M (10, 0, 0) k = b (10, 0, 0) k := fun k h1 h2 => by
    rw [M10, up_o (fun z => by have := z.2; omega), up_o (fun z => by have := z.2; omega), up_o (fun z => by have := z.2; omega), up_o (fun z => by have := z.2; omega), up_o (fun z => by have := z.2; omega)]
  have M14 : M (10, 0, 0) 14 = nI n := by rw [M10, up_o (by simp), up_o (by simp), up_o (by simp), up_o (by simp), up_s]
  have M15 : M (10, 0, 0) 15 = nI 0 := by rw [M10, up_o (by simp), up_o (by simp), up_o (by simp), up_s]; rfl
  have M19 : M (10, 0, 0) 19 = 0 := by rw [M10, up_o (by simp), up_o (by simp), up_s]
  have M2 : M (10, 0, 0) 2 = 0 := by rw [M10, up_s]
  have C5 : clC (stCn n a) (5, 0, 0) = stCn n a (5, 0, 0) := clC_o (by unfold ofm; simp)
  have Co : ∀ r, ¬ ofm 1 r → r ≠ (5, 0, 0) → clC (stCn n a) r = a r := fun r h1 h2 => (clC_o h1).trans (stCn_o h2)
  have C2 : clC (stCn n a) (5, 0, 0) 2 = nI n := by rw [C5]; unfold stCn; rw [up_o (by simp), up_o (by simp), up_o (by simp), up_s]
  have C3 : clC (stCn n a) (5, 0, 0) 3 = nI 0 := by rw [C5]; unfold stCn; rw [up_o (by simp), up_o (by simp), up_s]; rfl
  have C7 : clC (stCn n a) (5, 0, 0) 7 = 0 := by rw [C5]; unfold stCn; rw [up_o (by simp), up_s]
  have C8 : clC (stCn n a) (5, 0, 0) 8 = m1 := by rw [C5]; unfold stCn; rw [up_s]
  have C10 : clC (stCn n a) (11, 10, 0) = a (11, 10, 0) := Co _ (by unfold ofm; simp) (by decide)
  have M25 : M (11, 25, 0) = b (11, 25, 0) := Mo _ (by decide) (by decide)
  obtain ⟨F', G', e1, e2, e3, e4, e5⟩ := tok_p (hc := clC (stCn n a)) (hm := M) (n := n) (by rw [C10, M25]; exact hb.2.1) (by rw [M25]; exact hb.2.2) hb.1 (F := clC (stCn n a) (5, 0, 0)) (G := M (10, 0, 0)) (Nat.zero_le _) C2 C3 C7 M14 M15 (lo := 0) (Nat.le_refl _)
  rw [rwr_id] at e1 e2
  refine ⟨_, M, _, e1, s2, e2, ⟨fun r h1 h2 => ?_, ?_, ?_, 0, Nat.le_refl _, ?_⟩, ⟨fun r h1 h2 h3 h4 => ?_, fun k h1 h2 => ?_⟩, Or.inr ⟨?_, ?_, ?_, ?_, ?_, ?_, ?_, ⟨0, ?_⟩, ?_⟩⟩
  · rw [rwr_n h2, up_n h2]; exact Co r h1 h2
  · rw [rwr_n (by decide)]
    unfold clC
    rw [up_n (by decide), up_n (by decide), up_n (by decide), up_n (by decide), FI_o (by decide), FI_o (by decide), FI_o (by decide), stCn_o (by decide)]; exact b1
  · rw [rwr_n (by decide)]
    unfold clC
    rw [up_n (by decide), up_n (by decide), up_n (by decide), up_n (by decide), FI_o (by decide), FI_o (by decide), FI_o (by decide), stCn_o (by decide)]; exact b6
  · rw [rwr_n (by decide)]
    unfold clC
    rw [up_o (by simp), up_o (by simp), up_o (by simp), up_s]; rfl
  · rw [rwr_n h1]; exact Mo r h1 h4
  · rw [rwr_e, e5 k (by omega)]; exact Mk k h1 h2
  · rw [rwr_e, rwr_e, up_s, up_n (by decide), ← C10]; exact e3
  · rw [rwr_e, e4 7 (by omega)]; exact C7
  · rw [rwr_e, e5 19 (by omega)]; exact M19
  · rw [rwr_e, e4 8 (by omega)]; exact C8
  · intro j hj; omega
  · intro j hj _ _
    rw [rwr_n (by decide), M22]; exact s1 j hj
  · intro j hj
    have z : S' (90 + j) = 0 := by
      rw [s1 _ (by omega)]; unfold clT; rw [if_neg (by omega), if_neg (by omega)]
    rw [rwr_n (by decide), rwr_n (by decide), M22, z]
    refine ⟨?_, Or.inl rfl⟩
    unfold clC
    rw [up_n (by decide), up_n (by decide), up_n (by decide), up_n (by decide), FI_o (by decide), FI_o (by decide), FI_s (show j < wlen 4 from hj)]
  · intro i
    match i with
    | 0 => exact Nat.zero_le _
    | 1 =>
      show rwr (5, 0, 0) (clC (stCn n a)) F' (0, 0, 1) 5 = nI 0
      rw [rwr_n (by decide)]
      unfold clC
      rw [up_o (by simp), up_o (by simp), up_o (by simp), up_s]; rfl
    | 2 =>
      show rwr (10, 0, 0) M G' (10, 0, 0) 2 = nI 0
      rw [rwr_e, e5 2 (by omega)]; exact M2
    | 3 => intro i hi; omega
    | 4 => intro i hi; omega
    | 5 => intro i hi; omega
    | 6 => intro i hi; omega
    | 7 => intro i hi; omega
    | 8 =>
      intro i hi
      rw [rwr_n (by decide), M22, s1 _ (by omega)]; unfold clT; rw [if_neg (by omega), if_neg (by omega)]
    | 9 => exact ⟨fun _ => none, by decide, fun c _ h => absurd rfl h⟩
    | 10 =>
      intro i hi
      rw [rwr_n (by decide)]
      unfold clC
      rw [up_n (by decide), up_n (by decide), up_n (by decide), up_n (by decide), FI_o (by decide), FI_s (show i < wlen 7 from hi)]
    | 11 =>
      intro i hi
      rw [rwr_n (by decide)]
      unfold clC
      rw [up_n (by decide), up_n (by decide), up_n (by decide), up_n (by decide), FI_s (show i < wlen 8 from hi)]
    | 12 =>
      show rwr (5, 0, 0) (clC (stCn n a)) F' (0, 0, 1) 6 = m1 ∧ rwr (5, 0, 0) (clC (stCn n a)) F' (0, 0, 1) 7 = m1 ∧ rwr (5, 0, 0) (clC (stCn n a)) F' (0, 0, 1) 8 = m1
      rw [rwr_n (by decide)]
      unfold clC
      exact ⟨by rw [up_o (by simp), up_o (by simp), up_s], by rw [up_o (by simp), up_s], up_s⟩
    | n + 13 => exact trivial
  · intro j hj; omega
theorem hd_parse {hc c : HP} (h : hdC hc = some c) (K : HP → Option HP) : ((fX5_takeWord 0 hc).bind fun hp26 => (fX5_takeSettings 0 4 hp26).bind fun hp29 => (fX5_takeSemicolon hp29).bind fun hp32 => (fX5_takeWord 1 hp32).bind fun hp35 => (fX5_takeSettings 5 8 hp35).bind fun hp38 => (fX5_takeSemicolon hp38).bind fun hp41 => (fX5_takeWord 2 hp41).bind fun hp44 => (fX5_takeSettings 9 11 hp44).bind K) = K c := by
  have e : ((fX5_takeWord 0 hc).bind fun hp26 => (fX5_takeSettings 0 4 hp26).bind fun hp29 => (fX5_takeSemicolon hp29).bind fun hp32 => (fX5_takeWord 1 hp32).bind fun hp35 => (fX5_takeSettings 5 8 hp35).bind fun hp38 => (fX5_takeSemicolon hp38).bind fun hp41 => (fX5_takeWord 2 hp41).bind fun hp44 => (fX5_takeSettings 9 11 hp44).bind K) = (hdC hc).bind K := by
    simp only [hdC, Option.bind_assoc]
  rw [e, h]; rfl
/-- a text is read to its end by both -/
theorem parse_p (hb : Bas n a b) (b1 : isB (a (1, 0, 1) 4) = true) (b6 : isB (a (6, 0, 1) 3) = true) : ∃ c m, fX5_parse (nI n) a = fX5_parse_149 c ∧ fX10_reads (nI n) b = rdT m ∧ OutE n (up a (5, 0, 0) 3 0) b c m := by
  have hf := FU_ge
  obtain ⟨N, hN⟩ := FU_s
  have hn := hb.1
  obtain ⟨c0, d0, m0_, e0, e1, e2, p0⟩ := start_p hb b1 b6
  have hb' : Bas n (up a (5, 0, 0) 3 0) b := by
    refine ⟨hb.1, ?_, hb.2.2⟩
    rw [up_n (by decide)]; exact hb.2.1
  obtain ⟨c1, m1_, e3, e4, q1, q2, q3⟩ := head_p hb' p0
  have cs : fX5_parse (nI n) a = fX5_parse_80 FU (nI 0) c1 := by
    refine (bd1 (clC_eq (stCn n a))).trans ((bd1 e0).trans ?_)
    exact hd_parse e3 (fun hp47 => fX5_parse_80 FU 0 hp47)
  have ms : fX10_reads (nI n) b = fX10_reads_32 FU m1_ := (bd1 e1).trans ((bd1 e2).trans (bd1 e4))
  rw [cs, ms]
  rcases q3 with hD | hL
  · obtain ⟨k, k1, k2, k3, _⟩ := id hD
    rw [hN]
    exact ⟨c1, m1_, end_c (by rw [k3]; exact n_z k1 k2), end_md hD, FrP_le q1 (by omega), q2, Or.inl hD⟩
  · exact loop_p n 0 FU FU _ c1 m1_ (by omega) (by omega) (by omega) hb' (FrP_le q1 (by omega)) q2 hL (fun z => by
      obtain ⟨t1, t2, pos, st, kd, t3, t4, t5, t6, t7, t8, t9, t10, t11, t12, t13, t14, t15⟩ := id hL.1
      have := t15 (fun w => z (by rw [t9, w]; rfl))
      rw [t3, n_t (by omega)]; omega)
end
