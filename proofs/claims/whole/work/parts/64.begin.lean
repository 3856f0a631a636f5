/-! ===== what was read becomes a machine ===== -/
section
variable {β n : Nat} {a b hc hm : HP}
/-- the class, behind its last line -/
def bgC (c : HP) : HP := up (up (up (FI (up (up (up (FI (FI (up (up (up (FI (up c (11, 0, 1) 12 1) 1 1 (c (11, 0, 1) 10)) (6, 0, 1) 2 0) (6, 0, 1) 3 1) (6, 0, 1) 4 0) 2 1 32) 3 1 0) (1, 0, 1) 2 0) (1, 0, 1) 3 (c (11, 0, 1) 2)) (1, 0, 1) 4 0) 9 1 0) (3, 0, 1) 6 0) (3, 0, 1) 7 0) (3, 0, 1) 8 m1
theorem bgC_eq (c : HP) : fX5_parse_149 c = some (bgC c) := by
  have g : ∀ (h : HP), fX1_goHome 1 h = some (up (up (up h (1, 0, 1) 2 0) (1, 0, 1) 3 (h (11, 0, 1) 2)) (1, 0, 1) 4 0) := fun h => by
    show ((fX7_at 0 1 (nI 2) (up h (1, 0, 1) 2 0)).bind fun v1 => some (up (up (up h (1, 0, 1) 2 0) (1, 0, 1) 3 v1) (1, 0, 1) 4 0)).bind (fun hp3 => some hp3) = _
    rw [at_n (show 2 < wlen 0 by decide), Option.bind_some, Option.bind_some, up_n (by decide)]
  have r : fX6_renew 1 (up c (11, 0, 1) 12 1) = some (up (up (FI (up c (11, 0, 1) 12 1) 1 1 (c (11, 0, 1) 10)) (6, 0, 1) 2 0) (6, 0, 1) 3 1) := by
    show (fX7_at 0 1 (nI 10) (up c (11, 0, 1) 12 1)).bind (fun v1 => (fX7_fill 1 1 v1 (up c (11, 0, 1) 12 1)).bind fun hp4 => some (up (up hp4 (6, 0, 1) 2 0) (6, 0, 1) 3 1)) = _
    rw [at_n (show 10 < wlen 0 by decide), Option.bind_some, fill_eq, Option.bind_some, up_o (by simp)]
  have p : fX7_put 0 1 12 1 c = some (up c (11, 0, 1) 12 1) := put_n (k := 12) (show 12 < wlen 0 by decide)
  simp only [fX5_parse_149, fX3_begin, fX4_clear]
  rw [p, Option.bind_some, r, Option.bind_some, fill_eq, Option.bind_some, fill_eq, Option.bind_some, Option.bind_some, g, Option.bind_some, fill_eq, Option.bind_some, Option.bind_some]
  rw [FI_o (r := (11, 0, 1)) (by decide), FI_o (r := (11, 0, 1)) (by decide), up_n (r' := (11, 0, 1)) (by decide), up_n (r' := (11, 0, 1)) (by decide), up_n (r' := (11, 0, 1)) (by decide), FI_o (r := (11, 0, 1)) (by decide), up_o (by simp)]
  rfl
theorem bgC_o {c : HP} {r : RF} (h : ¬ ofm 1 r) : bgC c r = c r := by
  have x : ∀ s, ofm 1 s → ¬ r = s := fun s hs e => h (by rw [e]; exact hs)
  unfold bgC
  rw [up_n (x _ (by unfold ofm; simp)), up_n (x _ (by unfold ofm; simp)), up_n (x _ (by unfold ofm; simp)), FI_o (x _ (by unfold ofm; simp)), up_n (x _ (by unfold ofm; simp)), up_n (x _ (by unfold ofm; simp)), up_n (x _ (by unfold ofm; simp)), FI_o (x _ (by unfold ofm; simp)), FI_o (x _ (by unfold ofm; simp)), up_n (x _ (by unfold ofm; simp)), up_n (x _ (by unfold ofm; simp)), up_n (x _ (by unfold ofm; simp)), FI_o (x _ (by unfold ofm; simp)), up_n (x _ (by unfold ofm; simp))]
/-- a ribbon is filled, whatever stands in the row -/
theorem rib_any : ∀ (q k n : Nat) (hm : HP), k + q = 60 → q < n → ∃ m, fX10_fillsRibbon_2 n (nI k) hm = some m ∧ ∀ r, r ≠ (11, 22, 0) → m r = hm r := by
  intro q
  induction q with
  | zero =>
    intro k n hm hk hn
    obtain ⟨n, rfl⟩ : ∃ p, n = p + 1 := ⟨n - 1, by omega⟩
    refine ⟨up (up hm (11, 22, 0) 7 0) (11, 22, 0) 8 1, ?_, fun r hr => ?_⟩
    · simp only [fX10_fillsRibbon_2]
      exact if_neg (show ¬ nI k < nI 60 by rw [n_lt (by omega) (by omega)]; omega)
    · rw [up_n hr, up_n hr]
  | succ q ih =>
    intro k n hm hk hn
    obtain ⟨n, rfl⟩ : ∃ p, n = p + 1 := ⟨n - 1, by omega⟩
    have g : nI k < (60 : Int32) := by show nI k < nI 60; rw [n_lt (by omega) (by omega)]; omega
    have i130 : (130 : Int32) + nI k = nI (130 + k) := n_add 130 k
    have st : ∀ y, fX10_fillsRibbon_37 (nI k) 22 0 (130 + nI k) y (fun x1 hq => fX10_fillsRibbon_2 n x1 hq) hm = fX10_fillsRibbon_2 n (nI (k + 1)) (up hm (11, 22, 0) (130 + k) y) := fun y => by
      simp only [fX10_fillsRibbon_37]
      rw [i130, alen_r, if_pos (inb_n (show 130 + k < wlen 22 by show _ < 1150; omega) (by decide)), n_c (by omega), ← nI_succ]
    simp only [fX10_fillsRibbon_2]
    rw [if_pos g, show fX10_its 9 hm = _ from its_g (j := 9) (by omega), Option.bind_some, show fX10_its 10 hm = _ from its_g (j := 10) (by omega), Option.bind_some, st, st]
    split
    · obtain ⟨m, e1, e2⟩ := ih (k + 1) n (up hm (11, 22, 0) (130 + k) (hm (11, 22, 0) (9 + 10))) (by omega) (by omega)
      exact ⟨m, e1, fun r hr => (e2 r hr).trans (up_n hr)⟩
    · obtain ⟨m, e1, e2⟩ := ih (k + 1) n (up hm (11, 22, 0) (130 + k) 0) (by omega) (by omega)
      exact ⟨m, e1, fun r hr => (e2 r hr).trans (up_n hr)⟩
theorem rdT_any (hm : HP) : ∃ m, rdT hm = some m ∧ ∀ r, r ≠ (11, 22, 0) → m r = hm r := by
  have hf := FU_ge
  obtain ⟨m, e1, e2⟩ := rib_any 60 0 FU (up hm (11, 22, 0) 1 (hm (11, 22, 0) (9 + 2))) (by omega) (by omega)
  refine ⟨m, ?_, fun r hr => (e2 r hr).trans (up_n hr)⟩
  simp only [rdT]
  rw [show fX10_its 2 hm = _ from its_g (j := 2) (by omega), Option.bind_some, show fX10_fillsRibbon (up hm (11, 22, 0) 1 (hm (11, 22, 0) (9 + 2))) = some m from e1, Option.bind_some]
/-- the row that was read -/
def rdR (T : Tr0) : Tr0 := rbT (uT T 1 (T 11))
theorem clT_z {j : Nat} (h : j ≠ 4) (h1 : j ≠ 5) (h2 : j ≠ 6) (h3 : j ≠ 37) (h4 : j ≠ 8) (h5 : j ≠ 21) : clT j = 0 := by
  unfold clT; rw [if_neg (by omega), if_neg (by omega)]
theorem WF_rd {nb : Nat} (tb : Nat) (hx : Xk 12 hc hm) (hb : ∀ i, barp nb hc hm i) : WF tb (uT (hm (11, 22, 0)) 1 (hm (11, 22, 0) 11)) (hm (11, 20, 0)) (hm (11, 21, 0)) nb := by
  obtain ⟨x1, x2, x3, _, x5⟩ := hx
  have s0 : isN (hm (11, 22, 0) 9) ∧ 10 ≤ tn (hm (11, 22, 0) 9) ∧ tn (hm (11, 22, 0) 9) ≤ 40 := x5 0 (by omega)
  have s1 : isN (hm (11, 22, 0) 10) ∧ 1 ≤ tn (hm (11, 22, 0) 10) ∧ tn (hm (11, 22, 0) 10) ≤ 12 := x5 1 (by omega)
  have s2 : isN (hm (11, 22, 0) 11) ∧ tn (hm (11, 22, 0) 11) + 2 ≤ tn (hm (11, 22, 0) 9) := x5 2 (by omega)
  have s3 : isN (hm (11, 22, 0) 12) ∧ tn (hm (11, 22, 0) 11) + 1 ≤ tn (hm (11, 22, 0) 12) ∧ tn (hm (11, 22, 0) 12) + 1 ≤ tn (hm (11, 22, 0) 9) := x5 3 (by omega)
  have s4 : isN (hm (11, 22, 0) 13) ∧ tn (hm (11, 22, 0) 13) + tn (hm (11, 22, 0) 11) ≤ tn (hm (11, 22, 0) 12) := x5 4 (by omega)
  have s5 : isN (hm (11, 22, 0) 14) ∧ 1 ≤ tn (hm (11, 22, 0) 14) ∧ tn (hm (11, 22, 0) 14) ≤ 999 := x5 5 (by omega)
  have s6 : isN (hm (11, 22, 0) 15) ∧ 1 ≤ tn (hm (11, 22, 0) 15) ∧ tn (hm (11, 22, 0) 15) ≤ 99 := x5 6 (by omega)
  have s7 : isN (hm (11, 22, 0) 16) ∧ tn (hm (11, 22, 0) 16) ≤ 99 := x5 7 (by omega)
  have s8 : isN (hm (11, 22, 0) 17) ∧ tn (hm (11, 22, 0) 17) ≤ 99 := x5 8 (by omega)
  have s9 : isN (hm (11, 22, 0) 18) ∧ 5 ≤ tn (hm (11, 22, 0) 18) ∧ tn (hm (11, 22, 0) 18) ≤ 60 := x5 9 (by omega)
  have s10 : isN (hm (11, 22, 0) 19) ∧ 1 ≤ tn (hm (11, 22, 0) 19) ∧ tn (hm (11, 22, 0) 19) ≤ 9 := x5 10 (by omega)
  have s11 : isN (hm (11, 22, 0) 20) ∧ tn (hm (11, 22, 0) 20) ≤ 3 := x5 11 (by omega)
  have z : ∀ j, j < 1150 → (j < 9 ∨ 20 < j) → (j < 38 ∨ 130 ≤ j) → j ≠ 1 → uT (hm (11, 22, 0)) 1 (hm (11, 22, 0) 11) j = clT j := fun j j1 j2 j3 j4 => (uT_n j4).trans (x2 j j1 j2 j3)
  have zz : ∀ j, j < 1150 → 130 ≤ j → uT (hm (11, 22, 0)) 1 (hm (11, 22, 0) 11) j = 0 := fun j j1 j2 => (z j j1 (by omega) (by omega) (by omega)).trans (clT_z (by omega) (by omega) (by omega) (by omega) (by omega) (by omega))
  have n0 : isN (0 : Int32) ∧ tn (0 : Int32) = 0 := ⟨isN_n (k := 0) (by omega), rfl⟩
  have nb26 : nb ≤ 26 := hb 0
  intro i
  match i with
  | 0 => exact s0
  | 1 => exact s1
  | 2 => exact ⟨s2.1, s3.1, s4.1, s3.2.1, s3.2.2, s4.2⟩
  | 3 => exact s5
  | 4 => exact s6
  | 5 => exact ⟨s7.1, s8.1, s7.2, s8.2⟩
  | 6 => exact s9
  | 7 => exact s10
  | 8 =>
    have e : uT (hm (11, 22, 0)) 1 (hm (11, 22, 0) 11) 21 = 1 := z 21 (by omega) (by omega) (by omega) (by omega)
    show isN (hm (11, 22, 0) 20) ∧ isN (uT (hm (11, 22, 0)) 1 (hm (11, 22, 0) 11) 21) ∧ tn (hm (11, 22, 0) 20) ≤ 3 ∧ 1 ≤ tn (uT (hm (11, 22, 0)) 1 (hm (11, 22, 0) 11) 21) ∧ tn (uT (hm (11, 22, 0)) 1 (hm (11, 22, 0) 11) 21) ≤ 3
    rw [e]
    exact ⟨s11.1, isN_n (k := 1) (by omega), s11.2, by decide, by decide⟩
  | 9 =>
    have e : uT (hm (11, 22, 0)) 1 (hm (11, 22, 0) 11) 0 = 0 := z 0 (by omega) (by omega) (by omega) (by omega)
    show isN (uT (hm (11, 22, 0)) 1 (hm (11, 22, 0) 11) 0) ∧ tn (uT (hm (11, 22, 0)) 1 (hm (11, 22, 0) 11) 0) < tn (hm (11, 22, 0) 10)
    rw [e]
    exact ⟨n0.1, by rw [n0.2]; omega⟩
  | 10 =>
    show isN (hm (11, 22, 0) 11) ∧ tn (hm (11, 22, 0) 11) ≤ tn (hm (11, 22, 0) 9)
    exact ⟨s2.1, by omega⟩
  | 11 => exact Or.inl (z 2 (by omega) (by omega) (by omega) (by omega))
  | 12 =>
    have e : uT (hm (11, 22, 0)) 1 (hm (11, 22, 0) 11) 3 = 0 := z 3 (by omega) (by omega) (by omega) (by omega)
    show isN (uT (hm (11, 22, 0)) 1 (hm (11, 22, 0) 11) 3) ∧ tn (uT (hm (11, 22, 0)) 1 (hm (11, 22, 0) 11) 3) ≤ tb
    rw [e]
    exact ⟨n0.1, by rw [n0.2]; omega⟩
  | 13 => exact Or.inl (z 4 (by omega) (by omega) (by omega) (by omega))
  | 14 => exact Or.inl ⟨z 5 (by omega) (by omega) (by omega) (by omega), z 6 (by omega) (by omega) (by omega) (by omega)⟩
  | 15 =>
    have e : uT (hm (11, 22, 0)) 1 (hm (11, 22, 0) 11) 7 = 0 := z 7 (by omega) (by omega) (by omega) (by omega)
    show isN (uT (hm (11, 22, 0)) 1 (hm (11, 22, 0) 11) 7) ∧ tn (uT (hm (11, 22, 0)) 1 (hm (11, 22, 0) 11) 7) < tn (hm (11, 22, 0) 18)
    rw [e]
    exact ⟨n0.1, by rw [n0.2]; omega⟩
  | 16 => exact Or.inr (z 8 (by omega) (by omega) (by omega) (by omega))
  | 17 => exact nb26
  | 18 =>
    intro b' hb'
    rw [uT_n (by omega)]
    exact Or.inl ((hb 7 : ∀ i, i < nb → hm (11, 22, 0) (38 + 2 * i) = m1) b' hb')
  | 19 => exact hb 5
  | 20 => exact hb 6
  | 21 => intro c hc'; rw [uT_n (by omega)]; exact (x3 c hc').2
  | 22 => intro k hk; rw [zz _ (by omega) (by omega)]; exact ⟨n0.1, by rw [n0.2]; omega⟩
  | 23 => intro l c hl hc'; rw [zz _ (by omega) (by omega)]; decide
  | 24 => intro l c hl hc' _; exact ⟨zz _ (by omega) (by omega), zz _ (by omega) (by omega)⟩
  | 25 => intro l c hl hc'; rw [zz _ (by omega) (by omega)]; exact ⟨n0.1, by rw [n0.2]; omega⟩
  | n + 26 => exact trivial
/-- what was read, on both sides -/
theorem rd_St {nb : Nat} (tb : Nat) (hx : Xk 12 hc hm) (hb : ∀ i, barp nb hc hm i) : rdT hm = some (rwm hm (rdR (hm (11, 22, 0)))) ∧ St (bgC hc) 1 (rdR (hm (11, 22, 0))) (hm (11, 20, 0)) (hm (11, 21, 0)) nb tb := by
  have hf := FU_ge
  have hW := WF_rd tb hx hb
  have nb26 : nb ≤ 26 := hb 0
  obtain ⟨x1, x2, x3, _, x5⟩ := hx
  refine ⟨?_, ?_, ?_, ?_, WF_rbT hW⟩
  · have e1 : rwm (up hm (11, 22, 0) 1 (hm (11, 22, 0) 11)) (uT (hm (11, 22, 0)) 1 (hm (11, 22, 0) 11)) = up hm (11, 22, 0) 1 (hm (11, 22, 0) 11) := rwm_T up_e
    have mr := ribbon_aux (hm := up hm (11, 22, 0) 1 (hm (11, 22, 0) 11)) hW 60 0 FU (uT (hm (11, 22, 0)) 1 (hm (11, 22, 0) 11)) (by omega) (by omega) (fun _ _ => rfl) (fun i hi => absurd hi (by omega))
    rw [e1] at mr
    simp only [rdT]
    rw [show fX10_its 2 hm = _ from its_g (j := 2) (by omega), Option.bind_some, show fX10_fillsRibbon (up hm (11, 22, 0) 1 (hm (11, 22, 0) (9 + 2))) = _ from mr, Option.bind_some]
    refine congrArg some ?_
    funext r
    by_cases e : r = (11, 22, 0)
    · rw [e, rwm_e, rwm_e]; rfl
    · rw [rwm_n e, rwm_n e, up_n e]
  · -- the moving parts
    have R : ∀ j, j ≠ 1 → j ≠ 7 → j ≠ 8 → (j < 130 ∨ 190 ≤ j) → rdR (hm (11, 22, 0)) j = hm (11, 22, 0) j := fun j a1 a2 a3 a4 => by
      unfold rdR; rw [rbT_o a4 a2 a3, uT_n a1]
    have Z : ∀ j, j ≠ 1 → j ≠ 7 → j ≠ 8 → j < 1150 → (j < 9 ∨ 20 < j) → (j < 38 ∨ 190 ≤ j) → rdR (hm (11, 22, 0)) j = clT j := fun j a1 a2 a3 a4 a5 a6 => (R j a1 a2 a3 (by omega)).trans (x2 j a4 a5 (by omega))
    have o0 : bgC hc (0, 0, 1) = hc (0, 0, 1) := by
      unfold bgC
      rw [up_n (by decide), up_n (by decide), up_n (by decide), FI_o (by decide), up_n (by decide), up_n (by decide), up_n (by decide), FI_o (by decide), FI_o (by decide), up_n (by decide), up_n (by decide), up_n (by decide), FI_o (by decide), up_n (by decide)]
    have ow : ∀ w, w = 4 ∨ w = 5 ∨ w = 6 ∨ w = 7 ∨ w = 8 → bgC hc (11, w, 1) = hc (11, w, 1) := by
      intro w hw
      have q : ∀ v, v ≠ w → ¬ (11, w, 1) = (11, v, 1) := fun v hv e => hv (congrArg (fun r : RF => r.2.1) e).symm
      unfold bgC
      rw [up_n (by simp), up_n (by simp), up_n (by simp), FI_o (q _ (by omega)), up_n (by simp), up_n (by simp), up_n (by simp), FI_o (q _ (by omega)), FI_o (q _ (by omega)), up_n (by simp), up_n (by simp), up_n (by simp), FI_o (q _ (by omega)), up_n (q _ (by omega))]
    have b12 : hc (0, 0, 1) 6 = m1 ∧ hc (0, 0, 1) 7 = m1 ∧ hc (0, 0, 1) 8 = m1 := hb 12
    intro i
    match i with
    | 0 =>
      intro k hk
      have e : bgC hc (11, 0, 1) k = up hc (11, 0, 1) 12 1 (11, 0, 1) k := by
        unfold bgC
        rw [up_n (by decide), up_n (by decide), up_n (by decide), FI_o (by decide), up_n (by decide), up_n (by decide), up_n (by decide), FI_o (by decide), FI_o (by decide), up_n (by decide), up_n (by decide), up_n (by decide), FI_o (by decide)]
      rw [e]
      by_cases q : k = 12
      · rw [q, up_s, Z 21 (by omega) (by omega) (by omega) (by omega) (by omega) (by omega)]; rfl
      · rw [up_o (fun z => q z.2), R _ (by omega) (by omega) (by omega) (by omega)]; exact x1 k (by omega)
    | 1 => intro k hk; rw [ow 4 (by omega), R _ (by omega) (by omega) (by omega) (by omega)]; exact (x3 k hk).1
    | 2 =>
      show bgC hc (1, 0, 1) 2 = rdR (hm (11, 22, 0)) 0
      rw [Z 0 (by omega) (by omega) (by omega) (by omega) (by omega) (by omega)]
      unfold bgC
      rw [up_n (by decide), up_n (by decide), up_n (by decide), FI_o (by decide), up_o (by simp), up_o (by simp), up_s]; rfl
    | 3 =>
      show bgC hc (1, 0, 1) 3 = rdR (hm (11, 22, 0)) 1
      have : rdR (hm (11, 22, 0)) 1 = hm (11, 22, 0) 11 := by unfold rdR; rw [rbT_o (by omega) (by omega) (by omega), uT_e]
      rw [this]
      unfold bgC
      rw [up_n (by decide), up_n (by decide), up_n (by decide), FI_o (by decide), up_o (by simp), up_s]; exact x1 2 (by omega)
    | 4 =>
      show bgC hc (1, 0, 1) 4 = rdR (hm (11, 22, 0)) 2
      rw [Z 2 (by omega) (by omega) (by omega) (by omega) (by omega) (by omega)]
      unfold bgC
      rw [up_n (by decide), up_n (by decide), up_n (by decide), FI_o (by decide), up_s]; rfl
    | 5 =>
      show bgC hc (3, 0, 1) 6 = rdR (hm (11, 22, 0)) 3
      rw [Z 3 (by omega) (by omega) (by omega) (by omega) (by omega) (by omega)]
      unfold bgC
      rw [up_o (by simp), up_o (by simp), up_s]; rfl
    | 6 => show bgC hc (0, 0, 1) 5 = nI nb; rw [o0]; exact hb 1
    | 7 => show bgC hc (0, 0, 1) 6 = rdR (hm (11, 22, 0)) 4; rw [o0, b12.1, Z 4 (by omega) (by omega) (by omega) (by omega) (by omega) (by omega)]; rfl
    | 8 => show bgC hc (0, 0, 1) 7 = rdR (hm (11, 22, 0)) 5; rw [o0, b12.2.1, Z 5 (by omega) (by omega) (by omega) (by omega) (by omega) (by omega)]; rfl
    | 9 => show bgC hc (0, 0, 1) 8 = rdR (hm (11, 22, 0)) 6; rw [o0, b12.2.2, Z 6 (by omega) (by omega) (by omega) (by omega) (by omega) (by omega)]; rfl
    | 10 => intro k hk; rw [ow 5 (by omega)]; exact (hb 3 : ∀ i, i < nb → hc (11, 5, 1) i = hm (11, 20, 0) i) k hk
    | 11 => intro k hk; rw [ow 6 (by omega)]; exact (hb 4 : ∀ i, i < nb → hc (11, 6, 1) i = hm (11, 21, 0) i) k hk
    | 12 =>
      intro k hk
      rw [ow 7 (by omega), R _ (by omega) (by omega) (by omega) (by omega), (hb 10 : ∀ i, i < 26 → hc (11, 7, 1) i = m1) k (by omega)]
      exact ((hb 7 : ∀ i, i < nb → hm (11, 22, 0) (38 + 2 * i) = m1) k hk).symm
    | 13 =>
      intro k hk
      rw [ow 8 (by omega), R _ (by omega) (by omega) (by omega) (by omega), (hb 11 : ∀ i, i < 26 → hc (11, 8, 1) i = 0) k (by omega)]
      exact ((hb 8 : ∀ i, i < 26 → hm (11, 22, 0) (39 + 2 * i) = 0) k (by omega)).symm
    | 14 =>
      show isB (bgC hc (6, 0, 1) 3) = true
      unfold bgC
      rw [up_n (by decide), up_n (by decide), up_n (by decide), FI_o (by decide), up_n (by decide), up_n (by decide), up_n (by decide), FI_o (by decide), FI_o (by decide), up_o (by simp), up_s]; decide
    | n + 15 => exact trivial
  · -- ribbon, page, counts
    have Z : ∀ j, j ≠ 1 → j ≠ 7 → j ≠ 8 → j < 1150 → (j < 9 ∨ 20 < j) → (j < 38 ∨ 190 ≤ j) → rdR (hm (11, 22, 0)) j = clT j := fun j a1 a2 a3 a4 a5 a6 => by
      unfold rdR; rw [rbT_o (by omega) a2 a3, uT_n a1]; exact x2 j a4 a5 (by omega)
    have s9 : isN (hm (11, 22, 0) 18) ∧ 5 ≤ tn (hm (11, 22, 0) 18) ∧ tn (hm (11, 22, 0) 18) ≤ 60 := x5 9 (by omega)
    have s0 : isN (hm (11, 22, 0) 9) ∧ 10 ≤ tn (hm (11, 22, 0) 9) ∧ tn (hm (11, 22, 0) 9) ≤ 40 := x5 0 (by omega)
    have e18 : rdR (hm (11, 22, 0)) 18 = hm (11, 22, 0) 18 := by unfold rdR; rw [rbT_o (by omega) (by omega) (by omega), uT_n (by omega)]
    have e9 : rdR (hm (11, 22, 0)) 9 = hm (11, 22, 0) 9 := by unfold rdR; rw [rbT_o (by omega) (by omega) (by omega), uT_n (by omega)]
    intro i
    match i with
    | 0 =>
      intro k hk
      have hk : k < tn (rdR (hm (11, 22, 0)) 18) := hk
      rw [e18] at hk
      have e : rdR (hm (11, 22, 0)) (130 + k) = hm (11, 22, 0) 19 := by
        show rbT (uT (hm (11, 22, 0)) 1 (hm (11, 22, 0) 11)) (130 + k) = _
        unfold rbT
        rw [if_neg (by omega), if_neg (by omega), if_pos (by omega), uT_n (show 18 ≠ 1 by decide), if_pos (by omega), uT_n (show 19 ≠ 1 by decide)]
      rw [e]
      unfold bgC
      rw [up_n (by decide), up_n (by decide), up_n (by decide), FI_o (by decide), up_n (by decide), up_n (by decide), up_n (by decide), FI_o (by decide), FI_o (by decide), up_n (by decide), up_n (by decide), up_n (by decide), FI_s (show k < wlen 1 by show k < 60; omega)]
      exact x1 10 (by omega)
    | 1 =>
      show bgC hc (6, 0, 1) 2 = 0
      unfold bgC
      rw [up_n (by decide), up_n (by decide), up_n (by decide), FI_o (by decide), up_n (by decide), up_n (by decide), up_n (by decide), FI_o (by decide), FI_o (by decide), up_o (by simp), up_o (by simp), up_s]
    | 2 =>
      show bgC hc (6, 0, 1) 3 = 1
      unfold bgC
      rw [up_n (by decide), up_n (by decide), up_n (by decide), FI_o (by decide), up_n (by decide), up_n (by decide), up_n (by decide), FI_o (by decide), FI_o (by decide), up_o (by simp), up_s]
    | 3 =>
      show bgC hc (6, 0, 1) 4 = rdR (hm (11, 22, 0)) 33
      rw [Z 33 (by omega) (by omega) (by omega) (by omega) (by omega) (by omega)]
      unfold bgC
      rw [up_n (by decide), up_n (by decide), up_n (by decide), FI_o (by decide), up_n (by decide), up_n (by decide), up_n (by decide), FI_o (by decide), FI_o (by decide), up_s]; rfl
    | 4 =>
      intro k k1 k2 k3
      rw [Z _ (by omega) (by omega) (by omega) (by omega) (by omega) (by omega), clT_z (by omega) (by omega) (by omega) (by omega) (by omega) (by omega)]
      unfold bgC
      rw [up_n (by decide), up_n (by decide), up_n (by decide), FI_s (show k < wlen 9 by show k < 14; omega)]
    | 5 =>
      intro l c hl hc'
      have hc' : c < tn (rdR (hm (11, 22, 0)) 9) := hc'
      rw [e9] at hc' ⊢
      rw [Z _ (by omega) (by omega) (by omega) (by omega) (by omega) (by omega), clT_z (by omega) (by omega) (by omega) (by omega) (by omega) (by omega)]
      unfold bgC
      rw [up_n (by decide), up_n (by decide), up_n (by decide), FI_o (by decide), up_n (by decide), up_n (by decide), up_n (by decide), FI_o (by decide), FI_s (show _ < 480 from plc_lt hl hc' s0.2.2)]; rfl
    | 6 =>
      intro l c hl hc'
      have hc' : c < tn (rdR (hm (11, 22, 0)) 9) := hc'
      rw [e9] at hc' ⊢
      rw [Z _ (by omega) (by omega) (by omega) (by omega) (by omega) (by omega), clT_z (by omega) (by omega) (by omega) (by omega) (by omega) (by omega)]
      unfold bgC
      rw [up_n (by decide), up_n (by decide), up_n (by decide), FI_o (by decide), up_n (by decide), up_n (by decide), up_n (by decide), FI_s (show _ < 480 from plc_lt hl hc' s0.2.2)]
    | n + 7 => exact trivial
  · refine ⟨?_, ?_⟩
    · have : rdR (hm (11, 22, 0)) 36 = 0 := by unfold rdR; rw [rbT_o (by omega) (by omega) (by omega), uT_n (by omega), x2 36 (by omega) (by omega) (by omega)]; rfl
      rw [this]
      unfold bgC
      rw [up_o (by simp), up_s]
    · have : rdR (hm (11, 22, 0)) 37 = m1 := by unfold rdR; rw [rbT_o (by omega) (by omega) (by omega), uT_n (by omega), x2 37 (by omega) (by omega) (by omega)]; rfl
      rw [this]
      unfold bgC
      rw [up_s]
end
