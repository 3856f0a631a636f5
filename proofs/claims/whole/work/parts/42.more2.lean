/-! ===== rests, ribbons, pages, undo, slots ===== -/
section
variable {hc hm : HP} {T L A : Tr0} {tb nb : Nat}
theorem rest_aux {h0 : HP} (h : MR True h0 hc 0 T L A nb) (hl : LA hm L A nb) (hW : WF tb T L A nb) (ht : tb < 900000000) : ∀ (k j n n' : Nat) (a : Int32), j + k = nb → k < n → k < n' → ∃ v, fX0_notBackAt_4 n 0 (T 3) a (nI j) hc = some v ∧ fX10_rest_51 n' a (nI j) (rwm hm T) = some (v, rwm hm T) := by
  have hnb := hW.nb
  have hti := hW.ti
  have e3 : T 3 = nI (tn (T 3)) := hti.1
  intro k
  induction k with
  | zero =>
    intro j n n' a hj hn hn'
    obtain ⟨n, rfl⟩ : ∃ q, n = q + 1 := ⟨n - 1, by omega⟩
    obtain ⟨n', rfl⟩ : ∃ q, n' = q + 1 := ⟨n' - 1, by omega⟩
    have g : ¬ nI j < nI nb := by rw [n_lt (by omega) (by omega)]; omega
    refine ⟨a, ?_, ?_⟩
    · simp only [fX0_notBackAt_4]; rw [h.1.a6, if_neg g]
    · simp only [fX10_rest_51]; rw [(LA_rwm hl).2.2, if_neg g]
  | succ k ih =>
    intro j n n' a hj hn hn'
    obtain ⟨n, rfl⟩ : ∃ q, n = q + 1 := ⟨n - 1, by omega⟩
    obtain ⟨n', rfl⟩ : ∃ q, n' = q + 1 := ⟨n' - 1, by omega⟩
    have g : nI j < nI nb := by rw [n_lt (by omega) (by omega)]; omega
    have st := fun a => ih (j + 1) n n' a (by omega) (by omega) (by omega)
    have mb := m_back2 (T := T) hl hW (by omega) (b := j) (by omega) (t := tn (T 3)) (by omega)
    rw [← e3] at mb
    simp only [fX0_notBackAt_4, fX10_rest_51, fX0_notBackAt_24, fX10_rest_79, flag_1, flag_0, Option.bind_some]
    rw [h.1.a6, (LA_rwm hl).2.2, if_pos g, if_pos g, c_back h (by omega), Option.bind_some, rwm_e, mb, Option.bind_some, ← nI_succ, add_0]
    by_cases q : T 3 < baT T A j
    · have q0 : (0 : Int32) < baT T A j - T 3 := by
        rcases ba_b hW (b := j) (by omega) (by omega) with ⟨g1, g2⟩ | ⟨s, r, g0, g1, g2, g3, g4, g5, g6⟩
        · rw [g2, e3] at q; exact absurd q (n_neg (by omega))
        · rw [g6, e3] at q
          have q' := (n_lt (by omega) (by omega)).mp q
          rw [g6]
          conv => rhs; rw [e3]
          rw [n_sub (by omega), n_lit 0, n_lt (by omega) (by omega)]; omega
      rw [if_pos q, if_pos q, if_pos q0]; exact st _
    · rw [if_neg q, if_neg q, if_neg (show ¬ (0 : Int32) < 0 from Int32.lt_irrefl)]; exact st _
theorem op_rest (a : Int32) : Op (agr [1, 2]) (fX9_rest a) (fX10_rest a) := by
  refine opL (d0 := 0) rfl (F := fun hp => if a < 1 then (fX9_rest_20 a hp) else (if 9999 < a then (fX9_rest_20 a hp) else (fX9_rest_21 a 1 hp))) (G := fun hm => (fX10_in a 1 9999 hm).bind fun v10 => if v10 = 0 then (fX10_rest_24 a 1 hm) else (fX10_rest_24 a 0 hm)) (fun hc => rfl) ?_ ?_ ?_
  · intro hm q
    simp only [fX10_rest]
    rw [nl_1 q, Option.bind_some, if_neg n10]
  · intro hm q
    simp only [fX10_rest]
    rw [nl_0 q, Option.bind_some, if_pos rfl]
  · intro tb hc hm sz wn os hs nb ht hv l1 T hT h0
    rcases rng a 1 9999 (by omega) (by omega) with ⟨k, k1, k2, rfl⟩ | ho
    · refine change_p hv l1 hT h0 (C1 := fun hp6 => fX9_rest_48 (up hp6 (3, 0, 0) 6 ((hp6 (3, 0, 0) 6) + nI k))) (M1 := fun hp7 => fX10_rest_51 FU 0 0 (up hp7 (11, 22, 0) 3 ((hp7 (11, 22, 0) 3) + nI k))) ?_ ?_ ?_
      · show (if nI k < nI 1 then (fX9_rest_20 (nI k) hc) else (if nI 9999 < nI k then (fX9_rest_20 (nI k) hc) else (fX9_rest_21 (nI k) 1 hc))) = _
        rw [if_neg (show ¬ nI k < nI 1 by rw [n_lt (by omega) (by omega)]; omega), if_neg (show ¬ nI 9999 < nI k by rw [n_lt (by omega) (by omega)]; omega)]; rfl
      · show (fX10_in (nI k) (nI 1) (nI 9999) hm).bind (fun v10 => if v10 = 0 then (fX10_rest_24 (nI k) 1 hm) else (fX10_rest_24 (nI k) 0 hm)) = _
        rw [in_yes (show ¬ nI k < nI 1 by rw [n_lt (by omega) (by omega)]; omega) (show ¬ nI 9999 < nI k by rw [n_lt (by omega) (by omega)]; omega), Option.bind_some, if_neg n10]
        simp only [fX10_rest_24]
        rw [rf_no h0, Option.bind_some, if_pos rfl]
      intro hd hn os1 hs1 hv1 hT1 l11 h01 hL hA
      have hf := FU_ge
      have hS1 := Iv_WF hv1 l11 hT1
      have hW1 := hS1.2.2.2
      have hM1 := St_MR hS1
      have hnb := hW1.nb
      have hti := hW1.ti
      have e3 : T 3 = nI (tn (T 3)) := hti.1
      have hx : T 3 + nI k = nI (tn (T 3) + k) := by rw [← n_add, ← e3]
      have hM2 : MR True hd (up hd (3, 0, 0) 6 (hd (3, 0, 0) 6 + nI k)) 0 (uT T 3 (T 3 + nI k)) (hn (11, 20, 0)) (hn (11, 21, 0)) nb := by
        rw [hM1.1.a5]; exact MR_tim hM1
      have hW2 : WF (tb + 9999) (uT T 3 (T 3 + nI k)) (hn (11, 20, 0)) (hn (11, 21, 0)) nb := WF_tim hW1 (by rw [hx]; exact isN_n (by omega)) (by rw [hx, n_t (by omega)]; omega) (by rw [hx, n_t (by omega)]; omega)
      have hl : LA hn (hn (11, 20, 0)) (hn (11, 21, 0)) nb := ⟨rfl, rfl, hv1.nb⟩
      obtain ⟨v, v1, v2⟩ := rest_aux hM2 hl hW2 (by omega) nb 0 FU FU 0 (by omega) (by omega) (by omega)
      have eu : up hn (11, 22, 0) 3 (hn (11, 22, 0) 3 + nI k) = rwm hn (uT T 3 (T 3 + nI k)) := by
        have := rwm_up (hm := hn) (T := T) (k := 3) (x := T 3 + nI k)
        rw [rwm_T hT1] at this
        rw [hT1]; exact this
      refine ⟨v, up hd (3, 0, 0) 6 (hd (3, 0, 0) 6 + nI k), rwm hn (uT T 3 (T 3 + nI k)), ?_, ?_, ?_, ?_⟩
      · show (fX0_notBackAt_4 FU 0 ((up hd (3, 0, 0) 6 (hd (3, 0, 0) 6 + nI k)) (3, 0, 0) 6) 0 (nI 0) (up hd (3, 0, 0) 6 (hd (3, 0, 0) 6 + nI k))).bind (fun v1 => some ((Sum.inl v1), up hd (3, 0, 0) 6 (hd (3, 0, 0) 6 + nI k))) = _
        rw [hM2.1.a5, show fX0_notBackAt_4 FU 0 _ 0 (nI 0) _ = _ from v1, Option.bind_some]
      · show fX10_rest_51 FU 0 (nI 0) (up hn (11, 22, 0) 3 (hn (11, 22, 0) 3 + nI k)) = _
        rw [eu]; exact v2
      · rw [rwm_n (by decide)]; exact h01
      · exact fin_now (tb' := tb + 9999) hv1 hM2 ⟨by rw [up_o (by simp), uT_n (by omega)]; exact hS1.2.2.1.1, by rw [up_o (by simp), uT_n (by omega)]; exact hS1.2.2.1.2⟩ hW2 (fun _ _ _ => rfl) (fun _ _ _ => rfl) (by omega) (by omega)
    · refine OpI_throw hv (E := 2) (i := 1) rfl ?_ ?_
      · have r : fX9_rest_20 a hc = some (.inr 2, hc) := rfl
        show (if a < nI 1 then (fX9_rest_20 a hc) else (if nI 9999 < a then (fX9_rest_20 a hc) else (fX9_rest_21 a 1 hc))) = _
        rw [r]
        by_cases q : a < nI 1
        · rw [if_pos q]
        · rw [if_neg q, if_pos (ho.resolve_left q)]
      · show (fX10_in a (nI 1) (nI 9999) hm).bind (fun v10 => if v10 = 0 then (fX10_rest_24 a 1 hm) else (fX10_rest_24 a 0 hm)) = _
        rw [in_no ho, Option.bind_some, if_pos rfl]
        simp only [fX10_rest_24]
        rw [rf_yes h0 (show ¬ (2 : Int32) = 0 by decide), Option.bind_some, if_neg n10]; rfl
/-- a new ribbon -/
def rbT (T : Tr0) : Tr0 := fun j => if j = 8 then 1 else (if j = 7 then 0 else (if 130 ≤ j ∧ j < 190 then (if j < 130 + tn (T 18) then T 19 else 0) else T j))
theorem ribbon_aux (hW : WF tb T L A nb) : ∀ (k j n : Nat) (S : Tr0), j + k = 60 → k < n → (∀ i, (i < 130 ∨ 190 ≤ i) → S i = T i) → (∀ i, i < j → S (130 + i) = if i < tn (T 18) then T 19 else 0) → fX10_fillsRibbon_2 n (nI j) (rwm hm S) = some (rwm hm (rbT T)) := by
  have hlg := hW.lg
  have e18 : T 18 = nI (tn (T 18)) := hlg.1
  intro k
  induction k with
  | zero =>
    intro j n S hj hn hS1 hS2
    obtain ⟨n, rfl⟩ : ∃ q, n = q + 1 := ⟨n - 1, by omega⟩
    have g : ¬ nI j < (60 : Int32) := by show ¬ nI j < nI 60; rw [n_lt (by omega) (by omega)]; omega
    simp only [fX10_fillsRibbon_2]
    rw [if_neg g, rwm_up, rwm_up]
    congr 2
    funext i
    unfold rbT uT
    by_cases q8 : i = 8
    · rw [if_pos q8, if_pos q8]
    · rw [if_neg q8, if_neg q8]
      by_cases q7 : i = 7
      · rw [if_pos q7, if_pos q7]
      · rw [if_neg q7, if_neg q7]
        by_cases q : 130 ≤ i ∧ i < 190
        · rw [if_pos q]
          have := hS2 (i - 130) (by omega)
          rw [show 130 + (i - 130) = i by omega] at this
          rw [this]
          by_cases q2 : i < 130 + tn (T 18)
          · rw [if_pos q2, if_pos (by omega)]
          · rw [if_neg q2, if_neg (by omega)]
        · rw [if_neg q]; exact hS1 i (by omega)
  | succ k ih =>
    intro j n S hj hn hS1 hS2
    obtain ⟨n, rfl⟩ : ∃ q, n = q + 1 := ⟨n - 1, by omega⟩
    have g : nI j < (60 : Int32) := by show nI j < nI 60; rw [n_lt (by omega) (by omega)]; omega
    have i130 : (130 + nI j) = nI (130 + j) := n_add 130 _
    have st : ∀ x : Int32, x = (if j < tn (T 18) then T 19 else 0) → fX10_fillsRibbon_2 n (nI (j + 1)) (rwm hm (uT S (130 + j) x)) = some (rwm hm (rbT T)) := by
      intro x hx
      refine ih (j + 1) n _ (by omega) (by omega) (fun i hi => by rw [uT_n (by omega)]; exact hS1 i hi) (fun i hi => ?_)
      by_cases q : i = j
      · rw [q, uT_e, hx]
      · rw [uT_n (by omega)]; exact hS2 i (by omega)
    simp only [fX10_fillsRibbon_2, fX10_fillsRibbon_37]
    rw [if_pos g, its_9, its_10, Option.bind_some, Option.bind_some, alen_r, i130, if_pos (inb_n (show 130 + j < wlen 22 by show _ < 1150; omega) (by decide)), n_c (by omega), rwm_up, rwm_up, ← nI_succ, hS1 18 (by omega), hS1 19 (by omega), e18]
    by_cases q : j < tn (T 18)
    · rw [if_pos (show nI j < nI (tn (T 18)) by rw [n_lt (by omega) (by omega)]; exact q)]
      exact st _ (by rw [if_pos q])
    · rw [if_neg (show ¬ nI j < nI (tn (T 18)) by rw [n_lt (by omega) (by omega)]; exact q), if_pos (inb_n (show 130 + j < wlen 22 by show _ < 1150; omega) (by decide))]
      exact st _ (by rw [if_neg q])
theorem rbT_o {T : Tr0} {j : Nat} (h : j < 130 ∨ 190 ≤ j) (h7 : j ≠ 7) (h8 : j ≠ 8) : rbT T j = T j := by
  unfold rbT; rw [if_neg h8, if_neg h7, if_neg (by omega)]
theorem WF_rbT (hW : WF tb T L A nb) : WF tb (rbT T) L A nb := by
  have hlg := hW.lg
  have hik := hW.ik
  have hnb := hW.nb
  have e : ∀ j, (j < 130 ∨ 190 ≤ j) → j ≠ 7 → j ≠ 8 → rbT T j = T j := fun j a b c => rbT_o a b c
  intro i
  match i with
  | 15 => exact ⟨by show isN (0 : Int32); exact isN_n (k := 0) (by omega), by show tn (0 : Int32) < tn (T 18); have : tn (0 : Int32) = 0 := rfl; omega⟩
  | 16 => exact Or.inr rfl
  | 22 =>
    intro k hk
    have : rbT T (130 + k) = if 130 + k < 130 + tn (T 18) then T 19 else 0 := by unfold rbT; rw [if_neg (by omega), if_neg (by omega), if_pos (by omega)]
    rw [this]
    split
    · exact ⟨hik.1, hik.2.2⟩
    · exact ⟨isN_n (k := 0) (by omega), by decide⟩
  | 0 => exact hW 0
  | 1 => exact hW 1
  | 2 => exact hW 2
  | 3 => exact hW 3
  | 4 => exact hW 4
  | 5 => exact hW 5
  | 6 => exact hW 6
  | 7 => exact hW 7
  | 8 => exact hW 8
  | 9 => exact hW 9
  | 10 => exact hW 10
  | 11 => exact hW 11
  | 12 => exact hW 12
  | 13 => exact hW 13
  | 14 => exact hW 14
  | 17 => exact hnb
  | 18 => intro b hb; rw [e _ (by omega) (by omega) (by omega)]; exact hW.st b hb
  | 19 => exact hW.le
  | 20 => exact hW.an
  | 21 => intro c hc; rw [e _ (by omega) (by omega) (by omega)]; exact hW.sp c hc
  | 23 => intro l c hl hc; rw [e _ (by omega) (by omega) (by omega)]; exact hW.sn l c hl hc
  | 24 => intro l c hl hc h; rw [e _ (by omega) (by omega) (by omega), e _ (by omega) (by omega) (by omega)]; exact hW.em l c hl hc h
  | 25 => intro l c hl hc; rw [e _ (by omega) (by omega) (by omega)]; exact hW.dk l c hl hc
  | n + 26 => exact trivial
/-- the class's new ribbon -/
theorem c_renew {h0 : HP} {m : Nat} (h : MR True h0 hc m T L A nb) : ∃ hc', fX6_renew m hc = some hc' ∧ MR True h0 hc' m (rbT T) L A nb ∧ (∀ r, r ≠ (11, 1, m) → r ≠ (6, 0, m) → hc' r = hc r) := by
  have e : fX6_renew m hc = some (up (up (FI hc 1 m (T 19)) (6, 0, m) 2 0) (6, 0, m) 3 1) := by
    show (fX7_at 0 m 10 hc).bind (fun v1 => (fX7_fill 1 m v1 hc).bind fun hp4 => some (up (up hp4 (6, 0, m) 2 0) (6, 0, m) 3 1)) = _
    rw [c_s10 h, Option.bind_some, fill_eq, Option.bind_some]
  have fr : ∀ r, r ≠ (11, 1, m) → r ≠ (6, 0, m) → (up (up (FI hc 1 m (T 19)) (6, 0, m) 2 0) (6, 0, m) 3 1) r = hc r := fun r a b => by rw [up_n b, up_n b, FI_o a]
  obtain ⟨hM, hF, hR, hnb, hw9, hw18⟩ := h
  have hF := hF trivial
  have s : ∀ r k, r ≠ (11, 1, m) → r ≠ (6, 0, m) → (up (up (FI hc 1 m (T 19)) (6, 0, m) 2 0) (6, 0, m) 3 1) r k = hc r k := fun r k a b => congrFun (fr r a b) k
  refine ⟨_, e, ⟨?_, fun _ => ?_, ?_, hnb, hw9, hw18⟩, fr⟩
  · intro i
    match i with
    | 0 => exact fun k hk => by rw [s _ _ (by simp) (by simp), rbT_o (by omega) (by omega) (by omega)]; exact hM.a0 k hk
    | 1 => exact fun k hk => by rw [s _ _ (by simp) (by simp), rbT_o (by omega) (by omega) (by omega)]; exact hM.a1 k hk
    | 2 => exact (s (1, 0, m) 2 (by simp) (by simp)).trans hM.a2
    | 3 => exact (s (1, 0, m) 3 (by simp) (by simp)).trans hM.a3
    | 4 => exact (s (1, 0, m) 4 (by simp) (by simp)).trans hM.a4
    | 5 => exact (s (3, 0, m) 6 (by simp) (by simp)).trans hM.a5
    | 6 => exact (s (0, 0, m) 5 (by simp) (by simp)).trans hM.a6
    | 7 => exact (s (0, 0, m) 6 (by simp) (by simp)).trans hM.a7
    | 8 => exact (s (0, 0, m) 7 (by simp) (by simp)).trans hM.a8
    | 9 => exact (s (0, 0, m) 8 (by simp) (by simp)).trans hM.a9
    | 10 => exact fun k hk => by rw [s _ _ (by simp) (by simp)]; exact hM.a10 k hk
    | 11 => exact fun k hk => by rw [s _ _ (by simp) (by simp)]; exact hM.a11 k hk
    | 12 => exact fun k hk => by rw [s _ _ (by simp) (by simp), rbT_o (by omega) (by omega) (by omega)]; exact hM.a12 k hk
    | 13 => exact fun k hk => by rw [s _ _ (by simp) (by simp), rbT_o (by omega) (by omega) (by omega)]; exact hM.a13 k hk
    | 14 => show isB ((up (up (FI hc 1 m (T 19)) (6, 0, m) 2 0) (6, 0, m) 3 1) (6, 0, m) 3) = true; rw [up_s]; decide
    | n + 15 => exact trivial
  · intro i
    match i with
    | 0 =>
      intro k hk
      have hk : k < tn (T 18) := hk
      have : rbT T (130 + k) = T 19 := by unfold rbT; rw [if_neg (by omega), if_neg (by omega), if_pos (by omega), if_pos (by omega)]
      rw [this, up_n (by simp), up_n (by simp), FI_s (show k < 60 by omega)]
    | 1 => show (up (up (FI hc 1 m (T 19)) (6, 0, m) 2 0) (6, 0, m) 3 1) (6, 0, m) 2 = 0; rw [up_o (by simp)]; exact up_s
    | 2 => exact up_s
    | 3 => show (up (up (FI hc 1 m (T 19)) (6, 0, m) 2 0) (6, 0, m) 3 1) (6, 0, m) 4 = T 33; rw [up_o (by simp), up_o (by simp), FI_o (by simp)]; exact hF.a3
    | 4 => exact fun k a b c => by rw [s _ _ (by simp) (by simp), rbT_o (by omega) (by omega) (by omega)]; exact hF.a4 k a b c
    | 5 => intro l c a b; rw [s _ _ (by simp) (by simp), rbT_o (j := 190 + 40 * l + c) (by omega) (by omega) (by omega)]; exact hF.a5 l c a b
    | 6 => intro l c a b; rw [s _ _ (by simp) (by simp), rbT_o (j := 670 + 40 * l + c) (by omega) (by omega) (by omega)]; exact hF.a6 l c a b
    | n + 7 => exact trivial
  · intro r hr
    rw [fr r (fun q => hr (by rw [q]; unfold ofm; simp)) (fun q => hr (by rw [q]; unfold ofm; simp))]; exact hR r hr
theorem op_newRibbon : Op (agr [1]) fX9_newRibbon fX10_newRibbon := by
  refine opL (d0 := 0) rfl (F := fun hp => (fX2_keep 0 hp).bind fun hp5 => (fX6_allInk 0 hp5).bind fun v6 => (fX6_renew 0 hp5).bind fun hp9 => some ((.inl v6), hp9)) (G := fun hm => (fX10_keepsAll hm).bind fun hp5 => (fX10_allInk hp5).bind fun v6 => (fX10_fillsRibbon hp5).bind fun hp9 => some (v6, hp9)) (fun hc => rfl) ?_ ?_ ?_
  · intro hm q
    simp only [fX10_newRibbon]
    rw [nl_1 q, Option.bind_some, if_neg n10]
  · intro hm q
    simp only [fX10_newRibbon]
    rw [nl_0 q, Option.bind_some, if_pos rfl]
  · intro tb hc hm sz wn os hs nb ht hv l1 T hT h0
    refine change_p hv l1 hT h0 rfl rfl ?_
    intro hd hn os1 hs1 hv1 hT1 l11 h01 hL hA
    have hf := FU_ge
    have hS1 := Iv_WF hv1 l11 hT1
    have hW1 := hS1.2.2.2
    have hM1 := St_MR hS1
    obtain ⟨v, v1, v2, _⟩ := allInk_p (hm := hn) hM1 hW1
    rw [rwm_T hT1] at v2
    obtain ⟨hd1, d1, d2, d3⟩ := c_renew hM1
    have mr := ribbon_aux (hm := hn) hW1 60 0 FU T (by omega) (by omega) (fun _ _ => rfl) (fun i hi => absurd hi (by omega))
    rw [rwm_T hT1] at mr
    refine ⟨v, hd1, rwm hn (rbT T), ?_, ?_, ?_, ?_⟩
    · show (fX6_allInk 0 hd).bind (fun v6 => (fX6_renew 0 hd).bind fun hp9 => some ((Sum.inl v6), hp9)) = _
      rw [v1, d1, Option.bind_some, Option.bind_some]
    · show (fX10_allInk hn).bind (fun v6 => (fX10_fillsRibbon_2 FU (nI 0) hn).bind fun hp9 => some (v6, hp9)) = _
      rw [v2, mr, Option.bind_some, Option.bind_some]
    · rw [rwm_n (by decide)]; exact h01
    · exact fin_now (tb' := tb) hv1 d2 ⟨by rw [d3 _ (by simp) (by simp)]; exact hS1.2.2.1.1, by rw [d3 _ (by simp) (by simp)]; exact hS1.2.2.1.2⟩ (WF_rbT hW1) (fun _ _ _ => rfl) (fun _ _ _ => rfl) (by omega) (by omega)
/-- a new page -/
def pgT (T : Tr0) : Tr0 := uT (uT (uT (fun j => if 190 ≤ j ∧ j < 1150 then 0 else T j) 0 0) 1 (T 11)) 2 0
theorem page_aux (x : Int32) : ∀ (k j n : Nat) (S : Tr0), j + k = 480 → k < n → (∀ i, (i < 190 ∨ 1150 ≤ i) → S i = T i) → (∀ i, i < j → S (190 + i) = 0 ∧ S (670 + i) = 0) → fX10_newPage_20 n x (nI j) (rwm hm S) = some (x, rwm hm (pgT T)) := by
  intro k
  induction k with
  | zero =>
    intro j n S hj hn hS1 hS2
    obtain ⟨n, rfl⟩ : ∃ q, n = q + 1 := ⟨n - 1, by omega⟩
    have g : ¬ nI j < (480 : Int32) := by show ¬ nI j < nI 480; rw [n_lt (by omega) (by omega)]; omega
    have eS : S = fun j => if 190 ≤ j ∧ j < 1150 then 0 else T j := by
      funext i
      by_cases q : 190 ≤ i ∧ i < 1150
      · rw [if_pos q]
        by_cases q2 : i < 670
        · have := (hS2 (i - 190) (by omega)).1
          rw [show 190 + (i - 190) = i by omega] at this; exact this
        · have := (hS2 (i - 670) (by omega)).2
          rw [show 670 + (i - 670) = i by omega] at this; exact this
      · rw [if_neg q]; exact hS1 i (by omega)
    simp only [fX10_newPage_20]
    rw [if_neg g, rwm_up, its_2, Option.bind_some, rwm_up, rwm_up, uT_n (show 9 + 2 ≠ 0 by decide), hS1 (9 + 2) (by omega), eS]; rfl
  | succ k ih =>
    intro j n S hj hn hS1 hS2
    obtain ⟨n, rfl⟩ : ∃ q, n = q + 1 := ⟨n - 1, by omega⟩
    have g : nI j < (480 : Int32) := by show nI j < nI 480; rw [n_lt (by omega) (by omega)]; omega
    have i190 : (190 + nI j) = nI (190 + j) := n_add 190 _
    have i670 : (670 + nI j) = nI (670 + j) := n_add 670 _
    simp only [fX10_newPage_20]
    rw [if_pos g, alen_r, i190, i670, if_pos (inb_n (show 190 + j < wlen 22 by show _ < 1150; omega) (by decide)), if_pos (inb_n (show 670 + j < wlen 22 by show _ < 1150; omega) (by decide)), n_c (by omega), n_c (by omega), rwm_up, rwm_up, ← nI_succ]
    refine ih (j + 1) n _ (by omega) (by omega) (fun i hi => by rw [uT_n (by omega), uT_n (by omega)]; exact hS1 i hi) (fun i hi => ?_)
    by_cases q : i = j
    · rw [q]; exact ⟨by rw [uT_n (by omega), uT_e], uT_e⟩
    · rw [uT_n (by omega), uT_n (by omega), uT_n (by omega), uT_n (by omega)]; exact hS2 i (by omega)
theorem pgT_o {T : Tr0} {j : Nat} (h : 2 < j) (h' : j < 190 ∨ 1150 ≤ j) : pgT T j = T j := by
  unfold pgT; rw [uT_n (by omega), uT_n (by omega), uT_n (by omega), if_neg (by omega)]
theorem pgT_z {T : Tr0} {j : Nat} (h' : 190 ≤ j ∧ j < 1150) : pgT T j = 0 := by
  unfold pgT; rw [uT_n (by omega), uT_n (by omega), uT_n (by omega), if_pos h']
theorem WF_pgT (hW : WF tb T L A nb) : WF tb (pgT T) L A nb := by
  have hln := hW.ln
  have hmg := hW.mg
  have hnb := hW.nb
  have z : tn (0 : Int32) = 0 := rfl
  intro i
  match i with
  | 9 => exact ⟨isN_n (k := 0) (by omega), by show tn (0 : Int32) < tn (T 10); omega⟩
  | 10 => exact ⟨hmg.1, by show tn (T 11) ≤ tn (T 9); omega⟩
  | 11 => exact Or.inl rfl
  | 0 => exact hW 0
  | 1 => exact hW 1
  | 2 => exact hW 2
  | 3 => exact hW 3
  | 4 => exact hW 4
  | 5 => exact hW 5
  | 6 => exact hW 6
  | 7 => exact hW 7
  | 8 => exact hW 8
  | 12 => exact hW 12
  | 13 => exact hW 13
  | 14 => exact hW 14
  | 15 => exact hW 15
  | 16 => exact hW 16
  | 17 => exact hnb
  | 18 => intro b hb; rw [pgT_o (by omega) (by omega)]; exact hW.st b hb
  | 19 => exact hW.le
  | 20 => exact hW.an
  | 21 => intro c hc; rw [pgT_o (by omega) (by omega)]; exact hW.sp c hc
  | 22 => intro c hc; rw [pgT_o (by omega) (by omega)]; exact hW.ii c hc
  | 23 => intro l c hl hc; rw [pgT_z (by omega)]; decide
  | 24 => intro l c hl hc h; exact ⟨pgT_z (by omega), pgT_z (by omega)⟩
  | 25 => intro l c hl hc; rw [pgT_z (by omega)]; exact ⟨isN_n (k := 0) (by omega), by omega⟩
  | n + 26 => exact trivial
theorem c_newPage {h0 : HP} {m : Nat} (h : MR True h0 hc m T L A nb) : ∃ hc', ((fX4_clear m hc).bind fun hp9 => fX1_goHome m hp9) = some hc' ∧ MR True h0 hc' m (pgT T) L A nb ∧ (∀ r, r ≠ (11, 2, m) → r ≠ (11, 3, m) → r ≠ (1, 0, m) → hc' r = hc r) := by
  have o0 : (up (FI (FI hc 2 m 32) 3 m 0) (1, 0, m) 2 0) (11, 0, m) = hc (11, 0, m) := by rw [up_n (by simp), FI_o (by simp), FI_o (by simp)]
  have e : ((fX4_clear m hc).bind fun hp9 => fX1_goHome m hp9) = some (up (up (up (FI (FI hc 2 m 32) 3 m 0) (1, 0, m) 2 0) (1, 0, m) 3 (T 11)) (1, 0, m) 4 0) := by
    show ((fX7_fill 2 m 32 hc).bind (fun hp3 => (fX7_fill 3 m 0 hp3).bind fun hp6 => some hp6)).bind (fun hp9 => ((fX7_at 0 m (nI 2) (up hp9 (1, 0, m) 2 0)).bind fun v1 => some (up (up (up hp9 (1, 0, m) 2 0) (1, 0, m) 3 v1) (1, 0, m) 4 0)).bind fun hp3 => some hp3) = _
    rw [fill_eq, Option.bind_some, fill_eq, Option.bind_some, Option.bind_some, at_n (show 2 < wlen 0 by decide), Option.bind_some, Option.bind_some, o0, h.1.a0 2 (by omega)]
  have fr : ∀ r, r ≠ (11, 2, m) → r ≠ (11, 3, m) → r ≠ (1, 0, m) → (up (up (up (FI (FI hc 2 m 32) 3 m 0) (1, 0, m) 2 0) (1, 0, m) 3 (T 11)) (1, 0, m) 4 0) r = hc r := fun r a b c => by rw [up_n c, up_n c, up_n c, FI_o b, FI_o a]
  obtain ⟨hM, hF, hR, hnb, hw9, hw18⟩ := h
  have hF := hF trivial
  have s : ∀ r k, r ≠ (11, 2, m) → r ≠ (11, 3, m) → r ≠ (1, 0, m) → (up (up (up (FI (FI hc 2 m 32) 3 m 0) (1, 0, m) 2 0) (1, 0, m) 3 (T 11)) (1, 0, m) 4 0) r k = hc r k := fun r k a b c => congrFun (fr r a b c) k
  refine ⟨_, e, ⟨?_, fun _ => ?_, ?_, hnb, hw9, hw18⟩, fr⟩
  · intro i
    match i with
    | 0 => exact fun k hk => by rw [s _ _ (by simp) (by simp) (by simp), pgT_o (by omega) (by omega)]; exact hM.a0 k hk
    | 1 => exact fun k hk => by rw [s _ _ (by simp) (by simp) (by simp), pgT_o (by omega) (by omega)]; exact hM.a1 k hk
    | 2 => show (up (up (up (FI (FI hc 2 m 32) 3 m 0) (1, 0, m) 2 0) (1, 0, m) 3 (T 11)) (1, 0, m) 4 0) (1, 0, m) 2 = 0; rw [up_o (by simp), up_o (by simp)]; exact up_s
    | 3 => show (up (up (up (FI (FI hc 2 m 32) 3 m 0) (1, 0, m) 2 0) (1, 0, m) 3 (T 11)) (1, 0, m) 4 0) (1, 0, m) 3 = T 11; rw [up_o (by simp)]; exact up_s
    | 4 => exact up_s
    | 5 => exact (s (3, 0, m) 6 (by simp) (by simp) (by simp)).trans hM.a5
    | 6 => exact (s (0, 0, m) 5 (by simp) (by simp) (by simp)).trans hM.a6
    | 7 => exact (s (0, 0, m) 6 (by simp) (by simp) (by simp)).trans hM.a7
    | 8 => exact (s (0, 0, m) 7 (by simp) (by simp) (by simp)).trans hM.a8
    | 9 => exact (s (0, 0, m) 8 (by simp) (by simp) (by simp)).trans hM.a9
    | 10 => exact fun k hk => by rw [s _ _ (by simp) (by simp) (by simp)]; exact hM.a10 k hk
    | 11 => exact fun k hk => by rw [s _ _ (by simp) (by simp) (by simp)]; exact hM.a11 k hk
    | 12 => exact fun k hk => by rw [s _ _ (by simp) (by simp) (by simp), pgT_o (by omega) (by omega)]; exact hM.a12 k hk
    | 13 => exact fun k hk => by rw [s _ _ (by simp) (by simp) (by simp), pgT_o (by omega) (by omega)]; exact hM.a13 k hk
    | 14 => show isB ((up (up (up (FI (FI hc 2 m 32) 3 m 0) (1, 0, m) 2 0) (1, 0, m) 3 (T 11)) (1, 0, m) 4 0) (6, 0, m) 3) = true; rw [s _ _ (by simp) (by simp) (by simp)]; exact hM.a14
    | n + 15 => exact trivial
  · intro i
    match i with
    | 0 => intro k hk; have hk : k < tn (T 18) := hk; rw [s _ _ (by simp) (by simp) (by simp), pgT_o (by omega) (by omega)]; exact hF.a0 k hk
    | 1 => exact (s (6, 0, m) 2 (by simp) (by simp) (by simp)).trans hF.a1
    | 2 => exact (s (6, 0, m) 3 (by simp) (by simp) (by simp)).trans hF.a2
    | 3 => exact (s (6, 0, m) 4 (by simp) (by simp) (by simp)).trans hF.a3
    | 4 => exact fun k a b c => by rw [s _ _ (by simp) (by simp) (by simp), pgT_o (by omega) (by omega)]; exact hF.a4 k a b c
    | 5 =>
      intro l c a b
      have b : c < tn (T 9) := b
      have e9 : pgT T 9 = T 9 := rfl
      rw [e9, pgT_z (by omega), up_n (by simp), up_n (by simp), up_n (by simp), FI_o (by simp), FI_s (show _ < 480 from plc_lt a b hw9)]; rfl
    | 6 =>
      intro l c a b
      have b : c < tn (T 9) := b
      have e9 : pgT T 9 = T 9 := rfl
      rw [e9, pgT_z (by omega), up_n (by simp), up_n (by simp), up_n (by simp), FI_s (show _ < 480 from plc_lt a b hw9)]
    | n + 7 => exact trivial
  · intro r hr
    rw [fr r (fun q => hr (by rw [q]; unfold ofm; simp)) (fun q => hr (by rw [q]; unfold ofm; simp)) (fun q => hr (by rw [q]; unfold ofm; simp))]; exact hR r hr
theorem op_newPage : Op (agr [1]) fX9_newPage fX10_newPage := by
  refine opL (d0 := 0) rfl (F := fun hp => (fX2_keep 0 hp).bind fun hp5 => (fX4_filledPlaces 0 hp5).bind fun v6 => (fX4_clear 0 hp5).bind fun hp9 => (fX1_goHome 0 hp9).bind fun hp12 => some ((.inl v6), hp12)) (G := fun hm => (fX10_keepsAll hm).bind fun hp6 => (fX10_filled hp6).bind fun v7 => fX10_newPage_20 FU v7 0 hp6) (fun hc => rfl) ?_ ?_ ?_
  · intro hm q
    simp only [fX10_newPage]
    rw [nl_1 q, Option.bind_some, if_neg n10]
  · intro hm q
    simp only [fX10_newPage]
    rw [nl_0 q, Option.bind_some, if_pos rfl]
  · intro tb hc hm sz wn os hs nb ht hv l1 T hT h0
    refine change_p hv l1 hT h0 rfl rfl ?_
    intro hd hn os1 hs1 hv1 hT1 l11 h01 hL hA
    have hf := FU_ge
    have hS1 := Iv_WF hv1 l11 hT1
    have hW1 := hS1.2.2.2
    have hM1 := St_MR hS1
    obtain ⟨z, z1, z2, z3⟩ := fill_p (hm := hn) hM1 hW1
    rw [rwm_T hT1] at z3
    obtain ⟨hd1, d1, d2, d3⟩ := c_newPage hM1
    have mr := page_aux (hm := hn) (T := T) (nI z) 480 0 FU T (by omega) (by omega) (fun _ _ => rfl) (fun i hi => absurd hi (by omega))
    rw [rwm_T hT1] at mr
    refine ⟨nI z, hd1, rwm hn (pgT T), ?_, ?_, ?_, ?_⟩
    · show (fX4_filledPlaces 0 hd).bind (fun v6 => (fX4_clear 0 hd).bind fun hp9 => (fX1_goHome 0 hp9).bind fun hp12 => some ((Sum.inl v6), hp12)) = _
      rw [z2, Option.bind_some, ← Option.bind_assoc, d1, Option.bind_some]
    · show (fX10_filled hn).bind (fun v7 => fX10_newPage_20 FU v7 (nI 0) hn) = _
      rw [z3, Option.bind_some]; exact mr
    · rw [rwm_n (by decide)]; exact h01
    · exact fin_now (tb' := tb) hv1 d2 ⟨by rw [d3 _ (by simp) (by simp) (by simp)]; exact hS1.2.2.1.1, by rw [d3 _ (by simp) (by simp) (by simp)]; exact hS1.2.2.1.2⟩ (WF_pgT hW1) (fun _ _ _ => rfl) (fun _ _ _ => rfl) (by omega) (by omega)
end
