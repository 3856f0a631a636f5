/-! ===== looks: counts, settings, bars, ribbon, signs ===== -/
section
variable {hc hm h0 : HP} {T L A : Tr0} {tb nb m : Nat} {F : Prop}
theorem stops_aux (h : MR F h0 hc m T L A nb) (hW : WF tb T L A nb) : ∀ (k j n n' : Nat) (acc : Int32), j + k = tn (T 9) → k < n → k < n' → ∃ v, fX1_stopsSet_4 n m acc (nI j) hc = some v ∧ fX10_stops_4 n' acc (nI j) (rwm hm T) = some v := by
  have hw := hW.w
  have e9 : T 9 = nI (tn (T 9)) := hw.1
  intro k
  induction k with
  | zero =>
    intro j n n' acc hj hn hn'
    obtain ⟨n, rfl⟩ : ∃ q, n = q + 1 := ⟨n - 1, by omega⟩
    obtain ⟨n', rfl⟩ : ∃ q, n' = q + 1 := ⟨n' - 1, by omega⟩
    have g : ¬ nI j < nI (tn (T 9)) := by rw [n_lt (by omega) (by omega)]; omega
    refine ⟨acc, ?_, ?_⟩
    · simp only [fX1_stopsSet_4]; rw [c_s0 h, Option.bind_some, e9, if_neg g]
    · simp only [fX10_stops_4]; rw [its_0, Option.bind_some, e9, if_neg g]
  | succ k ih =>
    intro j n n' acc hj hn hn'
    obtain ⟨n, rfl⟩ : ∃ q, n = q + 1 := ⟨n - 1, by omega⟩
    obtain ⟨n', rfl⟩ : ∃ q, n' = q + 1 := ⟨n' - 1, by omega⟩
    have g : nI j < nI (tn (T 9)) := by rw [n_lt (by omega) (by omega)]; omega
    have i90 : (90 + nI j) = nI (90 + j) := n_add 90 _
    simp only [fX1_stopsSet_4, fX10_stops_4, fX1_stopsSet_27]
    rw [c_s0 h, its_0, Option.bind_some, Option.bind_some, e9, if_pos g, if_pos g, c_stopsAt h (by omega), Option.bind_some, alen_r, i90, if_pos (inb_n (show 90 + j < wlen 22 by show _ < 1150; omega) (by decide)), n_c (by omega), rwm_e, ← nI_succ]
    rcases hW.sp j (by omega) with q | q
    · rw [if_pos q, if_pos rfl, q, add_0]; exact ih (j + 1) n n' acc (by omega) (by omega) (by omega)
    · rw [if_neg (by rw [q]; decide), q]; exact ih (j + 1) n n' (acc + 1) (by omega) (by omega) (by omega)
theorem stops_p (h : MR F h0 hc m T L A nb) (hW : WF tb T L A nb) : ∃ v, fX1_stopsSet m hc = some v ∧ fX10_stops (rwm hm T) = some v := by
  have := FU_ge
  have hw := hW.w
  exact stops_aux h hW (tn (T 9)) 0 FU FU 0 (by omega) (by omega) (by omega)
theorem allInk_aux (h : MR True h0 hc m T L A nb) (hW : WF tb T L A nb) : ∀ (k j n n' : Nat) (acc : Int32), j + k = tn (T 18) → k < n → k < n' → acc.toInt ≤ 9 * j → 0 ≤ acc.toInt → ∃ v, fX6_allInk_4 n m acc (nI j) hc = some v ∧ fX10_allInk_4 n' acc (nI j) (rwm hm T) = some v ∧ 0 ≤ v.toInt ∧ v.toInt ≤ 9 * tn (T 18) := by
  have hlg := hW.lg
  have e18 : T 18 = nI (tn (T 18)) := hlg.1
  intro k
  induction k with
  | zero =>
    intro j n n' acc hj hn hn' ha ha0
    obtain ⟨n, rfl⟩ : ∃ q, n = q + 1 := ⟨n - 1, by omega⟩
    obtain ⟨n', rfl⟩ : ∃ q, n' = q + 1 := ⟨n' - 1, by omega⟩
    have g : ¬ nI j < nI (tn (T 18)) := by rw [n_lt (by omega) (by omega)]; omega
    refine ⟨acc, ?_, ?_, ha0, by omega⟩
    · simp only [fX6_allInk_4]; rw [c_s9 h, Option.bind_some, e18, if_neg g]
    · simp only [fX10_allInk_4]; rw [its_9, Option.bind_some, e18, if_neg g]
  | succ k ih =>
    intro j n n' acc hj hn hn' ha ha0
    obtain ⟨n, rfl⟩ : ∃ q, n = q + 1 := ⟨n - 1, by omega⟩
    obtain ⟨n', rfl⟩ : ∃ q, n' = q + 1 := ⟨n' - 1, by omega⟩
    have g : nI j < nI (tn (T 18)) := by rw [n_lt (by omega) (by omega)]; omega
    have i130 : (130 + nI j) = nI (130 + j) := n_add 130 _
    have hi := hW.ii j (by omega)
    have ei := isN_i hi.1
    simp only [fX6_allInk_4, fX10_allInk_4]
    rw [c_s9 h, its_9, Option.bind_some, Option.bind_some, e18, if_pos g, if_pos g, at_n (show j < wlen 1 by show j < 60; omega), Option.bind_some, (h.2.1 trivial).a0 j (by omega), alen_r, i130, if_pos (inb_n (show 130 + j < wlen 22 by show _ < 1150; omega) (by decide)), n_c (by omega), rwm_e, ← nI_succ]
    have es : (acc + T (130 + j)).toInt = acc.toInt + (T (130 + j)).toInt := add_s (by omega) (by omega)
    rw [n_t (tn_lt (T 18))]
    exact ih (j + 1) n n' (acc + T (130 + j)) (by omega) (by omega) (by omega) (by omega) (by omega)
theorem allInk_p (h : MR True h0 hc m T L A nb) (hW : WF tb T L A nb) : ∃ v, fX6_allInk m hc = some v ∧ fX10_allInk (rwm hm T) = some v ∧ 0 ≤ v.toInt ∧ v.toInt ≤ 9 * tn (T 18) := by
  have := FU_ge
  have hlg := hW.lg
  exact allInk_aux h hW (tn (T 18)) 0 FU FU 0 (by omega) (by omega) (by omega) (by decide) (by decide)
theorem dry_aux (h : MR True h0 hc m T L A nb) (hW : WF tb T L A nb) : ∀ (k j n n' : Nat) (acc : Int32), j + k = tn (T 18) → k < n → k < n' → ∃ v, fX6_dryPlaces_4 n m acc (nI j) hc = some v ∧ fX10_dryPlaces_4 n' acc (nI j) (rwm hm T) = some v := by
  have hlg := hW.lg
  have e18 : T 18 = nI (tn (T 18)) := hlg.1
  intro k
  induction k with
  | zero =>
    intro j n n' acc hj hn hn'
    obtain ⟨n, rfl⟩ : ∃ q, n = q + 1 := ⟨n - 1, by omega⟩
    obtain ⟨n', rfl⟩ : ∃ q, n' = q + 1 := ⟨n' - 1, by omega⟩
    have g : ¬ nI j < nI (tn (T 18)) := by rw [n_lt (by omega) (by omega)]; omega
    refine ⟨acc, ?_, ?_⟩
    · simp only [fX6_dryPlaces_4]; rw [c_s9 h, Option.bind_some, e18, if_neg g]
    · simp only [fX10_dryPlaces_4]; rw [its_9, Option.bind_some, e18, if_neg g]
  | succ k ih =>
    intro j n n' acc hj hn hn'
    obtain ⟨n, rfl⟩ : ∃ q, n = q + 1 := ⟨n - 1, by omega⟩
    obtain ⟨n', rfl⟩ : ∃ q, n' = q + 1 := ⟨n' - 1, by omega⟩
    have g : nI j < nI (tn (T 18)) := by rw [n_lt (by omega) (by omega)]; omega
    have i130 : (130 + nI j) = nI (130 + j) := n_add 130 _
    simp only [fX6_dryPlaces_4, fX10_dryPlaces_4, fX6_dryPlaces_31, fX10_dryPlaces_33, flag_1, flag_0, Option.bind_some]
    rw [c_s9 h, its_9, Option.bind_some, Option.bind_some, e18, if_pos g, if_pos g, at_n (show j < wlen 1 by show j < 60; omega), Option.bind_some, (h.2.1 trivial).a0 j (by omega), alen_r, i130, if_pos (inb_n (show 130 + j < wlen 22 by show _ < 1150; omega) (by decide)), n_c (by omega), rwm_e, ← nI_succ]
    by_cases q : T (130 + j) = 0
    · rw [if_pos q, if_pos q]; exact ih (j + 1) n n' (acc + 1) (by omega) (by omega) (by omega)
    · rw [if_neg q, if_neg q, add_0]; exact ih (j + 1) n n' acc (by omega) (by omega) (by omega)
theorem dry_p (h : MR True h0 hc m T L A nb) (hW : WF tb T L A nb) : ∃ v, fX6_dryPlaces m hc = some v ∧ fX10_dryPlaces (rwm hm T) = some v := by
  have := FU_ge
  have hlg := hW.lg
  exact dry_aux h hW (tn (T 18)) 0 FU FU 0 (by omega) (by omega) (by omega)
end
section
theorem op_count (a : Int32) : Look [1, 2] (fX9_count a) (fX10_count a) := by
  refine lookL (d0 := 0) rfl (F := fun hc => if a < 0 then (fX9_count_18 a hc) else (if a < 14 then (fX9_count_19 a 1 hc) else (fX9_count_18 a hc))) (G := fun hm => (fX10_in a 0 13 hm).bind fun v6 => if v6 = 0 then (fX10_count_23 a 1 hm) else (fX10_count_23 a 0 hm)) (fun hc => rfl) ?_ ?_ ?_
  · intro hm q
    simp only [fX10_count]
    rw [nl_1 q, Option.bind_some, if_neg n10]
  · intro hm q
    simp only [fX10_count]
    rw [nl_0 q, Option.bind_some, if_pos rfl]
  · intro tb hc hm T L A nb ht hL h0
    obtain ⟨h, hR, hW, hl⟩ := hL
    have hU := h.2.1 trivial
    rcases ix_n a (n := 14) (by omega) with ⟨k, hk, rfl⟩ | ho
    · have e1 : ∃ v, fX9_count_19 (nI k) 1 hc = some (.inl v) ∧ fX10_count_23 (nI k) 0 (rwm hm T) = some (v, rwm hm T) := by
        simp only [fX9_count_19, fX10_count_23]
        rw [ra_1, rf_no (rwm_t h0), Option.bind_some, Option.bind_some, if_pos rfl]
        show ∃ v, (if nI k = nI 0 then (some (Sum.inl (hc (0, 0, 0) 5))) else (if nI k = nI 1 then ((fX1_stopsSet 0 hc).bind fun v4 => some (.inl v4)) else (if nI k = nI 2 then (some (.inl (hc (3, 0, 0) 6))) else (if nI k = nI 11 then (some (.inl (hc (6, 0, 0) 4))) else ((fX7_at 9 0 (nI k) hc).bind fun v3 => some (.inl v3)))))) = some (.inl v) ∧ (if nI k = nI 0 then (some (((rwm hm T) (10, 0, 0) 2), rwm hm T)) else (if nI k = nI 1 then ((fX10_stops (rwm hm T)).bind fun v3 => some (v3, rwm hm T)) else (if nI k = nI 2 then (some (((rwm hm T) (11, 22, 0) 3), rwm hm T)) else (if inb (nI 22 + nI k) 1150 = true then (some (((rwm hm T) (11, 22, 0) (nI 22 + nI k).toNatClampNeg), rwm hm T)) else none)))) = some (v, rwm hm T)
        have eq : ∀ j, j < 14 → (nI k = nI j ↔ k = j) := fun j hj => n_eq (by omega) (by omega)
        simp only [eq 0 (by omega), eq 1 (by omega), eq 2 (by omega), eq 11 (by omega)]
        by_cases q0 : k = 0
        · rw [if_pos q0, if_pos q0]; exact ⟨_, rfl, by rw [(LA_rwm hl).2.2, h.1.a6]⟩
        · rw [if_neg q0, if_neg q0]
          by_cases q1 : k = 1
          · rw [if_pos q1, if_pos q1]
            obtain ⟨v, s1, s2⟩ := stops_p (hm := hm) h hW
            exact ⟨v, by rw [s1, Option.bind_some], by rw [s2, Option.bind_some]⟩
          · rw [if_neg q1, if_neg q1]
            by_cases q2 : k = 2
            · rw [if_pos q2, if_pos q2]; exact ⟨_, rfl, by rw [rwm_e, h.1.a5]⟩
            · rw [if_neg q2, if_neg q2, n_add, if_pos (inb_n (show 22 + k < 1150 by omega) (by omega)), n_c (by omega), rwm_e]
              by_cases q3 : k = 11
              · rw [if_pos q3, hU.a3, q3]; exact ⟨_, rfl, rfl⟩
              · rw [if_neg q3, at_n (show k < wlen 9 from hk), Option.bind_some, hU.a4 k (by omega) hk q3]; exact ⟨_, rfl, rfl⟩
      obtain ⟨v, s1, s2⟩ := e1
      refine ⟨.inl v, v, 0, ?_, ?_, agr_ok⟩
      · show (if nI k < 0 then _ else (if nI k < nI 14 then (fX9_count_19 (nI k) 1 hc) else _)) = _
        rw [if_neg (n_neg (by omega)), if_pos (show nI k < nI 14 by rw [n_lt (by omega) (by omega)]; exact hk), s1]
      · show (fX10_in (nI k) 0 (nI 13) (rwm hm T)).bind (fun v6 => if v6 = 0 then (fX10_count_23 (nI k) 1 (rwm hm T)) else (fX10_count_23 (nI k) 0 (rwm hm T))) = _
        rw [in_in' (show k ≤ 13 by omega) (by omega), Option.bind_some, if_neg n10, s2, th_0 h0]
    · refine ⟨.inr 2, 0, nI (1 + 1), ?_, ?_, agr_th rfl⟩
      · have r : fX9_count_18 a hc = some (.inr 2) := rfl
        show (if a < 0 then (fX9_count_18 a hc) else (if a < nI 14 then (fX9_count_19 a 1 hc) else (fX9_count_18 a hc))) = _
        rw [r]
        by_cases q : a < 0
        · rw [if_pos q]
        · rw [if_neg q, if_neg (out_ge (by omega) ho q)]
      · show (fX10_in a 0 (nI 13) (rwm hm T)).bind (fun v6 => if v6 = 0 then (fX10_count_23 a 1 (rwm hm T)) else (fX10_count_23 a 0 (rwm hm T))) = _
        rw [in_out' (by omega) ho, Option.bind_some, if_pos rfl]
        simp only [fX10_count_23]
        rw [rf_yes (rwm_t h0) (show ¬ (2 : Int32) = 0 by decide), Option.bind_some, if_neg n10, th_rwm]; rfl
theorem op_setting (a : Int32) : Look [1, 2] (fX9_setting a) (fX10_setting a) := by
  refine lookL (d0 := 0) rfl (F := fun hc => if a < 0 then (fX9_setting_18 a hc) else (if a < 13 then (fX9_setting_19 a 1 hc) else (fX9_setting_18 a hc))) (G := fun hm => (fX10_in a 0 12 hm).bind fun v6 => if v6 = 0 then (fX10_setting_23 a 1 hm) else (fX10_setting_23 a 0 hm)) (fun hc => rfl) ?_ ?_ ?_
  · intro hm q
    simp only [fX10_setting]
    rw [nl_1 q, Option.bind_some, if_neg n10]
  · intro hm q
    simp only [fX10_setting]
    rw [nl_0 q, Option.bind_some, if_pos rfl]
  · intro tb hc hm T L A nb ht hL h0
    obtain ⟨h, hR, hW, hl⟩ := hL
    rcases ix_n a (n := 13) (by omega) with ⟨k, hk, rfl⟩ | ho
    · refine ⟨.inl (T (9 + k)), T (9 + k), 0, ?_, ?_, agr_ok⟩
      · show (if nI k < 0 then _ else (if nI k < nI 13 then (fX9_setting_19 (nI k) 1 hc) else _)) = _
        rw [if_neg (n_neg (by omega)), if_pos (show nI k < nI 13 by rw [n_lt (by omega) (by omega)]; exact hk)]
        show (fX7_at 0 0 (nI k) hc).bind (fun v3 => some (Sum.inl v3)) = _
        rw [c_set h hk, Option.bind_some]
      · show (fX10_in (nI k) 0 (nI 12) (rwm hm T)).bind (fun v6 => if v6 = 0 then (fX10_setting_23 (nI k) 1 (rwm hm T)) else (fX10_setting_23 (nI k) 0 (rwm hm T))) = _
        rw [in_in' (show k ≤ 12 by omega) (by omega), Option.bind_some, if_neg n10, th_0 h0]
        simp only [fX10_setting_23]
        rw [rf_no (rwm_t h0), Option.bind_some, if_pos rfl]
        show (if inb (nI 9 + nI k) 1150 = true then (some ((rwm hm T) (11, 22, 0) (nI 9 + nI k).toNatClampNeg)) else none).bind _ = _
        rw [n_add, if_pos (inb_n (show 9 + k < 1150 by omega) (by omega)), n_c (by omega), rwm_e]; rfl
    · refine ⟨.inr 2, 0, nI (1 + 1), ?_, ?_, agr_th rfl⟩
      · have r : fX9_setting_18 a hc = some (.inr 2) := rfl
        show (if a < 0 then (fX9_setting_18 a hc) else (if a < nI 13 then (fX9_setting_19 a 1 hc) else (fX9_setting_18 a hc))) = _
        rw [r]
        by_cases q : a < 0
        · rw [if_pos q]
        · rw [if_neg q, if_neg (out_ge (by omega) ho q)]
      · show (fX10_in a 0 (nI 12) (rwm hm T)).bind (fun v6 => if v6 = 0 then (fX10_setting_23 a 1 (rwm hm T)) else (fX10_setting_23 a 0 (rwm hm T))) = _
        rw [in_out' (by omega) ho, Option.bind_some, if_pos rfl]
        simp only [fX10_setting_23]
        rw [rf_yes (rwm_t h0) (show ¬ (2 : Int32) = 0 by decide), Option.bind_some, if_neg n10, th_rwm]; rfl
theorem lk_b (T : Tr0) (c : Int32) : lkT T c = 0 ∨ lkT T c = 1 := by
  unfold lkT; split
  · split
    · split
      · exact Or.inr rfl
      · exact Or.inl rfl
    · exact Or.inl rfl
  · exact Or.inr rfl
theorem gt_out {x : Int32} {n : Nat} (hn : n < 1000000) (h : x < 0 ∨ nI (n + 1) ≤ x) (h0 : ¬ x < 0) : nI n < x := by
  have a := le_i.mp (h.resolve_left h0)
  rw [n_i (by omega)] at a
  rw [lt_i, n_i (by omega)]; omega
theorem op_carriage (a : Int32) : Look [1, 2] (fX9_carriage a) (fX10_carriage a) := by
  refine lookL (d0 := 0) rfl (F := fun hc => if a < 0 then (fX9_carriage_17 a hc) else (if 3 < a then (fX9_carriage_17 a hc) else (fX9_carriage_18 a 1 hc))) (G := fun hm => (fX10_in a 0 3 hm).bind fun v6 => if v6 = 0 then (fX10_carriage_22 a 1 hm) else (fX10_carriage_22 a 0 hm)) (fun hc => rfl) ?_ ?_ ?_
  · intro hm q
    simp only [fX10_carriage]
    rw [nl_1 q, Option.bind_some, if_neg n10]
  · intro hm q
    simp only [fX10_carriage]
    rw [nl_0 q, Option.bind_some, if_pos rfl]
  · intro tb hc hm T L A nb ht hL h0
    obtain ⟨h, hR, hW, hl⟩ := hL
    rcases ix_n a (n := 4) (by omega) with ⟨k, hk, rfl⟩ | ho
    · have e1 : ∃ v, fX9_carriage_18 (nI k) 1 hc = some (.inl v) ∧ fX10_carriage_22 (nI k) 0 (rwm hm T) = some (v, rwm hm T) := by
        simp only [fX9_carriage_18, fX10_carriage_22]
        rw [ra_1, rf_no (rwm_t h0), Option.bind_some, Option.bind_some, if_pos rfl]
        have hco := hW.co
        have e1 : T 1 = nI (tn (T 1)) := hco.1
        have hlk := m_lock (hm := hm) hW hco.2
        rw [← e1] at hlk
        match k, hk with
        | 0, _ => exact ⟨T 0, by rw [← h.1.a2]; rfl, rfl⟩
        | 1, _ => exact ⟨T 1, by rw [← h.1.a3]; rfl, rfl⟩
        | 2, _ =>
          refine ⟨lkT T (T 1), ?_, ?_⟩
          · show (fX1_locksAt 0 (hc (1, 0, 0) 3) hc).bind (fun v3 => if v3 = 0 then (some (Sum.inl 0)) else (some (.inl 1))) = _
            rw [h.1.a3, c_lock h, Option.bind_some]
            rcases lk_b T (T 1) with q | q <;> rw [q] <;> rfl
          · show (fX10_isLocked (T 1) (rwm hm T)).bind (fun v3 => (fX10_flag v3 (rwm hm T)).bind fun v4 => some (v4, rwm hm T)) = _
            rw [hlk, Option.bind_some]
            rcases lk_b T (T 1) with q | q <;> rw [q] <;> rfl
        | 3, _ =>
          refine ⟨T 2, ?_, rfl⟩
          show (if (hc (1, 0, 0) 4) = 0 then (some (Sum.inl 0)) else (some (.inl 1))) = _
          rw [h.1.a4]
          rcases hW.re with q | q <;> rw [q] <;> rfl
      obtain ⟨v, s1, s2⟩ := e1
      refine ⟨.inl v, v, 0, ?_, ?_, agr_ok⟩
      · show (if nI k < 0 then _ else (if nI 3 < nI k then _ else (fX9_carriage_18 (nI k) 1 hc))) = _
        rw [if_neg (n_neg (by omega)), if_neg (show ¬ nI 3 < nI k by rw [n_lt (by omega) (by omega)]; omega), s1]
      · show (fX10_in (nI k) 0 (nI 3) (rwm hm T)).bind (fun v6 => if v6 = 0 then (fX10_carriage_22 (nI k) 1 (rwm hm T)) else (fX10_carriage_22 (nI k) 0 (rwm hm T))) = _
        rw [in_in' (show k ≤ 3 by omega) (by omega), Option.bind_some, if_neg n10, s2, th_0 h0]
    · refine ⟨.inr 2, 0, nI (1 + 1), ?_, ?_, agr_th rfl⟩
      · have r : fX9_carriage_17 a hc = some (.inr 2) := rfl
        show (if a < 0 then (fX9_carriage_17 a hc) else (if nI 3 < a then (fX9_carriage_17 a hc) else (fX9_carriage_18 a 1 hc))) = _
        rw [r]
        by_cases q : a < 0
        · rw [if_pos q]
        · rw [if_neg q, if_pos (gt_out (by omega) ho q)]
      · show (fX10_in a 0 (nI 3) (rwm hm T)).bind (fun v6 => if v6 = 0 then (fX10_carriage_22 a 1 (rwm hm T)) else (fX10_carriage_22 a 0 (rwm hm T))) = _
        rw [in_out' (by omega) ho, Option.bind_some, if_pos rfl]
        simp only [fX10_carriage_22]
        rw [rf_yes (rwm_t h0) (show ¬ (2 : Int32) = 0 by decide), Option.bind_some, if_neg n10, th_rwm]; rfl
theorem op_head (a : Int32) : Look [1, 2] (fX9_head a) (fX10_head a) := by
  refine lookL (d0 := 0) rfl (F := fun hc => if a < 0 then (fX9_head_17 a hc) else (if 3 < a then (fX9_head_17 a hc) else (fX9_head_18 a 1 hc))) (G := fun hm => (fX10_in a 0 3 hm).bind fun v6 => if v6 = 0 then (fX10_head_22 a 1 hm) else (fX10_head_22 a 0 hm)) (fun hc => rfl) ?_ ?_ ?_
  · intro hm q
    simp only [fX10_head]
    rw [nl_1 q, Option.bind_some, if_neg n10]
  · intro hm q
    simp only [fX10_head]
    rw [nl_0 q, Option.bind_some, if_pos rfl]
  · intro tb hc hm T L A nb ht hL h0
    obtain ⟨h, hR, hW, hl⟩ := hL
    have hU := h.2.1 trivial
    rcases ix_n a (n := 4) (by omega) with ⟨k, hk, rfl⟩ | ho
    · have e1 : ∃ v, fX9_head_18 (nI k) 1 hc = some (.inl v) ∧ fX10_head_22 (nI k) 0 (rwm hm T) = some (v, rwm hm T) := by
        simp only [fX9_head_18, fX10_head_22]
        rw [ra_1, rf_no (rwm_t h0), Option.bind_some, Option.bind_some, if_pos rfl]
        match k, hk with
        | 0, _ => exact ⟨T 7, by rw [← hU.a1]; rfl, rfl⟩
        | 1, _ =>
          refine ⟨T 8, ?_, rfl⟩
          show (if (hc (6, 0, 0) 3) = 0 then (some (Sum.inl 0)) else (some (.inl 1))) = _
          rw [hU.a2]
          rcases hW.fo with q | q <;> rw [q] <;> rfl
        | 2, _ =>
          obtain ⟨v, s1, s2, _⟩ := allInk_p (hm := hm) h hW
          refine ⟨v, ?_, ?_⟩
          · show (fX6_allInk 0 hc).bind (fun v4 => some (Sum.inl v4)) = _
            rw [s1, Option.bind_some]
          · show (fX10_allInk (rwm hm T)).bind (fun v4 => some (v4, rwm hm T)) = _
            rw [s2, Option.bind_some]
        | 3, _ =>
          obtain ⟨v, s1, s2⟩ := dry_p (hm := hm) h hW
          refine ⟨v, ?_, ?_⟩
          · show (fX6_dryPlaces 0 hc).bind (fun v4 => some (Sum.inl v4)) = _
            rw [s1, Option.bind_some]
          · show (fX10_dryPlaces (rwm hm T)).bind (fun v4 => some (v4, rwm hm T)) = _
            rw [s2, Option.bind_some]
      obtain ⟨v, s1, s2⟩ := e1
      refine ⟨.inl v, v, 0, ?_, ?_, agr_ok⟩
      · show (if nI k < 0 then _ else (if nI 3 < nI k then _ else (fX9_head_18 (nI k) 1 hc))) = _
        rw [if_neg (n_neg (by omega)), if_neg (show ¬ nI 3 < nI k by rw [n_lt (by omega) (by omega)]; omega), s1]
      · show (fX10_in (nI k) 0 (nI 3) (rwm hm T)).bind (fun v6 => if v6 = 0 then (fX10_head_22 (nI k) 1 (rwm hm T)) else (fX10_head_22 (nI k) 0 (rwm hm T))) = _
        rw [in_in' (show k ≤ 3 by omega) (by omega), Option.bind_some, if_neg n10, s2, th_0 h0]
    · refine ⟨.inr 2, 0, nI (1 + 1), ?_, ?_, agr_th rfl⟩
      · have r : fX9_head_17 a hc = some (.inr 2) := rfl
        show (if a < 0 then (fX9_head_17 a hc) else (if nI 3 < a then (fX9_head_17 a hc) else (fX9_head_18 a 1 hc))) = _
        rw [r]
        by_cases q : a < 0
        · rw [if_pos q]
        · rw [if_neg q, if_pos (gt_out (by omega) ho q)]
      · show (fX10_in a 0 (nI 3) (rwm hm T)).bind (fun v6 => if v6 = 0 then (fX10_head_22 a 1 (rwm hm T)) else (fX10_head_22 a 0 (rwm hm T))) = _
        rw [in_out' (by omega) ho, Option.bind_some, if_pos rfl]
        simp only [fX10_head_22]
        rw [rf_yes (rwm_t h0) (show ¬ (2 : Int32) = 0 by decide), Option.bind_some, if_neg n10, th_rwm]; rfl
theorem op_barOf (a : Int32) : Look [1] (fX9_barOf a) (fX10_barOf a) := by
  refine lookL (d0 := 0) rfl (F := fun hc => (fX0_withLetter 0 a hc).bind fun v3 => some (.inl v3)) (G := fun hm => (fX10_barFor a hm).bind fun v3 => some (v3, hm)) (fun hc => rfl) ?_ ?_ ?_
  · intro hm q
    simp only [fX10_barOf]
    rw [nl_1 q, Option.bind_some, if_neg n10]
  · intro hm q
    simp only [fX10_barOf]
    rw [nl_0 q, Option.bind_some, if_pos rfl]
  · intro tb hc hm T L A nb ht hL h0
    obtain ⟨h, hR, hW, hl⟩ := hL
    refine ⟨.inl (bfI L nb a), bfI L nb a, 0, ?_, ?_, agr_ok⟩
    · show (fX0_withLetter 0 a hc).bind (fun v3 => some (Sum.inl v3)) = _
      rw [c_withLetter h, Option.bind_some, wl_bf hW]
    · show (fX10_barFor a (rwm hm T)).bind (fun v3 => some (v3, rwm hm T)) = _
      rw [m_barFor hl hW.nb, Option.bind_some, th_0 h0]
theorem op_latest : Look [1] fX9_latest fX10_latest := by
  refine lookL (d0 := 0) rfl (F := fun hc => some (.inl (hc (0, 0, 0) 6))) (G := fun hm => some ((hm (11, 22, 0) 4), hm)) (fun hc => rfl) ?_ ?_ ?_
  · intro hm q
    simp only [fX10_latest]
    rw [nl_1 q, Option.bind_some, if_neg n10]
  · intro hm q
    simp only [fX10_latest]
    rw [nl_0 q, Option.bind_some, if_pos rfl]
  · intro tb hc hm T L A nb ht hL h0
    obtain ⟨h, hR, hW, hl⟩ := hL
    exact ⟨.inl (T 4), T 4, 0, congrArg (fun x => some (Sum.inl x)) h.1.a7, by rw [th_0 h0]; rfl, agr_ok⟩
theorem op_reason : Look [1] fX9_reason fX10_reason := by
  refine lookL (d0 := 0) rfl (F := fun hc => some (.inl (hc (3, 0, 0) 7))) (G := fun hm => some ((hm (11, 22, 0) 36), hm)) (fun hc => rfl) ?_ ?_ ?_
  · intro hm q
    simp only [fX10_reason]
    rw [nl_1 q, Option.bind_some, if_neg n10]
  · intro hm q
    simp only [fX10_reason]
    rw [nl_0 q, Option.bind_some, if_pos rfl]
  · intro tb hc hm T L A nb ht hL h0
    obtain ⟨h, hR, hW, hl⟩ := hL
    exact ⟨.inl (T 36), T 36, 0, congrArg (fun x => some (Sum.inl x)) hR.1, by rw [th_0 h0]; rfl, agr_ok⟩
theorem op_reasonAt : Look [1] fX9_reasonAt fX10_reasonAt := by
  refine lookL (d0 := 0) rfl (F := fun hc => some (.inl (hc (3, 0, 0) 8))) (G := fun hm => some ((hm (11, 22, 0) 37), hm)) (fun hc => rfl) ?_ ?_ ?_
  · intro hm q
    simp only [fX10_reasonAt]
    rw [nl_1 q, Option.bind_some, if_neg n10]
  · intro hm q
    simp only [fX10_reasonAt]
    rw [nl_0 q, Option.bind_some, if_pos rfl]
  · intro tb hc hm T L A nb ht hL h0
    obtain ⟨h, hR, hW, hl⟩ := hL
    exact ⟨.inl (T 37), T 37, 0, congrArg (fun x => some (Sum.inl x)) hR.2, by rw [th_0 h0]; rfl, agr_ok⟩
end
