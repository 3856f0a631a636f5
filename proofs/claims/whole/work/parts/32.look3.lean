/-! ===== looks: bars, ribbon, stops, signs ===== -/
section
theorem op_ribbon (a : Int32) : Look [1, 3] (fX9_ribbon a) (fX10_ribbon a) := by
  refine lookL (d0 := 0) rfl (F := fun hc => if a < 0 then (fX9_ribbon_28 a hc) else ((fX7_at 0 0 9 hc).bind fun v6 => if a < v6 then (fX9_ribbon_29 a 1 hc) else (fX9_ribbon_28 a hc))) (G := fun hm => (fX10_its 9 hm).bind fun v5 => (fX10_in a 0 (v5 - 1) hm).bind fun v6 => if v6 = 0 then (fX10_ribbon_29 a 1 hm) else (fX10_ribbon_29 a 0 hm)) (fun hc => rfl) ?_ ?_ ?_
  · intro hm q
    simp only [fX10_ribbon]
    rw [nl_1 q, Option.bind_some, if_neg n10]
  · intro hm q
    simp only [fX10_ribbon]
    rw [nl_0 q, Option.bind_some, if_pos rfl]
  · intro tb hc hm T L A nb ht hL h0
    obtain ⟨h, hR, hW, hl⟩ := hL
    have hU := h.2.1 trivial
    have hlg := hW.lg
    have e18 : T 18 = nI (tn (T 18)) := hlg.1
    rcases ix_n a (n := tn (T 18)) (by omega) with ⟨k, hk, rfl⟩ | ho
    · refine ⟨.inl (T (130 + k)), T (130 + k), 0, ?_, ?_, agr_ok⟩
      · show (if nI k < 0 then (fX9_ribbon_28 (nI k) hc) else ((fX7_at 0 0 9 hc).bind fun v6 => if nI k < v6 then ((fX7_at 1 0 (nI k) hc).bind fun v3 => some (Sum.inl v3)) else (fX9_ribbon_28 (nI k) hc))) = _
        rw [if_neg (n_neg (by omega)), c_s9 h, Option.bind_some, e18, if_pos (show nI k < nI (tn (T 18)) by rw [n_lt (by omega) (by omega)]; exact hk), at_n (show k < wlen 1 by show k < 60; omega), Option.bind_some, hU.a0 k hk]
      · show (fX10_its 9 (rwm hm T)).bind (fun v5 => (fX10_in (nI k) 0 (v5 - 1) (rwm hm T)).bind fun v6 => if v6 = 0 then (fX10_ribbon_29 (nI k) 1 (rwm hm T)) else (fX10_ribbon_29 (nI k) 0 (rwm hm T))) = _
        rw [its_9, Option.bind_some, e18, in_in hk (by omega), Option.bind_some, if_neg n10, th_0 h0]
        simp only [fX10_ribbon_29]
        rw [rf_no (rwm_t h0), Option.bind_some, if_pos rfl]
        show (if inb (nI 130 + nI k) 1150 = true then (some (((rwm hm T) (11, 22, 0) (nI 130 + nI k).toNatClampNeg), rwm hm T)) else none) = _
        rw [n_add, if_pos (inb_n (show 130 + k < 1150 by omega) (by omega)), n_c (by omega), rwm_e]
    · refine ⟨.inr 3, 0, nI (1 + 1), ?_, ?_, agr_th rfl⟩
      · have r : fX9_ribbon_28 a hc = some (.inr 3) := rfl
        show (if a < 0 then (fX9_ribbon_28 a hc) else ((fX7_at 0 0 9 hc).bind fun v6 => if a < v6 then (fX9_ribbon_29 a 1 hc) else (fX9_ribbon_28 a hc))) = _
        rw [r]
        by_cases q : a < 0
        · rw [if_pos q]
        · rw [if_neg q, c_s9 h, Option.bind_some, e18, if_neg (out_ge (by omega) ho q)]
      · show (fX10_its 9 (rwm hm T)).bind (fun v5 => (fX10_in a 0 (v5 - 1) (rwm hm T)).bind fun v6 => if v6 = 0 then (fX10_ribbon_29 a 1 (rwm hm T)) else (fX10_ribbon_29 a 0 (rwm hm T))) = _
        rw [its_9, Option.bind_some, e18, in_out (by omega) ho, Option.bind_some, if_pos rfl]
        simp only [fX10_ribbon_29]
        rw [rf_yes (rwm_t h0) (show ¬ (2 : Int32) = 0 by decide), Option.bind_some, if_neg n10, th_rwm]; rfl
theorem op_isStop (a : Int32) : Look [1, 3] (fX9_isStop a) (fX10_isStop a) := by
  refine lookL (d0 := 0) rfl (F := fun hc => (fX9_requireColumn a hc).bind fun q4 => Sum.elim (fun _ => (fX1_stopsAt 0 a hc).bind fun v5 => if isB v5 = true then some (.inl v5) else none) (fun E => some (.inr E)) q4) (G := fun hm => (fX10_isColumn a hm).bind fun v5 => if v5 = 0 then (fX10_isStop_21 a 1 hm) else (fX10_isStop_21 a 0 hm)) (fun hc => rfl) ?_ ?_ ?_
  · intro hm q
    simp only [fX10_isStop]
    rw [nl_1 q, Option.bind_some, if_neg n10]
  · intro hm q
    simp only [fX10_isStop]
    rw [nl_0 q, Option.bind_some, if_pos rfl]
  · intro tb hc hm T L A nb ht hL h0
    obtain ⟨h, hR, hW, hl⟩ := hL
    have hw := hW.w
    rcases ix_n a (n := tn (T 9)) (by omega) with ⟨k, hk, rfl⟩ | ho
    · refine ⟨.inl (T (90 + k)), T (90 + k), 0, ?_, ?_, agr_ok⟩
      · show (fX9_requireColumn (nI k) hc).bind (fun q4 => Sum.elim (fun _ => (fX1_stopsAt 0 (nI k) hc).bind fun v5 => if isB v5 = true then some (Sum.inl v5) else none) (fun E => some (.inr E)) q4) = _
        rw [rqCol_in h hW hk, Option.bind_some]
        show (fX1_stopsAt 0 (nI k) hc).bind (fun v5 => if isB v5 = true then some (Sum.inl v5) else none) = _
        rw [c_stopsAt h (by omega), Option.bind_some]
        rcases hW.sp k (by omega) with q | q <;> rw [q] <;> rfl
      · show (fX10_isColumn (nI k) (rwm hm T)).bind (fun v5 => if v5 = 0 then (fX10_isStop_21 (nI k) 1 (rwm hm T)) else (fX10_isStop_21 (nI k) 0 (rwm hm T))) = _
        rw [isCol_in hW hk, Option.bind_some, if_neg n10, th_0 h0]
        simp only [fX10_isStop_21]
        rw [rf_no (rwm_t h0), Option.bind_some, if_pos rfl]
        show (if inb (nI 90 + nI k) 1150 = true then (if ((rwm hm T) (11, 22, 0) (nI 90 + nI k).toNatClampNeg) = 1 then (some ((1 : Int32), rwm hm T)) else (some (0, rwm hm T))) else none) = _
        rw [n_add, if_pos (inb_n (show 90 + k < 1150 by omega) (by omega)), n_c (by omega), rwm_e]
        rcases hW.sp k (by omega) with q | q <;> rw [q] <;> rfl
    · refine ⟨.inr 3, 0, nI (1 + 1), ?_, ?_, agr_th rfl⟩
      · show (fX9_requireColumn a hc).bind (fun q4 => Sum.elim (fun _ => (fX1_stopsAt 0 a hc).bind fun v5 => if isB v5 = true then some (Sum.inl v5) else none) (fun E => some (.inr E)) q4) = _
        rw [rqCol_out h hW ho]; rfl
      · show (fX10_isColumn a (rwm hm T)).bind (fun v5 => if v5 = 0 then (fX10_isStop_21 a 1 (rwm hm T)) else (fX10_isStop_21 a 0 (rwm hm T))) = _
        rw [isCol_out hW ho, Option.bind_some, if_pos rfl]
        simp only [fX10_isStop_21]
        rw [rf_yes (rwm_t h0) (show ¬ (2 : Int32) = 0 by decide), Option.bind_some, if_neg n10, th_rwm]; rfl
theorem op_nextStop (a : Int32) : Look [1, 3] (fX9_nextStop a) (fX10_nextStop a) := by
  refine lookL (d0 := 0) rfl (F := fun hc => (fX9_requireCarriageColumn a hc).bind fun q4 => Sum.elim (fun _ => (fX1_tabFrom 0 a hc).bind fun v5 => some (.inl v5)) (fun E => some (.inr E)) q4) (G := fun hm => (fX10_its 0 hm).bind fun v6 => (fX10_in a 0 v6 hm).bind fun v7 => if v7 = 0 then (fX10_nextStop_26 a 1 hm) else (fX10_nextStop_26 a 0 hm)) (fun hc => rfl) ?_ ?_ ?_
  · intro hm q
    simp only [fX10_nextStop]
    rw [nl_1 q, Option.bind_some, if_neg n10]
  · intro hm q
    simp only [fX10_nextStop]
    rw [nl_0 q, Option.bind_some, if_pos rfl]
  · intro tb hc hm T L A nb ht hL h0
    obtain ⟨h, hR, hW, hl⟩ := hL
    have hw := hW.w
    have e9 : T 9 = nI (tn (T 9)) := hw.1
    rcases ix_n a (n := tn (T 9) + 1) (by omega) with ⟨k, hk, rfl⟩ | ho
    · refine ⟨.inl (tabT T k), tabT T k, 0, ?_, ?_, agr_ok⟩
      · show (fX9_requireCarriageColumn (nI k) hc).bind (fun q4 => Sum.elim (fun _ => (fX1_tabFrom 0 (nI k) hc).bind fun v5 => some (Sum.inl v5)) (fun E => some (.inr E)) q4) = _
        rw [rqCC_in h hW hk, Option.bind_some]
        show (fX1_tabFrom 0 (nI k) hc).bind (fun v5 => some (Sum.inl v5)) = _
        rw [c_tabFrom h hw.1 (by omega), Option.bind_some]
      · show (fX10_its 0 (rwm hm T)).bind (fun v6 => (fX10_in (nI k) 0 v6 (rwm hm T)).bind fun v7 => if v7 = 0 then (fX10_nextStop_26 (nI k) 1 (rwm hm T)) else (fX10_nextStop_26 (nI k) 0 (rwm hm T))) = _
        rw [its_0, Option.bind_some, e9, in_in' (show k ≤ tn (T 9) by omega) (by omega), Option.bind_some, if_neg n10, th_0 h0]
        simp only [fX10_nextStop_26]
        rw [rf_no (rwm_t h0), Option.bind_some, if_pos rfl, m_stopFrom hW (by omega), Option.bind_some]
    · refine ⟨.inr 3, 0, nI (1 + 1), ?_, ?_, agr_th rfl⟩
      · show (fX9_requireCarriageColumn a hc).bind (fun q4 => Sum.elim (fun _ => (fX1_tabFrom 0 a hc).bind fun v5 => some (Sum.inl v5)) (fun E => some (.inr E)) q4) = _
        rw [rqCC_out h hW ho]; rfl
      · show (fX10_its 0 (rwm hm T)).bind (fun v6 => (fX10_in a 0 v6 (rwm hm T)).bind fun v7 => if v7 = 0 then (fX10_nextStop_26 a 1 (rwm hm T)) else (fX10_nextStop_26 a 0 (rwm hm T))) = _
        rw [its_0, Option.bind_some, e9, in_out' (by omega) ho, Option.bind_some, if_pos rfl]
        simp only [fX10_nextStop_26]
        rw [rf_yes (rwm_t h0) (show ¬ (2 : Int32) = 0 by decide), Option.bind_some, if_neg n10, th_rwm]; rfl
end
section
variable {hm : HP} {T L A : Tr0} {tb nb : Nat}
theorem m_signAt {l c : Nat} (hl : l < 12) (hc : c < 40) : fX10_signAt (nI l) (nI c) (rwm hm T) = some (T (190 + 40 * l + c)) := by
  show (if inb ((nI 190 + (nI 40 * nI l)) + nI c) 1150 = true then (some ((rwm hm T) (11, 22, 0) ((nI 190 + (nI 40 * nI l)) + nI c).toNatClampNeg)) else none) = _
  rw [n_mul, n_add, n_add, if_pos (inb_n (by omega) (by omega)), n_c (by omega), rwm_e]
theorem m_darkAt {l c : Nat} (hl : l < 12) (hc : c < 40) : fX10_darkAt (nI l) (nI c) (rwm hm T) = some (T (670 + 40 * l + c)) := by
  show (if inb ((nI 670 + (nI 40 * nI l)) + nI c) 1150 = true then (some ((rwm hm T) (11, 22, 0) ((nI 670 + (nI 40 * nI l)) + nI c).toNatClampNeg)) else none) = _
  rw [n_mul, n_add, n_add, if_pos (inb_n (by omega) (by omega)), n_c (by omega), rwm_e]
theorem op_sign (a b : Int32) : Look [1, 3] (fX9_sign a b) (fX10_sign a b) := by
  refine lookL (d0 := 0) rfl (F := fun hc => (fX9_requireLine a hc).bind fun q4 => Sum.elim (fun _ => (fX9_requireColumn b hc).bind fun q6 => Sum.elim (fun _ => (fX4_placeOf 0 a b hc).bind fun v7 => (fX7_at 2 0 v7 hc).bind fun v8 => some (.inl v8)) (fun E => some (.inr E)) q6) (fun E => some (.inr E)) q4) (G := fun hm => (npM a b hm).bind fun q2 => if q2.1 = 0 then ((fX10_signAt a b q2.2).bind fun v3 => if v3 = 0 then (some (32, q2.2)) else ((fX10_signAt a b q2.2).bind fun v4 => some (v4, q2.2))) else (some (0, q2.2))) (fun hc => rfl) ?_ ?_ ?_
  · intro hm q
    simp only [fX10_sign]
    rw [noPlace_1 q, Option.bind_some, if_neg n10]
  · intro hm q
    simp only [fX10_sign]
    rw [noPlace_0 q]
  · intro tb hc hm T L A nb ht hL h0
    obtain ⟨h, hR, hW, hl⟩ := hL
    have hU := h.2.1 trivial
    have hw := hW.w
    have hln := hW.ln
    rcases ix_n a (n := tn (T 10)) (by omega) with ⟨l, hll, rfl⟩ | ho
    · rcases ix_n b (n := tn (T 9)) (by omega) with ⟨c, hcc, rfl⟩ | ho
      · refine ⟨.inl (sg (T (190 + 40 * l + c))), sg (T (190 + 40 * l + c)), 0, ?_, ?_, agr_ok⟩
        · show (fX9_requireLine (nI l) hc).bind (fun q4 => Sum.elim (fun _ => (fX9_requireColumn (nI c) hc).bind fun q6 => Sum.elim (fun _ => (fX4_placeOf 0 (nI l) (nI c) hc).bind fun v7 => (fX7_at 2 0 v7 hc).bind fun v8 => some (Sum.inl v8)) (fun E => some (.inr E)) q6) (fun E => some (.inr E)) q4) = _
          rw [rqLine_in h hW hll, Option.bind_some]
          show (fX9_requireColumn (nI c) hc).bind (fun q6 => Sum.elim (fun _ => (fX4_placeOf 0 (nI l) (nI c) hc).bind fun v7 => (fX7_at 2 0 v7 hc).bind fun v8 => some (Sum.inl v8)) (fun E => some (.inr E)) q6) = _
          rw [rqCol_in h hW hcc, Option.bind_some]
          show (fX4_placeOf 0 (nI l) (nI c) hc).bind (fun v7 => (fX7_at 2 0 v7 hc).bind fun v8 => some (Sum.inl v8)) = _
          rw [c_placeOf h (by omega) hw.1, Option.bind_some, at_n (show l * tn (T 9) + c < wlen 2 from plc_lt (by omega) hcc (by omega)), Option.bind_some, hU.a5 l c (by omega) hcc]
        · show (npM (nI l) (nI c) (rwm hm T)).bind (fun q2 => if q2.1 = 0 then ((fX10_signAt (nI l) (nI c) q2.2).bind fun v3 => if v3 = 0 then (some (32, q2.2)) else ((fX10_signAt (nI l) (nI c) q2.2).bind fun v4 => some (v4, q2.2))) else (some (0, q2.2))) = _
          rw [npM_in hW h0 hll hcc, Option.bind_some, if_pos rfl, m_signAt (by omega) (by omega), Option.bind_some, Option.bind_some, th_0 h0]
          unfold sg
          split <;> rfl
      · refine ⟨.inr 3, 0, nI (1 + 1), ?_, ?_, agr_th rfl⟩
        · show (fX9_requireLine (nI l) hc).bind (fun q4 => Sum.elim (fun _ => (fX9_requireColumn b hc).bind fun q6 => Sum.elim (fun _ => (fX4_placeOf 0 (nI l) b hc).bind fun v7 => (fX7_at 2 0 v7 hc).bind fun v8 => some (Sum.inl v8)) (fun E => some (.inr E)) q6) (fun E => some (.inr E)) q4) = _
          rw [rqLine_in h hW hll, Option.bind_some]
          show (fX9_requireColumn b hc).bind (fun q6 => Sum.elim (fun _ => (fX4_placeOf 0 (nI l) b hc).bind fun v7 => (fX7_at 2 0 v7 hc).bind fun v8 => some (Sum.inl v8)) (fun E => some (.inr E)) q6) = _
          rw [rqCol_out h hW ho]; rfl
        · show (npM (nI l) b (rwm hm T)).bind (fun q2 => if q2.1 = 0 then ((fX10_signAt (nI l) b q2.2).bind fun v3 => if v3 = 0 then (some (32, q2.2)) else ((fX10_signAt (nI l) b q2.2).bind fun v4 => some (v4, q2.2))) else (some (0, q2.2))) = _
          rw [npM_out2 hW h0 hll ho, Option.bind_some, if_neg n10]; rfl
    · refine ⟨.inr 3, 0, nI (1 + 1), ?_, ?_, agr_th rfl⟩
      · show (fX9_requireLine a hc).bind (fun q4 => Sum.elim (fun _ => (fX9_requireColumn b hc).bind fun q6 => Sum.elim (fun _ => (fX4_placeOf 0 a b hc).bind fun v7 => (fX7_at 2 0 v7 hc).bind fun v8 => some (Sum.inl v8)) (fun E => some (.inr E)) q6) (fun E => some (.inr E)) q4) = _
        rw [rqLine_out h hW ho]; rfl
      · show (npM a b (rwm hm T)).bind (fun q2 => if q2.1 = 0 then ((fX10_signAt a b q2.2).bind fun v3 => if v3 = 0 then (some (32, q2.2)) else ((fX10_signAt a b q2.2).bind fun v4 => some (v4, q2.2))) else (some (0, q2.2))) = _
        rw [npM_out hW h0 ho, Option.bind_some, if_neg n10]; rfl
theorem op_darkness (a b : Int32) : Look [1, 3] (fX9_darkness a b) (fX10_darkness a b) := by
  refine lookL (d0 := 0) rfl (F := fun hc => (fX9_requireLine a hc).bind fun q4 => Sum.elim (fun _ => (fX9_requireColumn b hc).bind fun q6 => Sum.elim (fun _ => (fX4_placeOf 0 a b hc).bind fun v7 => (fX7_at 3 0 v7 hc).bind fun v8 => some (.inl v8)) (fun E => some (.inr E)) q6) (fun E => some (.inr E)) q4) (G := fun hm => (npM a b hm).bind fun q2 => if q2.1 = 0 then ((fX10_darkAt a b q2.2).bind fun v3 => some (v3, q2.2)) else (some (0, q2.2))) (fun hc => rfl) ?_ ?_ ?_
  · intro hm q
    simp only [fX10_darkness]
    rw [noPlace_1 q, Option.bind_some, if_neg n10]
  · intro hm q
    simp only [fX10_darkness]
    rw [noPlace_0 q]
  · intro tb hc hm T L A nb ht hL h0
    obtain ⟨h, hR, hW, hl⟩ := hL
    have hU := h.2.1 trivial
    have hw := hW.w
    have hln := hW.ln
    rcases ix_n a (n := tn (T 10)) (by omega) with ⟨l, hll, rfl⟩ | ho
    · rcases ix_n b (n := tn (T 9)) (by omega) with ⟨c, hcc, rfl⟩ | ho
      · refine ⟨.inl (T (670 + 40 * l + c)), T (670 + 40 * l + c), 0, ?_, ?_, agr_ok⟩
        · show (fX9_requireLine (nI l) hc).bind (fun q4 => Sum.elim (fun _ => (fX9_requireColumn (nI c) hc).bind fun q6 => Sum.elim (fun _ => (fX4_placeOf 0 (nI l) (nI c) hc).bind fun v7 => (fX7_at 3 0 v7 hc).bind fun v8 => some (Sum.inl v8)) (fun E => some (.inr E)) q6) (fun E => some (.inr E)) q4) = _
          rw [rqLine_in h hW hll, Option.bind_some]
          show (fX9_requireColumn (nI c) hc).bind (fun q6 => Sum.elim (fun _ => (fX4_placeOf 0 (nI l) (nI c) hc).bind fun v7 => (fX7_at 3 0 v7 hc).bind fun v8 => some (Sum.inl v8)) (fun E => some (.inr E)) q6) = _
          rw [rqCol_in h hW hcc, Option.bind_some]
          show (fX4_placeOf 0 (nI l) (nI c) hc).bind (fun v7 => (fX7_at 3 0 v7 hc).bind fun v8 => some (Sum.inl v8)) = _
          rw [c_placeOf h (by omega) hw.1, Option.bind_some, at_n (show l * tn (T 9) + c < wlen 3 from plc_lt (by omega) hcc (by omega)), Option.bind_some, hU.a6 l c (by omega) hcc]
        · show (npM (nI l) (nI c) (rwm hm T)).bind (fun q2 => if q2.1 = 0 then ((fX10_darkAt (nI l) (nI c) q2.2).bind fun v3 => some (v3, q2.2)) else (some (0, q2.2))) = _
          rw [npM_in hW h0 hll hcc, Option.bind_some, if_pos rfl, m_darkAt (by omega) (by omega), Option.bind_some, th_0 h0]
      · refine ⟨.inr 3, 0, nI (1 + 1), ?_, ?_, agr_th rfl⟩
        · show (fX9_requireLine (nI l) hc).bind (fun q4 => Sum.elim (fun _ => (fX9_requireColumn b hc).bind fun q6 => Sum.elim (fun _ => (fX4_placeOf 0 (nI l) b hc).bind fun v7 => (fX7_at 3 0 v7 hc).bind fun v8 => some (Sum.inl v8)) (fun E => some (.inr E)) q6) (fun E => some (.inr E)) q4) = _
          rw [rqLine_in h hW hll, Option.bind_some]
          show (fX9_requireColumn b hc).bind (fun q6 => Sum.elim (fun _ => (fX4_placeOf 0 (nI l) b hc).bind fun v7 => (fX7_at 3 0 v7 hc).bind fun v8 => some (Sum.inl v8)) (fun E => some (.inr E)) q6) = _
          rw [rqCol_out h hW ho]; rfl
        · show (npM (nI l) b (rwm hm T)).bind (fun q2 => if q2.1 = 0 then ((fX10_darkAt (nI l) b q2.2).bind fun v3 => some (v3, q2.2)) else (some (0, q2.2))) = _
          rw [npM_out2 hW h0 hll ho, Option.bind_some, if_neg n10]; rfl
    · refine ⟨.inr 3, 0, nI (1 + 1), ?_, ?_, agr_th rfl⟩
      · show (fX9_requireLine a hc).bind (fun q4 => Sum.elim (fun _ => (fX9_requireColumn b hc).bind fun q6 => Sum.elim (fun _ => (fX4_placeOf 0 a b hc).bind fun v7 => (fX7_at 3 0 v7 hc).bind fun v8 => some (Sum.inl v8)) (fun E => some (.inr E)) q6) (fun E => some (.inr E)) q4) = _
        rw [rqLine_out h hW ho]; rfl
      · show (npM a b (rwm hm T)).bind (fun q2 => if q2.1 = 0 then ((fX10_darkAt a b q2.2).bind fun v3 => some (v3, q2.2)) else (some (0, q2.2))) = _
        rw [npM_out hW h0 ho, Option.bind_some, if_neg n10]; rfl
theorem op_bar (a b : Int32) : Look [1, 3, 2] (fX9_bar a b) (fX10_bar a b) := by
  refine lookL (d0 := 0) rfl (F := fun hc => (fX9_requireBar a hc).bind fun q17 => Sum.elim (fun _ => if b < 0 then (fX9_bar_22 a b hc) else (if 5 < b then (fX9_bar_22 a b hc) else (fX9_bar_23 a b 1 hc))) (fun E => some (.inr E)) q17) (G := fun hm => (nbM a hm).bind fun q9 => if q9.1 = 0 then ((fX10_in b 0 5 q9.2).bind fun v10 => if v10 = 0 then (fX10_bar_23 a b 1 q9.2) else (fX10_bar_23 a b 0 q9.2)) else (some (0, q9.2))) (fun hc => rfl) ?_ ?_ ?_
  · intro hm q
    simp only [fX10_bar]
    rw [noBar_1 q, Option.bind_some, if_neg n10]
  · intro hm q
    simp only [fX10_bar]
    rw [noBar_0 q]
  · intro tb hc hm T L A nb ht hL h0
    obtain ⟨h, hR, hW, hl⟩ := hL
    have hnb := hW.nb
    have hti := hW.ti
    have e3 : T 3 = nI (tn (T 3)) := hti.1
    rcases ix_n a (n := nb) (by omega) with ⟨k, hk, rfl⟩ | ho
    · rcases ix_n b (n := 6) (by omega) with ⟨j, hj, rfl⟩ | ho
      · have e1 : ∃ v, fX9_bar_23 (nI k) (nI j) 1 hc = some (.inl v) ∧ fX10_bar_23 (nI k) (nI j) 0 (rwm hm T) = some (v, rwm hm T) := by
          simp only [fX9_bar_23, fX10_bar_23]
          rw [ra_1, rf_no (rwm_t h0), Option.bind_some, Option.bind_some, if_pos rfl]
          match j, hj with
          | 0, _ =>
            refine ⟨L k, ?_, ?_⟩
            · show (fX7_at 5 0 (nI k) hc).bind (fun v8 => some (Sum.inl v8)) = _
              rw [at_n (show k < wlen 5 by show k < 26; omega), Option.bind_some, h.1.a10 k hk]
            · show (if inb (nI k) 26 = true then (some ((hm (11, 20, 0) (nI k).toNatClampNeg), rwm hm T)) else none) = _
              rw [if_pos (inb_n (by omega) (by omega)), n_c (by omega), hl.1]
          | 1, _ =>
            refine ⟨A k, ?_, ?_⟩
            · show (fX7_at 6 0 (nI k) hc).bind (fun v8 => some (Sum.inl v8)) = _
              rw [at_n (show k < wlen 6 by show k < 26; omega), Option.bind_some, h.1.a11 k hk]
            · show (if inb (nI k) 26 = true then (some ((hm (11, 21, 0) (nI k).toNatClampNeg), rwm hm T)) else none) = _
              rw [if_pos (inb_n (by omega) (by omega)), n_c (by omega), hl.2.1]
          | 2, _ =>
            refine ⟨riT T A k, ?_, ?_⟩
            · show (fX0_riseOf 0 (nI k) hc).bind (fun v8 => some (Sum.inl v8)) = _
              rw [c_rise h hk, Option.bind_some]
            · show (fX10_rise (nI k) (rwm hm T)).bind (fun v5 => some (v5, rwm hm T)) = _
              rw [m_rise hl (by omega), Option.bind_some]
          | 3, _ =>
            refine ⟨T (39 + 2 * k), ?_, ?_⟩
            · show (fX7_at 8 0 (nI k) hc).bind (fun v8 => some (Sum.inl v8)) = _
              rw [at_n (show k < wlen 8 by show k < 26; omega), Option.bind_some, h.1.a13 k hk]
            · show (if inb ((nI 38 + (2 * nI k)) + 1) 1150 = true then (some (((rwm hm T) (11, 22, 0) ((nI 38 + (2 * nI k)) + 1).toNatClampNeg), rwm hm T)) else none) = _
              rw [idx_b, if_pos (inb_n (by omega) (by omega)), n_c (by omega), rwm_e, show 38 + 2 * k + 1 = 39 + 2 * k by omega]
          | 4, _ =>
            refine ⟨if T 3 < baT T A k then baT T A k - T 3 else 0, ?_, ?_⟩
            · show (fX0_backAt 0 (nI k) hc).bind (fun v4 => some (Sum.inl (imax 0 (v4 - (hc (3, 0, 0) 6))))) = _
              rw [c_back h hk, Option.bind_some, h.1.a5]
              have z : (0 : Int32).toInt = 0 := rfl
              rcases ba_b hW hk (by omega) with ⟨g1, g2⟩ | ⟨s, r, g0, g1, g2, g3, g4, g5, g6⟩
              · rw [g2, e3, if_neg (n_neg (by omega))]
                congr 2
                rw [eqi, imax_i, sub_s (by rw [z, n_i (by omega)]; omega) (by rw [z, n_i (by omega)]; omega), z, n_i (by omega)]; omega
              · rw [g6, e3]
                congr 2
                by_cases q : tn (T 3) < s + 2 * r
                · rw [if_pos ((n_lt (by omega) (by omega)).mpr q), n_sub (by omega), eqi, imax_i, z, n_i (by omega)]; omega
                · rw [if_neg (fun p => q ((n_lt (by omega) (by omega)).mp p)), eqi, imax_i, sub_s (by rw [n_i (by omega), n_i (by omega)]; omega) (by rw [n_i (by omega), n_i (by omega)]; omega), n_i (by omega), n_i (by omega), z]; omega
            · show (fX10_backIn (nI k) (T 3) (rwm hm T)).bind (fun v4 => some (v4, rwm hm T)) = _
              have := m_back2 (T := T) hl hW (by omega) hk (t := tn (T 3)) (by omega)
              rw [← e3] at this
              rw [this, Option.bind_some]
          | 5, _ =>
            refine ⟨if T 5 = nI k then 1 else (if T 6 = nI k then 1 else 0), ?_, ?_⟩
            · show ((if nI k = (hc (0, 0, 0) 7) then (some (1 : Int32)) else (if nI k = (hc (0, 0, 0) 8) then (some 1) else (some 0))).bind fun v3 => if v3 = 0 then (some (Sum.inl 0)) else (some (.inl 1))) = _
              rw [h.1.a8, h.1.a9]
              by_cases q : T 5 = nI k
              · rw [if_pos q, if_pos q.symm]; rfl
              · rw [if_neg q, if_neg (fun p => q p.symm)]
                by_cases q : T 6 = nI k
                · rw [if_pos q, if_pos q.symm]; rfl
                · rw [if_neg q, if_neg (fun p => q p.symm)]; rfl
            · show (if T 5 = nI k then (some ((1 : Int32), rwm hm T)) else (if T 6 = nI k then (some (1, rwm hm T)) else (some (0, rwm hm T)))) = _
              split
              · rfl
              · split <;> rfl
        obtain ⟨v, s1, s2⟩ := e1
        refine ⟨.inl v, v, 0, ?_, ?_, agr_ok⟩
        · show (fX9_requireBar (nI k) hc).bind (fun q17 => Sum.elim (fun _ => if nI j < 0 then (fX9_bar_22 (nI k) (nI j) hc) else (if nI 5 < nI j then (fX9_bar_22 (nI k) (nI j) hc) else (fX9_bar_23 (nI k) (nI j) 1 hc))) (fun E => some (.inr E)) q17) = _
          rw [rqBar_in h hk, Option.bind_some]
          show (if nI j < 0 then (fX9_bar_22 (nI k) (nI j) hc) else (if nI 5 < nI j then (fX9_bar_22 (nI k) (nI j) hc) else (fX9_bar_23 (nI k) (nI j) 1 hc))) = _
          rw [if_neg (n_neg (by omega)), if_neg (show ¬ nI 5 < nI j by rw [n_lt (by omega) (by omega)]; omega), s1]
        · show (nbM (nI k) (rwm hm T)).bind (fun q9 => if q9.1 = 0 then ((fX10_in (nI j) 0 (nI 5) q9.2).bind fun v10 => if v10 = 0 then (fX10_bar_23 (nI k) (nI j) 1 q9.2) else (fX10_bar_23 (nI k) (nI j) 0 q9.2)) else (some (0, q9.2))) = _
          rw [nbM_in (LA_rwm hl) (rwm_t h0) hk hnb, Option.bind_some, if_pos rfl, in_in' (show j ≤ 5 by omega) (by omega), Option.bind_some, if_neg n10, s2, th_0 h0]
      · refine ⟨.inr 2, 0, nI (2 + 1), ?_, ?_, agr_th rfl⟩
        · have r : fX9_bar_22 (nI k) b hc = some (.inr 2) := rfl
          show (fX9_requireBar (nI k) hc).bind (fun q17 => Sum.elim (fun _ => if b < 0 then (fX9_bar_22 (nI k) b hc) else (if nI 5 < b then (fX9_bar_22 (nI k) b hc) else (fX9_bar_23 (nI k) b 1 hc))) (fun E => some (.inr E)) q17) = _
          rw [rqBar_in h hk, Option.bind_some, r]
          show (if b < 0 then (some (Sum.inr 2)) else (if nI 5 < b then (some (Sum.inr 2)) else (fX9_bar_23 (nI k) b 1 hc))) = _
          by_cases q : b < 0
          · rw [if_pos q]
          · rw [if_neg q, if_pos (gt_out (by omega) ho q)]
        · show (nbM (nI k) (rwm hm T)).bind (fun q9 => if q9.1 = 0 then ((fX10_in b 0 (nI 5) q9.2).bind fun v10 => if v10 = 0 then (fX10_bar_23 (nI k) b 1 q9.2) else (fX10_bar_23 (nI k) b 0 q9.2)) else (some (0, q9.2))) = _
          rw [nbM_in (LA_rwm hl) (rwm_t h0) hk hnb, Option.bind_some, if_pos rfl, in_out' (by omega) ho, Option.bind_some, if_pos rfl]
          simp only [fX10_bar_23]
          rw [rf_yes (rwm_t h0) (show ¬ (3 : Int32) = 0 by decide), Option.bind_some, if_neg n10, th_rwm]; rfl
    · refine ⟨.inr 3, 0, nI (1 + 1), ?_, ?_, agr_th rfl⟩
      · show (fX9_requireBar a hc).bind (fun q17 => Sum.elim (fun _ => if b < 0 then (fX9_bar_22 a b hc) else (if nI 5 < b then (fX9_bar_22 a b hc) else (fX9_bar_23 a b 1 hc))) (fun E => some (.inr E)) q17) = _
        rw [rqBar_out h ho]; rfl
      · show (nbM a (rwm hm T)).bind (fun q9 => if q9.1 = 0 then ((fX10_in b 0 (nI 5) q9.2).bind fun v10 => if v10 = 0 then (fX10_bar_23 a b 1 q9.2) else (fX10_bar_23 a b 0 q9.2)) else (some (0, q9.2))) = _
        rw [nbM_out (LA_rwm hl) (rwm_t h0) ho hnb, Option.bind_some, if_neg n10, th_rwm]; rfl
end
