/-! ===== looks: the bell, what would be, paces ===== -/
section
variable {hc hm h0 : HP} {T L A : Tr0} {tb nb m : Nat} {F : Prop}
theorem bell_1 (hW : WF tb T L A nb) : ∀ k c n, c + 1 + k = tn (T 12) - tn (T 13) → k < n → fX10_bellIn_28 n (nI (tn (T 12) - tn (T 13))) (nI c) (rwm hm T) = some (nI (tn (T 12) - tn (T 13)) - T 1, rwm hm T) := by
  have hw := hW.w
  have hmg := hW.mg
  have e9 : T 9 = nI (tn (T 9)) := hw.1
  have e12 : T 12 = nI (tn (T 12)) := hmg.2.1
  intro k
  induction k with
  | zero =>
    intro c n hk hn
    obtain ⟨n, rfl⟩ : ∃ q, n = q + 1 := ⟨n - 1, by omega⟩
    have hlk : lkT T (nI c) = 0 := by
      unfold lkT
      rw [e9, if_pos (show nI c < nI (tn (T 9)) by rw [n_lt (by omega) (by omega)]; omega), e12, if_neg (show ¬ nI (tn (T 12)) < nI c by rw [n_lt (by omega) (by omega)]; omega)]
    simp only [fX10_bellIn_28]
    rw [m_lock hW (by omega), Option.bind_some, hlk, if_pos rfl, ← nI_succ, if_pos (by rw [hk]), rwm_e, ← hk]
  | succ k ih =>
    intro c n hk hn
    obtain ⟨n, rfl⟩ : ∃ q, n = q + 1 := ⟨n - 1, by omega⟩
    have hlk : lkT T (nI c) = 0 := by
      unfold lkT
      rw [e9, if_pos (show nI c < nI (tn (T 9)) by rw [n_lt (by omega) (by omega)]; omega), e12, if_neg (show ¬ nI (tn (T 12)) < nI c by rw [n_lt (by omega) (by omega)]; omega)]
    simp only [fX10_bellIn_28]
    rw [m_lock hW (by omega), Option.bind_some, hlk, if_pos rfl, ← nI_succ, if_neg (show ¬ nI (c + 1) = nI (tn (T 12) - tn (T 13)) by rw [n_eq (by omega) (by omega)]; omega)]
    exact ih (c + 1) n (by omega) (by omega)
theorem bell_2 (hW : WF tb T L A nb) : ∀ k c n, c + k = tn (T 9) → k < n → tn (T 12) - tn (T 13) ≤ c → fX10_bellIn_28 n (nI (tn (T 12) - tn (T 13))) (nI c) (rwm hm T) = some (m1, rwm hm T) := by
  have hw := hW.w
  have hmg := hW.mg
  have e9 : T 9 = nI (tn (T 9)) := hw.1
  intro k
  induction k with
  | zero =>
    intro c n hk hn hc
    obtain ⟨n, rfl⟩ : ∃ q, n = q + 1 := ⟨n - 1, by omega⟩
    have hlk : lkT T (nI c) = 1 := by
      unfold lkT
      rw [e9, if_neg (show ¬ nI c < nI (tn (T 9)) by rw [n_lt (by omega) (by omega)]; omega)]
    simp only [fX10_bellIn_28]
    rw [m_lock hW (by omega), Option.bind_some, hlk, if_neg n10]
  | succ k ih =>
    intro c n hk hn hc
    obtain ⟨n, rfl⟩ : ∃ q, n = q + 1 := ⟨n - 1, by omega⟩
    simp only [fX10_bellIn_28]
    rw [m_lock hW (by omega), Option.bind_some, ← nI_succ, if_neg (show ¬ nI (c + 1) = nI (tn (T 12) - tn (T 13)) by rw [n_eq (by omega) (by omega)]; omega), ih (c + 1) n (by omega) (by omega) (by omega), ite_self]
theorem op_bellIn : Look [1] fX9_bellIn fX10_bellIn := by
  refine lookL (d0 := 0) rfl (F := fun hc => (fX1_spacesToBell 0 hc).bind fun v3 => some (.inl v3)) (G := fun hm => (fX10_its 3 hm).bind fun v4 => (fX10_its 4 hm).bind fun v5 => fX10_bellIn_28 FU (v4 - v5) (hm (11, 22, 0) 1) hm) (fun hc => rfl) ?_ ?_ ?_
  · intro hm q
    simp only [fX10_bellIn]
    rw [nl_1 q, Option.bind_some, if_neg n10]
  · intro hm q
    simp only [fX10_bellIn]
    rw [nl_0 q, Option.bind_some, if_pos rfl]
  · intro tb hc hm T L A nb ht hL h0
    obtain ⟨h, hR, hW, hl⟩ := hL
    have hw := hW.w
    have hmg := hW.mg
    have hco := hW.co
    have hf := FU_ge
    have e1 : T 1 = nI (tn (T 1)) := hco.1
    have e12 : T 12 = nI (tn (T 12)) := hmg.2.1
    have e13 : T 13 = nI (tn (T 13)) := hmg.2.2.1
    have eb : T 12 - T 13 = nI (tn (T 12) - tn (T 13)) := by
      conv => lhs; rw [e12, e13]
      exact n_sub (by omega)
    have es : fX1_spacesToBell 0 hc = (if T 1 < nI (tn (T 12) - tn (T 13)) then some (nI (tn (T 12) - tn (T 13)) - T 1) else some m1) := by
      show (fX1_bellColumn 0 hc).bind (fun v1 => if (hc (1, 0, 0) 3) < v1 then ((fX1_bellColumn 0 hc).bind fun v2 => some (v2 - (hc (1, 0, 0) 3))) else (some m1)) = _
      rw [c_bell h, Option.bind_some, h.1.a3, eb, Option.bind_some]
    by_cases q : tn (T 1) < tn (T 12) - tn (T 13)
    · refine ⟨.inl (nI (tn (T 12) - tn (T 13)) - T 1), nI (tn (T 12) - tn (T 13)) - T 1, 0, ?_, ?_, agr_ok⟩
      · show (fX1_spacesToBell 0 hc).bind (fun v3 => some (Sum.inl v3)) = _
        rw [es, if_pos (show T 1 < nI (tn (T 12) - tn (T 13)) by rw [e1, n_lt (tn_lt _) (by omega)]; exact q), Option.bind_some]
      · show (fX10_its 3 (rwm hm T)).bind (fun v4 => (fX10_its 4 (rwm hm T)).bind fun v5 => fX10_bellIn_28 FU (v4 - v5) ((rwm hm T) (11, 22, 0) 1) (rwm hm T)) = _
        rw [its_3, its_4, Option.bind_some, Option.bind_some, rwm_e, eb, th_0 h0]
        have := bell_1 (hm := hm) hW (tn (T 12) - tn (T 13) - 1 - tn (T 1)) (tn (T 1)) FU (by omega) (by omega)
        rw [← e1] at this
        exact this
    · refine ⟨.inl m1, m1, 0, ?_, ?_, agr_ok⟩
      · show (fX1_spacesToBell 0 hc).bind (fun v3 => some (Sum.inl v3)) = _
        rw [es, if_neg (show ¬ T 1 < nI (tn (T 12) - tn (T 13)) by rw [e1, n_lt (tn_lt _) (by omega)]; exact q), Option.bind_some]
      · show (fX10_its 3 (rwm hm T)).bind (fun v4 => (fX10_its 4 (rwm hm T)).bind fun v5 => fX10_bellIn_28 FU (v4 - v5) ((rwm hm T) (11, 22, 0) 1) (rwm hm T)) = _
        rw [its_3, its_4, Option.bind_some, Option.bind_some, rwm_e, eb, th_0 h0]
        have := bell_2 (hm := hm) hW (tn (T 9) - tn (T 1)) (tn (T 1)) FU (by omega) (by omega) (by omega)
        rw [← e1] at this
        exact this
/-- a look at a bar -/
theorem lookB {a : Int32} {C F : HP → Option (Int32 ⊕ Nat)} {M G : HP → Option (Int32 × HP)}
    (hC : ∀ hc, C hc = (fX9_requireLoaded hc).bind fun q2 => Sum.elim (fun _ => (fX9_requireBar a hc).bind fun q4 => Sum.elim (fun _ => F hc) (fun E => some (.inr E)) q4) (fun E => some (.inr E)) q2)
    (hM : ∀ hm, M hm = (fX10_noBar a hm).bind fun q2 => if q2.1 = 0 then G q2.2 else (some (0, q2.2)))
    (h : ∀ tb hc hm T L A nb k, tb < 500000000 → Ldd tb hc hm T L A nb → hm (10, 0, 0) 0 = 0 → k < nb → a = nI k → ∃ r b t, F hc = some r ∧ G (rwm hm T) = some (b, rwm (th hm t) T) ∧ agr [1, 3] r b t) : Look [1, 3] C M := by
  refine lookL (d0 := 0) rfl (F := fun hc => (fX9_requireBar a hc).bind fun q4 => Sum.elim (fun _ => F hc) (fun E => some (.inr E)) q4) (G := fun hm => (nbM a hm).bind fun q2 => if q2.1 = 0 then G q2.2 else (some (0, q2.2))) hC ?_ ?_ ?_
  · intro hm q
    rw [hM, noBar_1 q, Option.bind_some, if_neg n10]
  · intro hm q
    rw [hM, noBar_0 q]
  · intro tb hc hm T L A nb ht hL h0
    have hL' := hL
    obtain ⟨h1, hR, hW, hl⟩ := hL
    have hnb := hW.nb
    rcases ix_n a (n := nb) (by omega) with ⟨k, hk, rfl⟩ | ho
    · obtain ⟨r, b, t, s1, s2, ag⟩ := h tb hc hm T L A nb k ht hL' h0 hk rfl
      refine ⟨r, b, t, ?_, ?_, ag⟩
      · show (fX9_requireBar (nI k) hc).bind (fun q4 => Sum.elim (fun _ => F hc) (fun E => some (.inr E)) q4) = _
        rw [rqBar_in h1 hk, Option.bind_some]; exact s1
      · show (nbM (nI k) (rwm hm T)).bind (fun q2 => if q2.1 = 0 then G q2.2 else (some (0, q2.2))) = _
        rw [nbM_in (LA_rwm hl) (rwm_t h0) hk hnb, Option.bind_some, if_pos rfl]; exact s2
    · refine ⟨.inr 3, 0, nI (1 + 1), ?_, ?_, agr_th rfl⟩
      · show (fX9_requireBar a hc).bind (fun q4 => Sum.elim (fun _ => F hc) (fun E => some (.inr E)) q4) = _
        rw [rqBar_out h1 ho]; rfl
      · show (nbM a (rwm hm T)).bind (fun q2 => if q2.1 = 0 then G q2.2 else (some (0, q2.2))) = _
        rw [nbM_out (LA_rwm hl) (rwm_t h0) ho hnb, Option.bind_some, if_neg n10, th_rwm]; rfl
theorem op_wouldBe (a s : Int32) : Look [1, 3] (fX9_wouldBe a s) (fX10_wouldBe a s) := by
  refine lookB (a := a) (F := fun hc => (fX3_standingFault 0 1 hc).bind fun v5 => if v5 = 0 then ((fX7_at 0 0 5 hc).bind fun v6 => (fX0_strikeFault 0 a ((hc (3, 0, 0) 6) + v6) hc).bind fun v7 => some (.inl v7)) else (some (.inl v5))) (G := fun hm => (fX10_its 5 hm).bind fun v3 => (fX10_reasonOf a ((hm (11, 22, 0) 3) + v3) hm).bind fun v4 => some (v4, hm)) (fun hc => rfl) (fun hm => rfl) ?_
  intro tb hc hm T L A nb k ht hL h0 hk ha
  obtain ⟨h, hR, hW, hl⟩ := hL
  subst ha
  have hti := hW.ti
  have hpc := hW.pc
  have e3 : T 3 = nI (tn (T 3)) := hti.1
  have e14 : T 14 = nI (tn (T 14)) := hpc.1
  have et : T 3 + T 14 = nI (tn (T 3) + tn (T 14)) := by rw [← n_add, ← e3, ← e14]
  refine ⟨.inl (faT T A k (T 3 + T 14)), faT T A k (T 3 + T 14), 0, ?_, ?_, agr_ok⟩
  · show (fX3_standingFault 0 1 hc).bind (fun v5 => if v5 = 0 then ((fX7_at 0 0 5 hc).bind fun v6 => (fX0_strikeFault 0 (nI k) ((hc (3, 0, 0) 6) + v6) hc).bind fun v7 => some (Sum.inl v7)) else (some (.inl v5))) = _
    rw [c_stand1 h, Option.bind_some, c_s5 h, Option.bind_some, h.1.a5, c_fault h hW hk, Option.bind_some]
    unfold faT
    by_cases q : T 5 = m1
    · rw [if_pos q, if_pos q]
      by_cases q2 : lkT T (T 1) = 0
      · rw [if_pos q2, if_pos q2, if_pos rfl]
      · rw [if_neg q2, if_neg q2, if_neg (by decide)]
    · rw [if_neg q, if_neg q, if_neg (by decide)]
  · show (fX10_its 5 (rwm hm T)).bind (fun v3 => (fX10_reasonOf (nI k) (((rwm hm T) (11, 22, 0) 3) + v3) (rwm hm T)).bind fun v4 => some (v4, rwm hm T)) = _
    rw [its_5, Option.bind_some, rwm_e, et, m_reason hl hW (by omega) hk (by omega), Option.bind_some, th_0 h0]
theorem wj_of (hl : LA hm L A nb) (hW : WF tb T L A nb) (ht : tb < 1000000000) {b t : Nat} (hb : b < nb) (ht2 : t < 1000000000) (hn : ¬ nI t < baT T A b) : ∃ w, fX10_wouldJam (nI b) (nI t) (rwm hm T) = some w ∧ (w = 0 ↔ sfT T A b (nI t) = 0) := by
  have := m_jam hl hW ht hb ht2 hn
  cases hw : fX10_wouldJam (nI b) (nI t) (rwm hm T) with
  | none => rw [hw] at this; cases this
  | some w =>
    rw [hw, Option.bind_some] at this
    refine ⟨w, rfl, ?_⟩
    by_cases q : w = 0
    · rw [if_pos q] at this
      have h00 : sfT T A b (nI t) = 0 := (Option.some.inj this).symm
      exact ⟨fun _ => h00, fun _ => q⟩
    · rw [if_neg q] at this
      have h5 : sfT T A b (nI t) = 5 := (Option.some.inj this).symm
      exact ⟨fun p => absurd p q, fun p => by rw [h5] at p; exact absurd p (by decide)⟩
theorem free_aux (h : MR F h0 hc 0 T L A nb) (hl : LA hm L A nb) (hW : WF tb T L A nb) (ht : tb < 500000000) {b : Nat} (hb : b < nb) : ∀ k p n n', p + k = 1000 → k < n → k < n' → ∃ v, fX9_freeIn_11 n (nI b) (nI p) hc = some (.inl v) ∧ fX10_freeIn_12 n' (nI b) (nI p) (rwm hm T) = some (v, rwm hm T) := by
  have hti := hW.ti
  have e3 : T 3 = nI (tn (T 3)) := hti.1
  intro k
  induction k with
  | zero =>
    intro p n n' hp hn hn'
    obtain ⟨n, rfl⟩ : ∃ q, n = q + 1 := ⟨n - 1, by omega⟩
    obtain ⟨n', rfl⟩ : ∃ q, n' = q + 1 := ⟨n' - 1, by omega⟩
    have g : nI 999 < nI p := by rw [n_lt (by omega) (by omega)]; omega
    refine ⟨m1, ?_, ?_⟩
    · simp only [fX9_freeIn_11]; exact if_pos g
    · simp only [fX10_freeIn_12]; exact if_pos g
  | succ k ih =>
    intro p n n' hp hn hn'
    obtain ⟨n, rfl⟩ : ∃ q, n = q + 1 := ⟨n - 1, by omega⟩
    obtain ⟨n', rfl⟩ : ∃ q, n' = q + 1 := ⟨n' - 1, by omega⟩
    have g : ¬ (999 : Int32) < nI p := by show ¬ nI 999 < nI p; rw [n_lt (by omega) (by omega)]; omega
    have et : T 3 + nI p = nI (tn (T 3) + p) := by rw [← n_add, ← e3]
    simp only [fX9_freeIn_11, fX10_freeIn_12, fX10_freeIn_53]
    rw [if_neg g, if_neg g, h.1.a5, et, c_fault h hW hb, Option.bind_some, rwm_e, et, m_back2 hl hW (by omega) hb (by omega), Option.bind_some, ← nI_succ]
    by_cases q : nI (tn (T 3) + p) < baT T A b
    · have hs : sfT T A b (nI (tn (T 3) + p)) = 4 := by unfold sfT; rw [if_pos q]
      have hne : ¬ baT T A b - nI (tn (T 3) + p) = 0 := by
        rcases ba_b hW hb (by omega) with ⟨g1, g2⟩ | ⟨s, r, g0, g1, g2, g3, g4, g5, g6⟩
        · rw [g2] at q; exact absurd q (n_neg (by omega))
        · rw [g6] at q ⊢
          have q' := (n_lt (by omega) (by omega)).mp q
          rw [n_sub (by omega), n_lit 0, n_eq (by omega) (by omega)]; omega
      rw [if_pos q, if_neg hne, hs, if_neg (show ¬ (4 : Int32) = 0 by decide)]
      exact ih (p + 1) n n' (by omega) (by omega) (by omega)
    · obtain ⟨w, w1, w2⟩ := wj_of hl hW (by omega) hb (t := tn (T 3) + p) (by omega) q
      rw [if_neg q, if_pos rfl, w1, Option.bind_some]
      by_cases q3 : w = 0
      · rw [if_pos q3, if_pos (w2.mp q3)]; exact ⟨_, rfl, rfl⟩
      · rw [if_neg q3, if_neg (fun e => q3 (w2.mpr e))]
        exact ih (p + 1) n n' (by omega) (by omega) (by omega)
theorem op_freeIn (a : Int32) : Look [1, 3] (fX9_freeIn a) (fX10_freeIn a) := by
  refine lookB (a := a) (F := fun hc => fX9_freeIn_11 FU a 1 hc) (G := fun hm => fX10_freeIn_12 FU a 1 hm) (fun hc => rfl) (fun hm => rfl) ?_
  intro tb hc hm T L A nb k ht hL h0 hk ha
  obtain ⟨h, hR, hW, hl⟩ := hL
  subst ha
  have hf := FU_ge
  obtain ⟨v, s1, s2⟩ := free_aux h hl hW ht hk 999 1 FU FU (by omega) (by omega) (by omega)
  exact ⟨.inl v, v, 0, s1, by rw [th_0 h0]; exact s2, agr_ok⟩
theorem slow_aux (h : MR F h0 hc 0 T L A nb) (hl : LA hm L A nb) : ∀ (k j n n' : Nat) (w : Int32), j + k = nb → k < n → k < n' → (w = m1 ∨ ∃ b, b < nb ∧ w = nI b) → ∃ v, fX0_withGreatestRise_4 n 0 w (nI j) hc = some v ∧ fX10_slowest_13 n' w (nI j) (rwm hm T) = some (v, rwm hm T) := by
  have hnb := h.2.2.2.1
  intro k
  induction k with
  | zero =>
    intro j n n' w hj hn hn' hw
    obtain ⟨n, rfl⟩ : ∃ q, n = q + 1 := ⟨n - 1, by omega⟩
    obtain ⟨n', rfl⟩ : ∃ q, n' = q + 1 := ⟨n' - 1, by omega⟩
    have g : ¬ nI j < nI nb := by rw [n_lt (by omega) (by omega)]; omega
    refine ⟨w, ?_, ?_⟩
    · simp only [fX0_withGreatestRise_4]; rw [h.1.a6, if_neg g]
    · simp only [fX10_slowest_13]; rw [(LA_rwm hl).2.2, if_neg g]
  | succ k ih =>
    intro j n n' w hj hn hn' hw
    obtain ⟨n, rfl⟩ : ∃ q, n = q + 1 := ⟨n - 1, by omega⟩
    obtain ⟨n', rfl⟩ : ∃ q, n' = q + 1 := ⟨n' - 1, by omega⟩
    have g : nI j < nI nb := by rw [n_lt (by omega) (by omega)]; omega
    have step := fun (w' : Int32) (hw' : w' = m1 ∨ ∃ b, b < nb ∧ w' = nI b) => ih (j + 1) n n' w' (by omega) (by omega) (by omega) hw'
    simp only [fX0_withGreatestRise_4, fX10_slowest_13, fX0_withGreatestRise_32, fX0_withGreatestRise_30, fX10_slowest_44, fX10_slowest_39]
    rw [h.1.a6, (LA_rwm hl).2.2, if_pos g, if_pos g, ← nI_succ]
    by_cases q : w = m1
    · rw [if_pos q, if_pos q]; exact step _ (Or.inr ⟨j, by omega, rfl⟩)
    · obtain ⟨b, hb, e⟩ := hw.resolve_left q
      rw [if_neg q, if_neg q, e, c_rise h (by omega), c_rise h hb, m_rise hl (by omega), m_rise hl (by omega)]
      simp only [Option.bind_some]
      by_cases q2 : riT T A b < riT T A j
      · rw [if_pos q2, if_pos q2]; exact step _ (Or.inr ⟨j, by omega, rfl⟩)
      · rw [if_neg q2, if_neg q2]; exact step _ (Or.inr ⟨b, hb, rfl⟩)
theorem op_slowest : Look [1] fX9_slowest fX10_slowest := by
  refine lookL (d0 := 0) rfl (F := fun hc => (fX0_withGreatestRise 0 hc).bind fun v3 => some (.inl v3)) (G := fun hm => fX10_slowest_13 FU m1 0 hm) (fun hc => rfl) ?_ ?_ ?_
  · intro hm q
    simp only [fX10_slowest]
    rw [nl_1 q, Option.bind_some, if_neg n10]
  · intro hm q
    simp only [fX10_slowest]
    rw [nl_0 q, Option.bind_some, if_pos rfl]
  · intro tb hc hm T L A nb ht hL h0
    obtain ⟨h, hR, hW, hl⟩ := hL
    have hf := FU_ge
    have hnb := hW.nb
    obtain ⟨v, s1, s2⟩ := slow_aux (T := T) h hl nb 0 FU FU m1 (by omega) (by omega) (by omega) (Or.inl rfl)
    refine ⟨.inl v, v, 0, ?_, by rw [th_0 h0]; exact s2, agr_ok⟩
    show (fX0_withGreatestRise_4 FU 0 m1 (nI 0) hc).bind (fun v3 => some (Sum.inl v3)) = _
    rw [s1, Option.bind_some]
/-- both look for the least pace at the same places -/
theorem pace_aux (hl : LA hm L A nb) (hW : WF tb T L A nb) {a b r s u : Nat} (ha : a < nb) (hb : b < nb) (er : riT T A a = nI r) (es : riT T A b = nI s) (eu : rmT T A a b = nI u) (hr : r ≤ 108) (hs : s ≤ 108) (hr1 : 1 ≤ r) : ∀ (k p n n' : Nat), p + k = 2 * r → 1 ≤ p → k < n → k < n' → ∃ v, fX0_leastPace_32 n m (nI a) (nI b) (nI (2 * r)) (nI s - nI r) (nI u) (nI p) hc = some (nI v) ∧ fX10_paceBetween_2 n' (nI a) (nI b) (nI p) (rwm hm T) = some (nI v) ∧ 1 ≤ v ∧ v ≤ 216 := by
  have hnb := hW.nb
  have e2r : (2 : Int32) * nI r = nI (2 * r) := n_mul 2 r
  intro k
  induction k with
  | zero =>
    intro p n n' hp hp1 hn hn'
    obtain ⟨n, rfl⟩ : ∃ q, n = q + 1 := ⟨n - 1, by omega⟩
    obtain ⟨n', rfl⟩ : ∃ q, n' = q + 1 := ⟨n' - 1, by omega⟩
    have g : ¬ nI p < nI (2 * r) := by rw [n_lt (by omega) (by omega)]; omega
    have g9 : ¬ (999 : Int32) < nI p := by show ¬ nI 999 < nI p; rw [n_lt (by omega) (by omega)]; omega
    refine ⟨p, ?_, ?_, hp1, by omega⟩
    · simp only [fX0_leastPace_32, fX0_leastPace_62, fX0_leastPace_63, fX0_leastPace_76]
      rw [if_neg g9]
      simp only [if_neg g, ite_self]
    · simp only [fX10_paceBetween_2]
      rw [m_rise hl (by omega), Option.bind_some, er, e2r, if_neg g, Option.bind_some, e2r]
      have : p = 2 * r := by omega
      rw [this]
  | succ k ih =>
    intro p n n' hp hp1 hn hn'
    obtain ⟨n, rfl⟩ : ∃ q, n = q + 1 := ⟨n - 1, by omega⟩
    obtain ⟨n', rfl⟩ : ∃ q, n' = q + 1 := ⟨n' - 1, by omega⟩
    have g : nI p < nI (2 * r) := by rw [n_lt (by omega) (by omega)]; omega
    have g9 : ¬ (999 : Int32) < nI p := by show ¬ nI 999 < nI p; rw [n_lt (by omega) (by omega)]; omega
    have step := ih (p + 1) n n' (by omega) (by omega) (by omega) (by omega)
    have ip := n_i (show p < 2147483648 by omega)
    have ir := n_i (show r < 2147483648 by omega)
    have is := n_i (show s < 2147483648 by omega)
    have c1 : (nI p + nI s).toInt = (p : Int) + s := by rw [add_s (by omega) (by omega), ip, is]
    have c2 : (nI s - nI r).toInt = (s : Int) - r := by rw [sub_s (by omega) (by omega), is, ir]
    have ea : nI p + (nI s - nI r) = (nI p + nI s) - nI r := by
      rw [eqi, add_s (x := nI p) (y := nI s - nI r) (by omega) (by omega), c2, sub_s (x := nI p + nI s) (by omega) (by omega), c1, ip, ir]; omega
    simp only [fX0_leastPace_32, fX0_leastPace_62, fX0_leastPace_63, fX0_leastPace_76, fX10_paceBetween_2, fX10_paceBetween_43, fX10_paceBetween_57]
    rw [if_neg g9, m_rise hl (by omega), m_rise hl (by omega), m_clear hl (by omega) (by omega), er, es, eu]
    simp only [Option.bind_some]
    rw [e2r, if_pos g, if_pos g, if_pos g]
    simp only [if_true, if_neg n10]
    rw [ea, ← nI_succ]
    by_cases q : nI a = nI b
    · rw [if_pos q, if_pos q, if_pos q]
      simp only [ite_self]
      exact step
    · rw [if_neg q, if_neg q, if_neg q]
      by_cases q2 : iabs ((nI p + nI s) - nI r) < nI u
      · rw [if_pos q2, if_pos q2]; exact step
      · rw [if_neg q2, if_neg q2]
        exact ⟨p, rfl, rfl, hp1, by omega⟩
theorem pace_p (h : MR F h0 hc m T L A nb) (hl : LA hm L A nb) (hW : WF tb T L A nb) {a b : Nat} (ha : a < nb) (hb : b < nb) : ∃ v, fX0_leastPace m (nI a) (nI b) hc = some (nI v) ∧ fX10_paceBetween (nI a) (nI b) (rwm hm T) = some (nI v) ∧ 1 ≤ v ∧ v ≤ 216 := by
  have hf := FU_ge
  obtain ⟨r, er, r1, r2⟩ := rs_b hW ha
  obtain ⟨s, es, s1, s2⟩ := rs_b hW hb
  obtain ⟨u, eu, u1⟩ := rm_b hW ha hb
  obtain ⟨v, v1, v2, v3, v4⟩ := pace_aux (hm := hm) (hc := hc) (m := m) hl hW ha hb er es eu r2 s2 r1 (2 * r - 1) 1 FU FU (by omega) (by omega) (by omega) (by omega)
  refine ⟨v, ?_, v2, v3, v4⟩
  show (fX0_riseOf m (nI a) hc).bind (fun v1 => (fX0_riseOf m (nI b) hc).bind fun v2 => (fX0_riseOf m (nI a) hc).bind fun v3 => (fX0_roomOf m (nI a) (nI b) hc).bind fun v4 => fX0_leastPace_32 FU m (nI a) (nI b) (2 * v1) (v2 - v3) v4 1 hc) = _
  rw [c_rise h ha, c_rise h hb, c_room h ha hb, er, es, eu]
  simp only [Option.bind_some]
  rw [show (2 : Int32) * nI r = nI (2 * r) from n_mul 2 r]
  exact v1
theorem op_paceOf (a b : Int32) : Look [1, 3] (fX9_paceOf a b) (fX10_paceOf a b) := by
  refine lookB (a := a) (F := fun hc => (fX9_requireBar b hc).bind fun q6 => Sum.elim (fun _ => (fX0_leastPace 0 a b hc).bind fun v7 => some (.inl v7)) (fun E => some (.inr E)) q6) (G := fun hm => (fX10_isBar b hm).bind fun v6 => if v6 = 0 then (fX10_paceOf_22 a b 1 hm) else (fX10_paceOf_22 a b 0 hm)) (fun hc => rfl) (fun hm => rfl) ?_
  intro tb hc hm T L A nb k ht hL h0 hk ha
  obtain ⟨h, hR, hW, hl⟩ := hL
  subst ha
  have hnb := hW.nb
  rcases ix_n b (n := nb) (by omega) with ⟨j, hj, rfl⟩ | ho
  · obtain ⟨v, v1, v2, v3, v4⟩ := pace_p (hm := hm) h hl hW hk hj
    refine ⟨.inl (nI v), nI v, 0, ?_, ?_, agr_ok⟩
    · show (fX9_requireBar (nI j) hc).bind (fun q6 => Sum.elim (fun _ => (fX0_leastPace 0 (nI k) (nI j) hc).bind fun v7 => some (Sum.inl v7)) (fun E => some (.inr E)) q6) = _
      rw [rqBar_in h hj, Option.bind_some]
      show (fX0_leastPace 0 (nI k) (nI j) hc).bind (fun v7 => some (Sum.inl v7)) = _
      rw [v1, Option.bind_some]
    · show (fX10_isBar (nI j) (rwm hm T)).bind (fun v6 => if v6 = 0 then (fX10_paceOf_22 (nI k) (nI j) 1 (rwm hm T)) else (fX10_paceOf_22 (nI k) (nI j) 0 (rwm hm T))) = _
      rw [isBar_in (LA_rwm hl) hj hnb, Option.bind_some, if_neg n10, th_0 h0]
      simp only [fX10_paceOf_22]
      rw [rf_no (rwm_t h0), Option.bind_some, if_pos rfl, v2, Option.bind_some]
  · refine ⟨.inr 3, 0, nI (1 + 1), ?_, ?_, agr_th rfl⟩
    · show (fX9_requireBar b hc).bind (fun q6 => Sum.elim (fun _ => (fX0_leastPace 0 (nI k) b hc).bind fun v7 => some (Sum.inl v7)) (fun E => some (.inr E)) q6) = _
      rw [rqBar_out h ho]; rfl
    · show (fX10_isBar b (rwm hm T)).bind (fun v6 => if v6 = 0 then (fX10_paceOf_22 (nI k) b 1 (rwm hm T)) else (fX10_paceOf_22 (nI k) b 0 (rwm hm T))) = _
      rw [isBar_out (LA_rwm hl) ho hnb, Option.bind_some, if_pos rfl]
      simp only [fX10_paceOf_22]
      rw [rf_yes (rwm_t h0) (show ¬ (2 : Int32) = 0 by decide), Option.bind_some, if_neg n10, th_rwm]; rfl
theorem worst_in (h : MR F h0 hc 0 T L A nb) (hl : LA hm L A nb) (hW : WF tb T L A nb) {a : Nat} (ha : a < nb) {k6 : Int32 → Int32 → Int32 → HP → Option Int32} {k15 : Int32 → Int32 → Int32 → HP → Option (Int32 × HP)} : ∀ (k j n n' : Nat) (w p : Int32), j + k = nb → k < n → k < n' → ∃ w' p', fX0_slowestPair_17 n 0 w p (nI a) (nI j) k6 hc = k6 w' p' (nI (a + 1)) hc ∧ fX10_worstPair_26 n' w p (nI a) (nI j) k15 (rwm hm T) = k15 w' p' (nI (a + 1)) (rwm hm T) := by
  have hnb := hW.nb
  intro k
  induction k with
  | zero =>
    intro j n n' w p hj hn hn'
    obtain ⟨n, rfl⟩ : ∃ q, n = q + 1 := ⟨n - 1, by omega⟩
    obtain ⟨n', rfl⟩ : ∃ q, n' = q + 1 := ⟨n' - 1, by omega⟩
    have g : ¬ nI j < nI nb := by rw [n_lt (by omega) (by omega)]; omega
    refine ⟨w, p, ?_, ?_⟩
    · simp only [fX0_slowestPair_17]; rw [h.1.a6, if_neg g, ← nI_succ]
    · simp only [fX10_worstPair_26]; rw [(LA_rwm hl).2.2, if_neg g, ← nI_succ]
  | succ k ih =>
    intro j n n' w p hj hn hn'
    obtain ⟨n, rfl⟩ : ∃ q, n = q + 1 := ⟨n - 1, by omega⟩
    obtain ⟨n', rfl⟩ : ∃ q, n' = q + 1 := ⟨n' - 1, by omega⟩
    have g : nI j < nI nb := by rw [n_lt (by omega) (by omega)]; omega
    obtain ⟨v, v1, v2, v3, v4⟩ := pace_p (hm := hm) h hl hW ha (b := j) (by omega)
    simp only [fX0_slowestPair_17, fX10_worstPair_26, fX0_slowestPair_49, fX0_slowestPair_68, fX10_worstPair_61]
    rw [h.1.a6, (LA_rwm hl).2.2, if_pos g, if_pos g, v1, v2, Option.bind_some, Option.bind_some, if_neg (n_m1 (show v < 2147483648 by omega)), ← nI_succ]
    unfold imax
    by_cases q : p < nI v
    · rw [if_pos q, if_pos q, if_pos q]; exact ih (j + 1) n n' _ _ (by omega) (by omega) (by omega)
    · rw [if_neg q, if_neg q, if_neg q]; exact ih (j + 1) n n' _ _ (by omega) (by omega) (by omega)
theorem worst_out (h : MR F h0 hc 0 T L A nb) (hl : LA hm L A nb) (hW : WF tb T L A nb) : ∀ (k a n n' : Nat) (w p : Int32), a + k = nb → k < n → k < n' → ∃ v, fX0_slowestPair_6 n 0 w p (nI a) hc = some v ∧ fX10_worstPair_15 n' w p (nI a) (rwm hm T) = some (v, rwm hm T) := by
  have hnb := hW.nb
  have hf := FU_ge
  intro k
  induction k with
  | zero =>
    intro j n n' w p hj hn hn'
    obtain ⟨n, rfl⟩ : ∃ q, n = q + 1 := ⟨n - 1, by omega⟩
    obtain ⟨n', rfl⟩ : ∃ q, n' = q + 1 := ⟨n' - 1, by omega⟩
    have g : ¬ nI j < nI nb := by rw [n_lt (by omega) (by omega)]; omega
    refine ⟨w, ?_, ?_⟩
    · simp only [fX0_slowestPair_6]; rw [h.1.a6, if_neg g]
    · simp only [fX10_worstPair_15]; rw [(LA_rwm hl).2.2, if_neg g]
  | succ k ih =>
    intro a n n' w p hj hn hn'
    obtain ⟨n, rfl⟩ : ∃ q, n = q + 1 := ⟨n - 1, by omega⟩
    obtain ⟨n', rfl⟩ : ∃ q, n' = q + 1 := ⟨n' - 1, by omega⟩
    have g : nI a < nI nb := by rw [n_lt (by omega) (by omega)]; omega
    obtain ⟨w', p', s1, s2⟩ := worst_in (hm := hm) h hl hW (a := a) (by omega) (k6 := fun x1 x2 x3 hq => fX0_slowestPair_6 n 0 x1 x2 x3 hq) (k15 := fun x1 x2 x3 hq => fX10_worstPair_15 n' x1 x2 x3 hq) nb 0 FU FU w p (by omega) (by omega) (by omega)
    simp only [fX0_slowestPair_6, fX10_worstPair_15]
    rw [h.1.a6, (LA_rwm hl).2.2, if_pos g, if_pos g]
    have s1' : fX0_slowestPair_17 FU 0 w p (nI a) 0 (fun x1 x2 x3 hq => fX0_slowestPair_6 n 0 x1 x2 x3 hq) hc = fX0_slowestPair_6 n 0 w' p' (nI (a + 1)) hc := s1
    have s2' : fX10_worstPair_26 FU w p (nI a) 0 (fun x1 x2 x3 hq => fX10_worstPair_15 n' x1 x2 x3 hq) (rwm hm T) = fX10_worstPair_15 n' w' p' (nI (a + 1)) (rwm hm T) := s2
    rw [s1', s2']
    exact ih (a + 1) n n' _ _ (by omega) (by omega) (by omega)
theorem op_worstPair : Look [1] fX9_worstPair fX10_worstPair := by
  refine lookL (d0 := 0) rfl (F := fun hc => (fX0_slowestPair 0 hc).bind fun v3 => some (.inl v3)) (G := fun hm => fX10_worstPair_15 FU m1 0 0 hm) (fun hc => rfl) ?_ ?_ ?_
  · intro hm q
    simp only [fX10_worstPair]
    rw [nl_1 q, Option.bind_some, if_neg n10]
  · intro hm q
    simp only [fX10_worstPair]
    rw [nl_0 q, Option.bind_some, if_pos rfl]
  · intro tb hc hm T L A nb ht hL h0
    obtain ⟨h, hR, hW, hl⟩ := hL
    have hf := FU_ge
    have hnb := hW.nb
    obtain ⟨v, s1, s2⟩ := worst_out (hm := hm) h hl hW nb 0 FU FU m1 0 (by omega) (by omega) (by omega)
    refine ⟨.inl v, v, 0, ?_, by rw [th_0 h0]; exact s2, agr_ok⟩
    show (fX0_slowestPair_6 FU 0 m1 0 (nI 0) hc).bind (fun v3 => some (Sum.inl v3)) = _
    rw [s1, Option.bind_some]
end
