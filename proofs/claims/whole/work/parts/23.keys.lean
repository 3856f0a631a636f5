/-! ===== keys keep a row well ===== -/
section
variable {T L A : Tr0} {tb nb : Nat}
theorem uT_comm {T : Tr0} {a b : Nat} {x y : Int32} (h : a ≠ b) : uT (uT T a x) b y = uT (uT T b y) a x := by
  funext j; unfold uT
  by_cases h1 : j = a
  · rw [if_neg (by omega), if_pos h1, if_pos h1]
  · rw [if_neg h1, if_neg h1]
theorem WF_mono {tb' : Nat} (hW : WF tb T L A nb) (h : tb ≤ tb') : WF tb' T L A nb := by
  intro i
  match i with
  | 0 => exact hW 0
  | 1 => exact hW 1
  | 2 => exact hW 2
  | 3 => exact hW 3
  | 4 => exact hW 4
  | 5 => exact hW 5
  | 6 => exact hW 6
  | 7 => exact hW 7
  | 8 => exact hW 8
  | 9 => exact hW 9
  | 10 => exact hW 10
  | 11 => exact hW 11
  | 12 => exact ⟨hW.ti.1, Nat.le_trans hW.ti.2 h⟩
  | 13 => exact hW 13
  | 14 => exact hW 14
  | 15 => exact hW 15
  | 16 => exact hW 16
  | 17 => exact hW 17
  | 18 => exact hW 18
  | 19 => exact hW 19
  | 20 => exact hW 20
  | 21 => exact hW 21
  | 22 => exact hW 22
  | 23 => exact hW 23
  | 24 => exact hW 24
  | 25 => exact hW 25
  | n + 26 => exact trivial
theorem n_succ' {x : Int32} (h : isN x) (h2 : tn x < 1000000) : x + 1 = nI (tn x + 1) := by
  have h' : x = nI (tn x) := h
  rw [nI_succ, ← h']
theorem WF_adT (hW : WF tb T L A nb) (hc : tn (T 1) < tn (T 9)) : WF tb (adT T) L A nb := by
  have hw := hW.w
  have hx : T 1 + 1 = nI (tn (T 1) + 1) := n_succ' hW.co.1 (by omega)
  have h1 : WF tb (uT T 1 (T 1 + 1)) L A nb := WF_col hW (by rw [hx]; exact isN_n (by omega)) (by rw [hx, n_t (by omega)]; omega)
  unfold adT
  split
  · exact WF_free h1 (by omega)
  · exact h1
theorem WF_roT (hW : WF tb T L A nb) : WF tb (roT T) L A nb := by
  have hlg := hW.lg
  have hhe := hW.he
  unfold roT
  split
  · split
    · rename_i h
      have hx : T 7 + 1 = nI (tn (T 7) + 1) := n_succ' hhe.1 (by omega)
      have h' := lt_i.mp h
      rw [hx, n_i (by omega), isN_i hlg.1] at h'
      exact WF_hea hW (by rw [hx]; exact isN_n (by omega)) (by rw [hx, n_t (by omega)]; omega)
    · exact WF_free (WF_fwd hW (Or.inl rfl)) (by omega)
  · split
    · exact WF_free (WF_fwd hW (Or.inr rfl)) (by omega)
    · rename_i h
      have h7 : T 7 = nI (tn (T 7)) := hhe.1
      have h0 : tn (T 7) ≠ 0 := fun q => h (by rw [h7, q]; rfl)
      have hx : T 7 - 1 = nI (tn (T 7) - 1) := by
        rw [n_lit 1]
        conv => lhs; rw [h7]
        exact n_sub (by omega)
      exact WF_hea hW (by rw [hx]; exact isN_n (by omega)) (by rw [hx, n_t (by omega)]; omega)
theorem ink_b (hW : WF tb T L A nb) {q : Nat} (hq : q < 60) : isN (imax 0 (T (130 + q) - T 20)) ∧ tn (imax 0 (T (130 + q) - T 20)) ≤ 9 := by
  have h1 := hW.ii q hq
  have h2 := hW.ws
  have e1 := isN_i h1.1
  have e2 := isN_i h2.1
  have z : (0 : Int32).toInt = 0 := rfl
  have hx : imax 0 (T (130 + q) - T 20) = nI (tn (T (130 + q)) - tn (T 20)) := by
    rw [eqi, imax_i, sub_s (by omega) (by omega), n_i (by omega), z]; omega
  rw [hx]
  exact ⟨isN_n (by omega), by rw [n_t (by omega)]; omega⟩
theorem WF_feT (hW : WF tb T L A nb) : WF tb (feT T) L A nb := by
  have hhe := hW.he
  have hlg := hW.lg
  have h := ink_b hW (show tn (T 7) < 60 by omega)
  exact WF_roT (WF_ink hW (by omega) h.1 h.2)
theorem WF_prT (hW : WF tb T L A nb) (hc : tn (T 1) < tn (T 9)) {x : Int32} (hx : x ≠ 32) : WF tb (prT T x) L A nb := by
  have hli := hW.li
  have e1 : 190 + plT T = 190 + 40 * tn (T 0) + tn (T 1) := by unfold plT; omega
  have e2 : 670 + plT T = 670 + 40 * tn (T 0) + tn (T 1) := by unfold plT; omega
  have ho : WF tb (ovT T) L A nb := by
    unfold ovT; split
    · exact hW
    · exact WF_free hW (by omega)
  have o : ∀ j, j < 34 → ovT T j = T j := fun j h => by
    unfold ovT; split
    · rfl
    · exact uT_n (by omega)
  unfold prT
  refine WF_feT (WF_free ?_ (by omega))
  rw [e2]
  refine WF_drk ?_ ?_ ?_ ?_
  · rw [e1]
    exact WF_sgn ho (by rw [o 10 (by omega)]; omega) (by rw [o 9 (by omega)]; omega) hx
  · rw [uT_n (by omega), o 10 (by omega)]; omega
  · rw [uT_n (by omega), o 9 (by omega)]; omega
  · have hln := hW.ln
    have hw := hW.w
    have hhe := hW.he
    have hlg := hW.lg
    have k1 := hW.dk (tn (T 0)) (tn (T 1)) (by omega) (by omega)
    have k2 := hW.ii (tn (T 7)) (by omega)
    have i1 := isN_i k1.1
    have i2 := isN_i k2.1
    have z9 : (9 : Int32).toInt = 9 := rfl
    have hx : imin 9 (T (670 + 40 * tn (T 0) + tn (T 1)) + T (130 + tn (T 7))) = nI (min 9 (tn (T (670 + 40 * tn (T 0) + tn (T 1))) + tn (T (130 + tn (T 7))))) := by
      rw [eqi, imin_i, add_s (by omega) (by omega), z9, n_i (by omega)]; omega
    rw [hx]
    exact ⟨isN_n (by omega), by rw [n_t (by omega)]; omega⟩
theorem WF_skT (hW : WF tb T L A nb) {b : Nat} (hb : b < nb) (hc : tn (T 1) < tn (T 9)) (sh : Int32) : WF tb (skT T L b sh) L A nb := by
  have hnb := hW.nb
  have hle := hW.le b hb
  have hL : L b = nI (tn (L b)) := hle.1
  have hS : ∀ j, (j < 38 ∨ 90 ≤ j) → j ≠ 4 → (uT (uT (uT T (38 + 2 * b) (T 3)) (39 + 2 * b) (T (39 + 2 * b) + 1)) 4 (nI b)) j = T j := fun j h h' => by
    rw [uT_n h', uT_n (by omega), uT_n (by omega)]
  have h1 : WF tb (uT (uT (uT T (38 + 2 * b) (T 3)) (39 + 2 * b) (T (39 + 2 * b) + 1)) 4 (nI b)) L A nb :=
    WF_lat (WF_free (WF_str hW hb (Or.inr ⟨hW.ti.1, Nat.le_refl _⟩)) (by omega)) hb
  have hx : (if sh = 0 then L b else L b - 32) ≠ 32 := by
    split
    · intro q; rw [q] at hle; exact absurd hle.2.1 (by decide)
    · intro q
      have hs : L b - 32 = nI (tn (L b) - 32) := by
        rw [n_lit 32]
        conv => lhs; rw [hL]
        exact n_sub (by omega)
      rw [hs, n_lit 32, n_eq (by omega) (by omega)] at q
      omega
  have h2 : WF tb (prT (uT (uT (uT T (38 + 2 * b) (T 3)) (39 + 2 * b) (T (39 + 2 * b) + 1)) 4 (nI b)) (if sh = 0 then L b else L b - 32)) L A nb :=
    WF_prT h1 (by rw [hS 1 (by omega) (by omega), hS 9 (by omega) (by omega)]; exact hc) hx
  unfold skT
  refine WF_adT h2 ?_
  have p : ∀ (S : Tr0) (x : Int32) (j : Nat), j < 25 → j ≠ 7 → j ≠ 8 → prT S x j = S j := by
    intro S x j h h7 h8
    have r : ∀ R : Tr0, roT R j = R j := fun R => by
      unfold roT; split <;> split <;> simp only [uT_n h7, uT_n h8, uT_n (show j ≠ 33 by omega)]
    unfold prT feT
    rw [r, uT_n (by omega), uT_n (by omega), uT_n (by unfold plT; omega), uT_n (by unfold plT; omega)]
    unfold ovT; split
    · rfl
    · exact uT_n (by omega)
  rw [p _ _ 1 (by omega) (by omega) (by omega), p _ _ 9 (by omega) (by omega) (by omega), hS 1 (by omega) (by omega), hS 9 (by omega) (by omega)]
  exact hc
theorem WF_enT (hW : WF tb T L A nb) (v : Int32) : WF tb (enT T v) L A nb := by
  unfold enT
  refine WF_free (WF_free ?_ (by omega)) (by omega)
  split
  · exact hW
  · exact WF_free hW (by omega)
theorem sfT_5 {b : Nat} {t : Int32} (h : sfT T A b t = 5) : ¬ T 4 = m1 := by
  unfold sfT at h
  intro q
  rw [if_pos q] at h
  split at h <;> exact absurd h (by decide)
theorem faT_5 {b : Nat} {t : Int32} (h : faT T A b t = 5) : ¬ T 4 = m1 := by
  unfold faT at h
  split at h
  · split at h
    · exact sfT_5 h
    · exact absurd h (by decide)
  · exact absurd h (by decide)
theorem WF_leT (hW : WF tb T L A nb) (ht : tb < 900000000) {b : Nat} (hb : b < nb) (sh : Int32) : WF (tb + 999) (leT T L A b sh) L A nb := by
  have hB := WF_beT hW (by omega)
  have hnb := hW.nb
  unfold leT
  refine WF_enT ?_ _
  split
  · rename_i h
    have h4 := faT_5 h
    obtain ⟨g1, g2⟩ := hB.la.resolve_left h4
    exact WF_free (WF_jam hB (Or.inr ⟨isN_n (by omega), g1, by rw [n_t (by omega)]; exact hb, g2⟩)) (by omega)
  · split
    · rename_i h
      exact WF_skT hB hb (lock_lt hB (faT_lock h)) sh
    · exact hB
theorem tabF_b (hW : WF tb T L A nb) {c : Nat} (hc : c ≤ tn (T 9)) : ∀ k j, j + k ≤ tn (T 9) ∨ k = 0 → ∃ q, tabF T k j (nI c) = nI q ∧ q ≤ tn (T 9) := by
  have hw := hW.w
  have hmg := hW.mg
  have h12 : T 12 = nI (tn (T 12)) := hmg.2.1
  intro k
  induction k with
  | zero =>
    intro j _
    exact ⟨max c (tn (T 12)), by show imax (nI c) (T 12) = _; rw [h12, n_t (by omega)]; exact imax_n (by omega) (by omega), by omega⟩
  | succ k ih =>
    intro j hj
    show ∃ q, (if T (90 + j) = 0 then tabF T k (j + 1) (nI c) else nI j) = nI q ∧ q ≤ tn (T 9)
    split
    · exact ih (j + 1) (by omega)
    · exact ⟨j, rfl, by omega⟩
theorem tabT_b (hW : WF tb T L A nb) {c : Nat} (hc : c ≤ tn (T 9)) : ∃ q, tabT T c = nI q ∧ q ≤ tn (T 9) :=
  tabF_b hW hc _ _ (by omega)
theorem bkT_b {T : Tr0} {c : Nat} (hc : c < 1000000) : ∃ q, bkT T (nI c) = nI q ∧ q ≤ c := by
  unfold bkT
  have hs : ¬ nI c = 0 → nI c - 1 = nI (c - 1) := fun h => by
    rw [n_lit 1]; exact n_sub (by have : c ≠ 0 := fun q => h (by rw [q]; rfl); omega)
  split
  · exact ⟨c, rfl, Nat.le_refl _⟩
  · rename_i h
    split
    · split
      · exact ⟨c, rfl, Nat.le_refl _⟩
      · exact ⟨c - 1, hs h, by omega⟩
    · exact ⟨c - 1, hs h, by omega⟩
theorem WF_frT (hW : WF tb T L A nb) (ht : tb < 1000000000) : WF (tb + 100) (frT T) L A nb := by
  have hti := hW.ti
  have h3 : T 3 = nI (tn (T 3)) := hti.1
  have hx : T 3 + 100 = nI (tn (T 3) + 100) := by rw [← n_add, ← h3]; rfl
  unfold frT
  split
  · exact WF_tim hW (by rw [hx]; exact isN_n (by omega)) (by rw [hx, n_t (by omega)]; omega) (by rw [hx, n_t (by omega)]; omega)
  · rename_i h
    rcases hW.ja with ⟨h5, _⟩ | ⟨h5, h6, h5', h6'⟩
    · exact absurd h5 h
    · have hnb := hW.nb
      rw [uT_comm (show (5 : Nat) ≠ 38 + 2 * tn (T 6) by omega)]
      have g : WF tb (uT (uT (uT (uT T (38 + 2 * tn (T 5)) m1) (38 + 2 * tn (T 6)) m1) 5 m1) 6 m1) L A nb :=
        WF_jam (WF_str (WF_str hW h5' (Or.inl rfl)) h6' (Or.inl rfl)) (Or.inl ⟨rfl, rfl⟩)
      have e3 : (uT (uT (uT (uT T (38 + 2 * tn (T 5)) m1) (38 + 2 * tn (T 6)) m1) 5 m1) 6 m1) 3 = T 3 := by
        rw [uT_n (by decide), uT_n (by decide), uT_n (by omega), uT_n (by omega)]
      exact WF_tim g (by rw [hx]; exact isN_n (by omega)) (by rw [e3, hx, n_t (by omega)]; omega) (by rw [hx, n_t (by omega)]; omega)
theorem ovR_0 {T : Tr0} (h : ovR T 0 = 0) : lkT T (T 1) = 0 := by
  have hv : ovR T 0 = if T 5 = m1 then (if lkT T (T 1) = 0 then 0 else 2) else 1 := rfl
  rw [hv] at h
  split at h
  · split at h
    · assumption
    · exact absurd h (by decide)
  · exact absurd h (by decide)
theorem ovR_3 {T : Tr0} (h : ovR T (nI 3) = 0) : T 0 + T 21 < T 10 := by
  have hv : ovR T (nI 3) = if T 5 = m1 then (if T 0 + T 21 < T 10 then 0 else 6) else 1 := rfl
  rw [hv] at h
  split at h
  · split at h
    · assumption
    · exact absurd h (by decide)
  · exact absurd h (by decide)
theorem WF_doT (hW : WF tb T L A nb) (ht : tb < 1000000000) {k : Nat} (hk : k < 6) (h0 : ovR T (nI k) = 0) : WF (tb + 100) (doT T (nI k)) L A nb := by
  have hw := hW.w
  have hco := hW.co
  have h1 : T 1 = nI (tn (T 1)) := hco.1
  have hM : WF (tb + 100) T L A nb := WF_mono hW (by omega)
  match k, hk with
  | 0, _ => exact WF_adT (WF_free hM (by omega)) (show tn (T 1) < tn (T 9) from lock_lt hW (ovR_0 h0))
  | 1, _ =>
    obtain ⟨q, g1, g2⟩ := tabT_b hW hco.2
    show WF (tb + 100) (uT (uT T 27 (T 27 + 1)) 1 (tabT T (tn (T 1)))) L A nb
    rw [g1]
    exact WF_col (WF_free hM (by omega)) (isN_n (by omega)) (by rw [n_t (by omega)]; exact g2)
  | 2, _ =>
    obtain ⟨q, g1, g2⟩ := bkT_b (T := T) (c := tn (T 1)) (by omega)
    show WF (tb + 100) (uT (uT T 28 (T 28 + 1)) 1 (bkT T (T 1))) L A nb
    rw [h1, g1]
    exact WF_col (WF_free hM (by omega)) (isN_n (by omega)) (by rw [n_t (by omega)]; show q ≤ tn (T 9); omega)
  | 3, _ =>
    have hmg := hW.mg
    have hln := hW.ln
    have hws := hW.ws
    have hli := hW.li
    have hlt := lt_i.mp (ovR_3 h0)
    have e0 : T 0 = nI (tn (T 0)) := hli.1
    have e21 : T 21 = nI (tn (T 21)) := hws.2.1
    have hx : T 0 + T 21 = nI (tn (T 0) + tn (T 21)) := by rw [← n_add, ← e0, ← e21]
    rw [hx, n_i (by omega), isN_i hln.1] at hlt
    show WF (tb + 100) (uT (uT (uT (uT T 29 (T 29 + 1)) 0 (T 0 + T 21)) 1 (T 11)) 2 0) L A nb
    rw [hx]
    refine WF_rel (WF_col (WF_lin (WF_free hM (by omega)) (isN_n (by omega)) (by rw [n_t (by omega)]; show tn (T 0) + tn (T 21) < tn (T 10); omega)) hmg.1 (by show tn (T 11) ≤ tn (T 9); omega)) (Or.inl rfl)
  | 4, _ => exact WF_rel hM (Or.inr rfl)
  | 5, _ => exact WF_frT hW ht
theorem WF_okT (hW : WF tb T L A nb) (ht : tb < 900000000) {k : Nat} (hk : k < 6) : WF (tb + 1099) (okT T (nI k)) L A nb := by
  have hB := WF_beT hW (by omega)
  unfold okT
  refine WF_enT ?_ _
  split
  · rename_i h; exact WF_doT hB (by omega) hk h
  · exact WF_mono hB (by omega)
end
