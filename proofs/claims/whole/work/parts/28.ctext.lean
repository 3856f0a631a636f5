/-! ===== the class's other keys, its texts ===== -/
section
variable {F : Prop} {h0 hc : HP} {m nb tb : Nat} {T L A : Tr0}
theorem MR_hc (h : MR F h0 hc m T L A nb) {a b : Int32} : MR F h0 (up (up hc (3, 0, m) 7 a) (3, 0, m) 8 b) m T L A nb := MR_r8 (MR_r7 h)
theorem c_stopsAt (h : MR F h0 hc m T L A nb) {c : Nat} (hcw : c < 40) : fX1_stopsAt m (nI c) hc = some (if T (90 + c) = 0 then 0 else 1) := by
  show (fX7_at 4 m (nI c) hc).bind (fun v1 => if v1 = 0 then (some 0) else (some 1)) = _
  rw [at_n (show c < wlen 4 from hcw), Option.bind_some, h.1.a1 c hcw]; split <;> rfl
theorem c_tab_aux (h : MR F h0 hc m T L A nb) (hw : isN (T 9)) : ∀ (k n j c : Nat), j + k = tn (T 9) ∨ (k = 0 ∧ tn (T 9) ≤ j ∧ j ≤ 50) → k < n → fX1_tabFrom_4 n m (nI c) (nI j) hc = some (tabF T k j (nI c)) := by
  have hw' : T 9 = nI (tn (T 9)) := hw
  have hw9 := h.2.2.2.2.1
  intro k
  induction k with
  | zero =>
    intro n j c hk hn
    cases n with
    | zero => omega
    | succ n =>
      show (fX7_at 0 m 0 hc).bind (fun v1 => if nI j < v1 then _ else ((fX7_at 0 m 3 hc).bind fun v2 => some (imax (nI c) v2))) = _
      rw [c_s0 h, c_s3 h, Option.bind_some, Option.bind_some, hw', if_neg (show ¬ nI j < nI (tn (T 9)) by rw [n_lt (by omega) (by omega)]; omega)]; rfl
  | succ k ih =>
    intro n j c hk hn
    cases n with
    | zero => omega
    | succ n =>
      show (fX7_at 0 m 0 hc).bind (fun v1 => if nI j < v1 then ((fX1_stopsAt m (nI j) hc).bind fun v3 => if v3 = 0 then (fX1_tabFrom_4 n m (nI c) (nI j + 1) hc) else (some (nI j))) else _) = _
      rw [c_s0 h, Option.bind_some, hw', if_pos (show nI j < nI (tn (T 9)) by rw [n_lt (by omega) (by omega)]; omega), c_stopsAt h (by omega), Option.bind_some, ← nI_succ, ih n (j + 1) c (by omega) (by omega)]
      show _ = some (if T (90 + j) = 0 then tabF T k (j + 1) (nI c) else nI j)
      by_cases q : T (90 + j) = 0
      · rw [if_pos q, if_pos q, if_pos rfl]
      · rw [if_neg q, if_neg q, if_neg (by decide)]
theorem c_tabFrom (h : MR F h0 hc m T L A nb) (hw : isN (T 9)) {c : Nat} (hcw : c ≤ tn (T 9)) : fX1_tabFrom m (nI c) hc = some (tabT T c) := by
  have hf := FU_ge
  have hw9 := h.2.2.2.2.1
  show fX1_tabFrom_4 FU m (nI c) (nI c + 1) hc = _
  rw [← nI_succ, c_tab_aux h hw (tn (T 9) - (c + 1)) FU (c + 1) c (by omega) (by omega)]; rfl
theorem c_backFrom (h : MR F h0 hc m T L A nb) {c : Int32} : fX1_backFrom m c hc = some (bkT T c) := by
  show (if c = 0 then (if (1 : Int32) = 0 then (some (c - 1)) else (some c)) else ((fX7_at 0 m 2 hc).bind fun v1 => if c = v1 then (if (hc (1, 0, m) 4) = 0 then (if (1 : Int32) = 0 then (some (c - 1)) else (some c)) else (if (0 : Int32) = 0 then (some (c - 1)) else (some c))) else (if (0 : Int32) = 0 then (some (c - 1)) else (some c)))) = _
  rw [c_s2 h, Option.bind_some, h.1.a4, if_neg (show ¬ (1 : Int32) = 0 by decide), if_pos (show (0 : Int32) = 0 from rfl)]
  unfold bkT
  split
  · rfl
  · split
    · split <;> rfl
    · rfl
theorem c_plainFault (h : MR F h0 hc m T L A nb) {k : Nat} (hk : k < 6) : fX3_plainFault m (nI k) hc = some (ovR T (nI k)) := by
  have s22 : ∀ (x : Int32) (g : Int32), fX3_plainFault_22 m x m g hc = (fX3_standingFault m g hc).bind (fun v1 => if v1 = 0 then (if x = 3 then ((fX3_nextLine m hc).bind fun v2 => (fX7_at 0 m 1 hc).bind fun v3 => if v2 < v3 then (some v1) else (some 6)) else (some v1)) else (some v1)) := fun _ _ => rfl
  have hn : fX3_nextLine m hc = some (T 0 + T 21) := by
    show (fX7_at 0 m 12 hc).bind (fun v1 => some ((hc (1, 0, m) 2) + v1)) = _
    rw [c_s12 h, Option.bind_some, h.1.a2]
  show (if nI k = nI 4 then (some 0) else (if nI k = nI 5 then (some 0) else (if nI k = nI 0 then (fX3_plainFault_22 m (nI k) m 1 hc) else (fX3_plainFault_22 m (nI k) m 0 hc)))) = _
  match k, hk with
  | 0, _ =>
    rw [if_neg (by decide), if_neg (by decide), if_pos rfl, s22, c_stand1 h, Option.bind_some, if_neg (show ¬ nI 0 = 3 by decide)]
    have hv : ovR T (nI 0) = if T 5 = m1 then (if lkT T (T 1) = 0 then 0 else 2) else 1 := rfl
    rw [hv, ite_self]
  | 1, _ =>
    rw [if_neg (by decide), if_neg (by decide), if_neg (by decide), s22, c_stand0 h, Option.bind_some, if_neg (show ¬ nI 1 = 3 by decide), ite_self]; rfl
  | 2, _ =>
    rw [if_neg (by decide), if_neg (by decide), if_neg (by decide), s22, c_stand0 h, Option.bind_some, if_neg (show ¬ nI 2 = 3 by decide), ite_self]; rfl
  | 3, _ =>
    rw [if_neg (by decide), if_neg (by decide), if_neg (by decide), s22, c_stand0 h, Option.bind_some, if_pos (show nI 3 = 3 from rfl), hn, Option.bind_some, c_s1 h, Option.bind_some]
    have hv : ovR T (nI 3) = if T 5 = m1 then (if T 0 + T 21 < T 10 then 0 else 6) else 1 := rfl
    rw [hv]
    by_cases q : T 5 = m1
    · rw [if_pos q, if_pos q, if_pos rfl]
      split <;> rfl
    · rw [if_neg q, if_neg q, if_neg (by decide)]
  | 4, _ => rw [if_pos rfl]; rfl
  | 5, _ => rw [if_neg (by decide), if_pos rfl]; rfl
theorem c_doPlain (h : MR F h0 hc m T L A nb) (hW : WF tb T L A nb) {k : Nat} (hk : k < 6) : ∃ hc', fX3_doPlainKey m (nI k) hc = some hc' ∧ MR F h0 hc' m (doT T (nI k)) L A nb ∧ hc' (3, 0, m) 9 = hc (3, 0, m) 9 := by
  have hnb := hW.nb
  have hco := hW.co
  have hw := hW.w
  have h1 : T 1 = nI (tn (T 1)) := hco.1
  have s : ∀ hc, fX3_doPlainKey m (nI k) hc = (if nI k = nI 0 then ((fX3_addTo m (nI 4) 1 hc).bind fun hp21 => (fX3_moveOn m hp21).bind fun hp24 => some hp24) else (if nI k = nI 1 then ((fX3_addTo m (nI 5) 1 hc).bind fun hp17 => (fX1_tabFrom m (hp17 (1, 0, m) 3) hp17).bind fun v18 => some (up hp17 (1, 0, m) 3 v18)) else (if nI k = nI 2 then ((fX3_addTo m (nI 6) 1 hc).bind fun hp13 => (fX1_backFrom m (hp13 (1, 0, m) 3) hp13).bind fun v14 => some (up hp13 (1, 0, m) 3 v14)) else (if nI k = nI 3 then ((fX3_addTo m (nI 7) 1 hc).bind fun hp6 => (fX3_nextLine m hp6).bind fun v7 => (fX1_goToLine m v7 hp6).bind fun hp10 => some hp10) else (if nI k = nI 4 then (some (up hc (1, 0, m) 4 1)) else ((fX0_free m hc).bind fun hp3 => some (up hp3 (3, 0, m) 6 ((hp3 (3, 0, m) 6) + 100)))))))) := fun _ => rfl
  rw [s]
  match k, hk with
  | 0, _ =>
    rw [if_pos rfl]
    obtain ⟨hc1, e1, g1, f1⟩ := c_add h (k := 4) (by decide) (x := 1) (d := 1) (fun _ => rfl)
    obtain ⟨hc2, e2, g2, f2⟩ := c_moveOn g1
    refine ⟨hc2, by rw [e1, Option.bind_some, e2, Option.bind_some], g2, by rw [f2 _ (by simp) (by simp), f1 _ (by simp)]⟩
  | 1, _ =>
    rw [if_neg (by decide), if_pos rfl]
    obtain ⟨hc1, e1, g1, f1⟩ := c_add h (k := 5) (by decide) (x := 1) (d := 1) (fun _ => rfl)
    obtain ⟨q, t1, t2⟩ := tabT_b hW hco.2
    have hs : ∀ j, j ≠ 27 → (uT T (22 + 5) (T (22 + 5) + 1)) j = T j := fun j hj => uT_n hj
    have et : ∀ k j c, j + k ≤ 100 → tabF (uT T (22 + 5) (T (22 + 5) + 1)) k j c = tabF T k j c := by
      intro k
      induction k with
      | zero => intro j c _; rfl
      | succ k ih =>
        intro j c hj
        show (if (uT T (22 + 5) (T (22 + 5) + 1)) (90 + j) = 0 then tabF (uT T (22 + 5) (T (22 + 5) + 1)) k (j + 1) c else nI j) = (if T (90 + j) = 0 then tabF T k (j + 1) c else nI j)
        rw [hs _ (by omega), ih (j + 1) c (by omega)]
    have ett : tabT (uT T (22 + 5) (T (22 + 5) + 1)) (tn (T 1)) = tabT T (tn (T 1)) := et _ _ _ (by have := hco.2; show tn (T 1) + 1 + (tn (T 9) - (tn (T 1) + 1)) ≤ 100; omega)
    refine ⟨up hc1 (1, 0, m) 3 (tabT T (tn (T 1))), ?_, MR_col g1, by rw [up_n (by simp), f1 _ (by simp)]⟩
    have q1 : hc1 (1, 0, m) 3 = nI (tn (T 1)) := by rw [g1.1.a3, hs 1 (by decide)]; exact hco.1
    rw [e1, Option.bind_some, q1, c_tabFrom g1 hw.1 hco.2, Option.bind_some, ett]
  | 2, _ =>
    rw [if_neg (by decide), if_neg (by decide), if_pos rfl]
    obtain ⟨hc1, e1, g1, f1⟩ := c_add h (k := 6) (by decide) (x := 1) (d := 1) (fun _ => rfl)
    refine ⟨up hc1 (1, 0, m) 3 (bkT T (T 1)), ?_, MR_col g1, by rw [up_n (by simp), f1 _ (by simp)]⟩
    rw [e1, Option.bind_some, g1.1.a3, c_backFrom g1, Option.bind_some]; rfl
  | 3, _ =>
    rw [if_neg (by decide), if_neg (by decide), if_neg (by decide), if_pos rfl]
    obtain ⟨hc1, e1, g1, f1⟩ := c_add h (k := 7) (by decide) (x := 1) (d := 1) (fun _ => rfl)
    have q0 : (uT T (22 + 7) (T (22 + 7) + 1)) 0 = T 0 := rfl
    have q21 : (uT T (22 + 7) (T (22 + 7) + 1)) 21 = T 21 := rfl
    have g2 : MR F h0 (up hc1 (1, 0, m) 2 (T 0 + T 21)) m (uT (uT T 29 (T 29 + 1)) 0 (T 0 + T 21)) L A nb := MR_lin g1
    have g3 : MR F h0 (up (up hc1 (1, 0, m) 2 (T 0 + T 21)) (1, 0, m) 3 (T 11)) m (uT (uT (uT T 29 (T 29 + 1)) 0 (T 0 + T 21)) 1 (T 11)) L A nb := MR_col g2
    refine ⟨up (up (up hc1 (1, 0, m) 2 (T 0 + T 21)) (1, 0, m) 3 (T 11)) (1, 0, m) 4 0, ?_, MR_rel g3, by rw [up_n (by simp), up_n (by simp), up_n (by simp), f1 _ (by simp)]⟩
    rw [e1, Option.bind_some]
    show ((fX7_at 0 m 12 hc1).bind (fun v1 => some ((hc1 (1, 0, m) 2) + v1))).bind (fun v7 => ((fX7_at 0 m 2 (up hc1 (1, 0, m) 2 v7)).bind fun v1 => some (up (up (up hc1 (1, 0, m) 2 v7) (1, 0, m) 3 v1) (1, 0, m) 4 0)).bind fun hp10 => some hp10) = _
    rw [c_s12 g1, Option.bind_some, Option.bind_some, g1.1.a2, q0, q21, c_s2 g2, Option.bind_some, Option.bind_some]; rfl
  | 4, _ =>
    rw [if_neg (by decide), if_neg (by decide), if_neg (by decide), if_neg (by decide), if_pos rfl]
    exact ⟨_, rfl, MR_rel h, by rw [up_n (by simp)]⟩
  | 5, _ =>
    rw [if_neg (by decide), if_neg (by decide), if_neg (by decide), if_neg (by decide), if_neg (by decide)]
    have hs : fX0_free m hc = some (up (up (PUt (PUt hc 7 m (T 5) m1) 7 m (T 6) m1) (0, 0, m) 7 m1) (0, 0, m) 8 m1) := by
      show (fX7_put 7 m (hc (0, 0, m) 7) m1 hc).bind (fun hp3 => (fX7_put 7 m (hp3 (0, 0, m) 8) m1 hp3).bind fun hp6 => some (up (up hp6 (0, 0, m) 7 m1) (0, 0, m) 8 m1)) = _
      rw [put_eq, Option.bind_some, put_eq, Option.bind_some, h.1.a8, PUt_o (show ¬ ((0, 0, m) : RF) = (11, 7, m) by simp), h.1.a9]
    have hdo : doT T (nI 5) = frT T := rfl
    rw [hs, Option.bind_some, hdo]
    unfold frT
    rcases hW.ja with ⟨h5, h6⟩ | ⟨h5, h6, h5', h6'⟩
    · rw [if_pos h5, h5, h6]
      have p : ∀ hx : HP, PUt hx 7 m m1 m1 = hx := fun hx => by
        unfold PUt; rw [if_neg (by decide)]
      rw [p, p]
      have g2 : MR F h0 (up (up hc (0, 0, m) 7 m1) (0, 0, m) 8 m1) m T L A nb := by
        refine MR_cast (MR_ja2 (MR_ja1 h)) ?_
        rw [← h5]
        conv => lhs; rw [uT_same]
        rw [h5, ← h6]; exact uT_same
      refine ⟨_, rfl, ?_, by rw [up_o (by simp), up_n (by simp), up_n (by simp)]⟩
      rw [g2.1.a5]
      exact MR_tim g2
    · have n5 : ¬ T 5 = m1 := by rw [show T 5 = nI (tn (T 5)) from h5]; exact n_m1 (tn_lt _)
      have e5 : T 5 = nI (tn (T 5)) := h5
      have e6 : T 6 = nI (tn (T 6)) := h6
      rw [if_neg n5]
      have p5 : PUt hc 7 m (T 5) m1 = up hc (11, 7, m) (tn (T 5)) m1 := by
        conv => lhs; rw [e5]
        exact PUt_n (show tn (T 5) < 26 by omega)
      have p6 : PUt (up hc (11, 7, m) (tn (T 5)) m1) 7 m (T 6) m1 = up (up hc (11, 7, m) (tn (T 5)) m1) (11, 7, m) (tn (T 6)) m1 := by
        conv => lhs; rw [e6]
        exact PUt_n (show tn (T 6) < 26 by omega)
      rw [p5, p6]
      have g2 := MR_ja2 (x := m1) (MR_ja1 (x := m1) (MR_str (x := m1) (MR_str (x := m1) h h5') h6'))
      have e3 : (uT (uT (uT (uT T (38 + 2 * tn (T 5)) m1) (38 + 2 * tn (T 6)) m1) 5 m1) 6 m1) 3 = T 3 := by
        rw [uT_n (by decide), uT_n (by decide), uT_n (by omega), uT_n (by omega)]
      refine ⟨_, rfl, ?_, by rw [up_o (by simp), up_n (by simp), up_n (by simp), up_n (by simp), up_n (by simp)]⟩
      rw [g2.1.a5, e3]
      have g3 := MR_tim (x := T 3 + 100) g2
      rw [uT_comm (show 38 + 2 * tn (T 6) ≠ 5 by omega)] at g3
      exact g3
theorem startKey_9 (h : MR F h0 hc m T L A nb) {hc1 : HP} (e1 : fX3_startKey m hc = some hc1) : hc1 (3, 0, m) 9 = hc (3, 0, m) 9 := by
  obtain ⟨w1, w2, w3⟩ := c_add (T := uT T 3 (T 3 + T 14)) (m := m) (hc := up hc (3, 0, m) 6 (T 3 + T 14)) (h0 := h0) (F := F) (L := L) (A := A) (nb := nb) (MR_tim h) (k := 13) (by decide) (x := 1) (d := 1) (fun _ => rfl)
  have e1' : fX3_startKey m hc = some w1 := by
    show (fX7_at 0 m 5 hc).bind (fun v1 => (fX3_addTo m (nI 13) 1 (up hc (3, 0, m) 6 ((hc (3, 0, m) 6) + v1))).bind fun hp4 => some hp4) = _
    rw [c_s5 h, Option.bind_some, h.1.a5, w2, Option.bind_some]
  rw [e1'] at e1
  cases e1
  rw [w3.2 _ (by simp)]
  exact up_o (by simp)
theorem c_plainKey (h : MR F h0 hc m T L A nb) (hW : WF tb T L A nb) (ht : tb < 900000000) {k : Nat} (hk : k < 6) : ∃ hc', fX3_plainKey m (nI k) hc = some (ovR (beT T) (nI k), hc') ∧ MR F h0 hc' m (okT T (nI k)) L A nb ∧ hc' (3, 0, m) 9 = hc (3, 0, m) 9 := by
  have hB := WF_beT hW (by omega)
  obtain ⟨hc1, e1, g1, f1⟩ := c_startKey h
  have n1 := startKey_9 h e1
  have fin : ∀ (S : Tr0) (hx : HP) (v : Int32), MR F h0 hx m S L A nb → hx (3, 0, m) 9 = hc (3, 0, m) 9 → ∃ hc', fX3_plainKey_19 m v hx = some (v, hc') ∧ MR F h0 hc' m (enT S v) L A nb ∧ hc' (3, 0, m) 9 = hc (3, 0, m) 9 := by
    intro S hx v hS h9
    obtain ⟨hc', e, g, f⟩ := c_endKey hS v
    refine ⟨hc', ?_, g, by rw [f _ (by simp)]; exact h9⟩
    show (fX3_endKey m v hx).bind (fun q2 => some (q2.1, q2.2)) = _
    rw [e, Option.bind_some]
  have hs : fX3_plainKey m (nI k) hc = (if ovR (beT T) (nI k) = 0 then ((fX3_doPlainKey m (nI k) hc1).bind fun hp9 => fX3_plainKey_19 m (ovR (beT T) (nI k)) hp9) else (fX3_plainKey_19 m (ovR (beT T) (nI k)) hc1)) := by
    show (fX3_startKey m hc).bind (fun hp5 => (fX3_plainFault m (nI k) hp5).bind fun v6 => if v6 = 0 then ((fX3_doPlainKey m (nI k) hp5).bind fun hp9 => fX3_plainKey_19 m v6 hp9) else (fX3_plainKey_19 m v6 hp5)) = _
    rw [e1, Option.bind_some, c_plainFault g1 hk, Option.bind_some]
  rw [hs]
  unfold okT
  by_cases q : ovR (beT T) (nI k) = 0
  · rw [if_pos q, if_pos q]
    obtain ⟨hc2, e2, g2, f2⟩ := c_doPlain g1 hB hk
    rw [e2, Option.bind_some]
    exact fin _ _ _ g2 (f2.trans n1)
  · rw [if_neg q, if_neg q]
    exact fin _ _ _ g1 n1
end
section
variable {F : Prop} {h0 hc : HP} {m nb tb : Nat} {T L A : Tr0}
/-- a byte's letter, small -/
def loI (c : Int32) : Int32 := if caI c = 0 then c else (c - 65) + 97
theorem c_withLetter_aux (h : MR F h0 hc m T L A nb) {c : Int32} : ∀ k j n, j + k = nb → k < n → fX0_withLetter_21 n m c (nI j) hc = some (wlF L c k j) := by
  have hnb := h.2.2.2.1
  intro k
  induction k with
  | zero =>
    intro j n hj hn
    cases n with
    | zero => omega
    | succ n =>
      show (if nI j < hc (0, 0, m) 5 then _ else (some m1)) = _
      rw [h.1.a6, if_neg (show ¬ nI j < nI nb by rw [n_lt (by omega) (by omega)]; omega)]; rfl
  | succ k ih =>
    intro j n hj hn
    cases n with
    | zero => omega
    | succ n =>
      show (if nI j < hc (0, 0, m) 5 then ((fX7_at 5 m (nI j) hc).bind fun v1 => if v1 = c then (some (nI j)) else (fX0_withLetter_21 n m c (nI j + 1) hc)) else (some m1)) = _
      rw [h.1.a6, if_pos (show nI j < nI nb by rw [n_lt (by omega) (by omega)]; omega), at_n (show j < wlen 5 by show j < 26; omega), Option.bind_some, h.1.a10 j (by omega), ← nI_succ, ih (j + 1) n (by omega) (by omega)]
      show _ = some (if L j = c then nI j else wlF L c k (j + 1))
      by_cases q : L j = c
      · rw [if_pos q, if_pos q]
      · rw [if_neg q, if_neg q]
theorem c_isCapital (c : Int32) (hp : HP) : fX9_isCapital c hp = some (caI c) := by
  show (if c < 65 then (some 0) else (if 90 < c then (some 0) else (some 1))) = _
  unfold caI; split <;> first | rfl | (split <;> rfl)
theorem c_isSmall (c : Int32) (hp : HP) : fX9_isSmall c hp = some (smI c) := by
  show (if c < 97 then (some 0) else (if 122 < c then (some 0) else (some 1))) = _
  unfold smI; split <;> first | rfl | (split <;> rfl)
theorem c_isDigit (c : Int32) (hp : HP) : fX9_isDigit c hp = some (dgI c) := by
  show (if c < 48 then (some 0) else (if 57 < c then (some 0) else (some 1))) = _
  unfold dgI; split <;> first | rfl | (split <;> rfl)
theorem c_keyOf (c : Int32) (hp : HP) : fX9_keyOf c hp = some (kyI c) := m_key (hm := hp) c
theorem c_withLetter (h : MR F h0 hc m T L A nb) {c : Int32} : fX0_withLetter m c hc = some (wl L nb (loI c)) := by
  have hnb := h.2.2.2.1
  have hf := FU_ge
  have s : ∀ c, fX0_withLetter_18 m c hc = some (wl L nb c) := fun c => c_withLetter_aux h nb 0 FU (by omega) (by omega)
  show (fX9_isCapital c hc).bind (fun v2 => if v2 = 0 then (fX0_withLetter_18 m c hc) else (fX0_withLetter_18 m ((c - 65) + 97) hc)) = _
  rw [c_isCapital, Option.bind_some, s, s]
  unfold loI
  by_cases q : caI c = 0
  · rw [if_pos q, if_pos q]
  · rw [if_neg q, if_neg q]
theorem caI_b {c : Int32} (h : ¬ caI c = 0) : 65 ≤ c.toInt ∧ c.toInt ≤ 90 := by
  unfold caI at h
  have z1 : (65 : Int32).toInt = 65 := rfl
  have z2 : (90 : Int32).toInt = 90 := rfl
  by_cases h1 : c < 65
  · rw [if_pos h1] at h; exact absurd rfl h
  · rw [if_neg h1] at h
    by_cases h2 : 90 < c
    · rw [if_pos h2] at h; exact absurd rfl h
    · have h1' : ¬ c.toInt < (65 : Int32).toInt := fun q => h1 (lt_i.mpr q)
      have h2' : ¬ (90 : Int32).toInt < c.toInt := fun q => h2 (lt_i.mpr q)
      omega
theorem smI_b {c : Int32} : smI c = 0 ↔ (c.toInt < 97 ∨ 122 < c.toInt) := by
  unfold smI
  have z1 : (97 : Int32).toInt = 97 := rfl
  have z2 : (122 : Int32).toInt = 122 := rfl
  by_cases h1 : c < 97
  · rw [if_pos h1]; have := lt_i.mp h1; exact ⟨fun _ => Or.inl (by omega), fun _ => rfl⟩
  · rw [if_neg h1]
    have h1' : ¬ c.toInt < (97 : Int32).toInt := fun q => h1 (lt_i.mpr q)
    by_cases h2 : 122 < c
    · rw [if_pos h2]; have := lt_i.mp h2; exact ⟨fun _ => Or.inr (by omega), fun _ => rfl⟩
    · rw [if_neg h2]
      have h2' : ¬ (122 : Int32).toInt < c.toInt := fun q => h2 (lt_i.mpr q)
      exact ⟨fun q => absurd q (by decide), fun q => by omega⟩
theorem caI_0 {c : Int32} (h : c.toInt < 65 ∨ 90 < c.toInt) : caI c = 0 := by
  by_cases q : caI c = 0
  · exact q
  · have := caI_b q; omega
/-- both find the same bar -/
theorem wl_bf (hW : WF tb T L A nb) (c : Int32) : wl L nb (loI c) = bfI L nb c := by
  unfold bfI loI
  by_cases h1 : smI c = 0
  · rw [if_pos h1]
    have h1' := smI_b.mp h1
    by_cases h2 : caI c = 0
    · rw [if_pos h2, if_pos h2]
      rcases wl_b (L := L) (nb := nb) (c := c) with g | ⟨b, g1, g2, g3⟩
      · exact g
      · have hl := hW.le b g1
        have e := isN_i hl.1
        rw [g3] at e hl
        omega
    · rw [if_neg h2, if_neg h2]
      have h2' := caI_b h2
      have z1 : (65 : Int32).toInt = 65 := rfl
      have z2 : (97 : Int32).toInt = 97 := rfl
      have z3 : (32 : Int32).toInt = 32 := rfl
      have e1 : (c - 65).toInt = c.toInt - 65 := by rw [sub_s (by omega) (by omega), z1]
      congr 1
      rw [eqi, add_s (by omega) (by omega), add_s (by omega) (by omega), e1, z2, z3]; omega
  · rw [if_neg h1]
    have h1' : ¬ (c.toInt < 97 ∨ 122 < c.toInt) := fun q => h1 (smI_b.mpr q)
    rw [if_pos (caI_0 (by omega))]
theorem dg_ky {c : Int32} (h : ¬ dgI c = 0) : kyI c = m1 := by
  obtain ⟨k, hk, e⟩ := dgI_b h
  subst e
  have : ∀ k, k < 10 → kyI (nI (48 + k)) = m1 := by decide
  exact this k hk
theorem dg_bf (hW : WF tb T L A nb) {c : Int32} (h : ¬ dgI c = 0) : bfI L nb c = m1 := by
  obtain ⟨k, hk, e⟩ := dgI_b h
  subst e
  have h1 : ∀ k, k < 10 → smI (nI (48 + k)) = 0 := by decide
  have h2 : ∀ k, k < 10 → caI (nI (48 + k)) = 0 := by decide
  unfold bfI
  rw [if_pos (h1 k hk), if_pos (h2 k hk)]
theorem ky_bf {c : Int32} (h : ¬ kyI c = m1) : bfI L nb c = m1 := by
  have hc : c = 32 ∨ c = 33 ∨ c = 47 ∨ c = 60 ∨ c = 62 ∨ c = 94 := by
    unfold kyI at h
    by_cases h1 : c = 32
    · exact Or.inl h1
    · rw [if_neg h1] at h
      by_cases h2 : c = 33
      · exact Or.inr (Or.inl h2)
      · rw [if_neg h2] at h
        by_cases h3 : c = 47
        · exact Or.inr (Or.inr (Or.inl h3))
        · rw [if_neg h3] at h
          by_cases h4 : c = 60
          · exact Or.inr (Or.inr (Or.inr (Or.inl h4)))
          · rw [if_neg h4] at h
            by_cases h5 : c = 62
            · exact Or.inr (Or.inr (Or.inr (Or.inr (Or.inl h5))))
            · rw [if_neg h5] at h
              by_cases h6 : c = 94
              · exact Or.inr (Or.inr (Or.inr (Or.inr (Or.inr h6))))
              · rw [if_neg h6] at h; exact absurd rfl h
  have hs : smI c = 0 ∧ caI c = 0 := by
    rcases hc with e | e | e | e | e | e <;> subst e <;> decide
  unfold bfI
  rw [if_pos hs.1, if_pos hs.2]
/-- a text of the class: what came of it -/
def txtR (F : Prop) (h0 hc' : HP) (m : Nat) (L A : Tr0) (nb : Nat) (q : Nat × Int32 × HP × Tr0) : Prop :=
  MR F h0 hc' m (taT q) L A nb ∧ hc' (3, 0, m) 7 = q.2.1 ∧ hc' (3, 0, m) 8 = (if q.2.1 = 0 then m1 else nI q.1) ∧ (F → hc' (3, 0, m) 9 = q.2.2.1 (10, 0, 0) 25)
theorem c_typeText_aux {B : Tr0} {N : Nat} (hN : N ≤ 500) (hB : h0 (11, 10, 0) = B) : ∀ k d n (hm hc : HP) (T : Tr0) (tb : Nat), d + k = N → k < n → MR F h0 hc m T L A nb → WF tb T L A nb → tb + 1099 * k < 900000000 → (F → hc (3, 0, m) 9 = hm (10, 0, 0) 25) → ∃ hc', fX3_typeText_2 n m 10 0 (nI N) (nI d) hc = some (nI (taF L A nb B k d hm T).1, hc') ∧ txtR F h0 hc' m L A nb (taF L A nb B k d hm T) := by
  have fin : ∀ (d : Nat) (v : Int32) (hm hc : HP) (T : Tr0), MR F h0 hc m T L A nb → (F → hc (3, 0, m) 9 = hm (10, 0, 0) 25) → txtR F h0 (up (up hc (3, 0, m) 7 v) (3, 0, m) 8 (if v = 0 then m1 else nI d)) m L A nb (d, v, hm, T) := by
    intro d v hm hc T h h9
    refine ⟨MR_row (MR_row (MR_hc h) (Or.inl rfl)) (Or.inr rfl), ?_, up_s, fun f => ?_⟩
    · rw [up_o (by simp), up_s]
    · rw [up_o (by simp), up_o (by simp)]; exact h9 f
  intro k
  induction k with
  | zero =>
    intro d n hm hc T tb hd hn h hW ht h9
    cases n with
    | zero => omega
    | succ n =>
      have e : fX3_typeText_2 (n + 1) m 10 0 (nI N) (nI d) hc = some (nI N, up (up hc (3, 0, m) 7 0) (3, 0, m) 8 m1) := by
        show (if nI d < nI N then _ else (some (nI N, (up (up hc (3, 0, m) 7 0) (3, 0, m) 8 m1)))) = _
        rw [if_neg (show ¬ nI d < nI N by rw [n_lt (by omega) (by omega)]; omega)]
      refine ⟨_, ?_, fin d 0 hm hc T h h9⟩
      rw [e, if_pos rfl]
      have : N = d := by omega
      rw [this]; rfl
  | succ k ih =>
    intro d n hm hc T tb hd hn h hW ht h9
    cases n with
    | zero => omega
    | succ n =>
      have hd5 : d < 500 := by omega
      have hbyte : hc (11, 10, 0) d = B d := by rw [h.2.2.1 _ (by unfold ofm; simp), hB]
      have hr : taF L A nb B (k + 1) d hm T = if tvT T L A nb (B d) = 0 then taF L A nb B k (d + 1) (tiH hm T L A nb (B d)) (tsT T L A nb (B d)) else (d, tvT T L A nb (B d), tiH hm T L A nb (B d), tsT T L A nb (B d)) := rfl
      have h105 : ∀ (v : Int32) (hx : HP), v = tvT T L A nb (B d) → MR F h0 hx m (tsT T L A nb (B d)) L A nb → (F → hx (3, 0, m) 9 = (tiH hm T L A nb (B d)) (10, 0, 0) 25) → ∃ hc', fX3_typeText_105 m 10 0 (nI N) (nI d) v (fun wr1 mr1 x2 x3 hq => fX3_typeText_2 n m wr1 mr1 x2 x3 hq) hx = some (nI (taF L A nb B (k + 1) d hm T).1, hc') ∧ txtR F h0 hc' m L A nb (taF L A nb B (k + 1) d hm T) := by
        intro v hx hv g g9
        rw [hr, hv]
        show ∃ hc', (if tvT T L A nb (B d) = 0 then (fX3_typeText_2 n m 10 0 (nI N) (nI d + 1) hx) else (some (nI d, (up (up hx (3, 0, m) 7 (tvT T L A nb (B d))) (3, 0, m) 8 (nI d))))) = _ ∧ _
        by_cases q : tvT T L A nb (B d) = 0
        · rw [if_pos q, if_pos q, ← nI_succ]
          exact ih (d + 1) n _ hx _ (tb + 1099) (by omega) (by omega) g (WF_tsT hW (by omega) _) (by omega) g9
        · rw [if_neg q, if_neg q]
          have := fin d (tvT T L A nb (B d)) _ hx _ g g9
          rw [if_neg q] at this
          exact ⟨_, rfl, this⟩
      have hs : fX3_typeText_2 (n + 1) m 10 0 (nI N) (nI d) hc = (if bfI L nb (B d) = m1 then (if kyI (B d) = m1 then (if dgI (B d) = 0 then (fX3_typeText_105 m 10 0 (nI N) (nI d) 3 (fun wr1 mr1 x2 x3 hq => fX3_typeText_2 n m wr1 mr1 x2 x3 hq) hc) else (fX3_typeText_105 m 10 0 (nI N) (nI d) 0 (fun wr1 mr1 x2 x3 hq => fX3_typeText_2 n m wr1 mr1 x2 x3 hq) (up hc (3, 0, m) 6 ((hc (3, 0, m) 6) + (10 * (B d - 48)))))) else ((fX3_plainKey m (kyI (B d)) hc).bind fun q6 => fX3_typeText_105 m 10 0 (nI N) (nI d) q6.1 (fun wr1 mr1 x2 x3 hq => fX3_typeText_2 n m wr1 mr1 x2 x3 hq) q6.2)) else ((fX3_letterKey m (bfI L nb (B d)) (caI (B d)) hc).bind fun q9 => fX3_typeText_105 m 10 0 (nI N) (nI d) q9.1 (fun wr1 mr1 x2 x3 hq => fX3_typeText_2 n m wr1 mr1 x2 x3 hq) q9.2)) := by
        show (if nI d < nI N then ((fX7_at 10 0 (nI d) hc).bind fun v1 => (fX0_withLetter m v1 hc).bind fun v2 => (fX9_keyOf v1 hc).bind fun v3 => if v2 = m1 then (if v3 = m1 then ((fX9_isDigit v1 hc).bind fun v4 => if v4 = 0 then (fX3_typeText_105 m 10 0 (nI N) (nI d) 3 (fun wr1 mr1 x2 x3 hq => fX3_typeText_2 n m wr1 mr1 x2 x3 hq) hc) else (fX3_typeText_105 m 10 0 (nI N) (nI d) 0 (fun wr1 mr1 x2 x3 hq => fX3_typeText_2 n m wr1 mr1 x2 x3 hq) (up hc (3, 0, m) 6 ((hc (3, 0, m) 6) + (10 * (v1 - 48)))))) else ((fX3_plainKey m v3 hc).bind fun q6 => fX3_typeText_105 m 10 0 (nI N) (nI d) q6.1 (fun wr1 mr1 x2 x3 hq => fX3_typeText_2 n m wr1 mr1 x2 x3 hq) q6.2)) else ((fX9_isCapital v1 hc).bind fun v7 => (fX3_letterKey m v2 v7 hc).bind fun q9 => fX3_typeText_105 m 10 0 (nI N) (nI d) q9.1 (fun wr1 mr1 x2 x3 hq => fX3_typeText_2 n m wr1 mr1 x2 x3 hq) q9.2)) else _) = _
        rw [if_pos (show nI d < nI N by rw [n_lt (by omega) (by omega)]; omega), at_n (show d < wlen 10 from hd5), Option.bind_some, hbyte, c_withLetter h, wl_bf hW, Option.bind_some, c_keyOf, Option.bind_some, c_isDigit, Option.bind_some, c_isCapital, Option.bind_some]
      rw [hs]
      by_cases q1 : bfI L nb (B d) = m1
      · rw [if_pos q1]
        by_cases q2 : kyI (B d) = m1
        · rw [if_pos q2]
          by_cases q3 : dgI (B d) = 0
          · rw [if_pos q3]
            refine h105 3 hc ?_ ?_ ?_
            · unfold tvT; rw [if_pos q3, if_pos q2, if_pos q1]
            · unfold tsT; rw [if_pos q3, if_pos q2, if_pos q1]; exact h
            · unfold tiH; rw [if_pos q3, if_pos q2, if_pos q1]; exact h9
          · rw [if_neg q3]
            refine h105 0 _ ?_ ?_ ?_
            · unfold tvT; rw [if_neg q3]
            · unfold tsT; rw [if_neg q3, h.1.a5]; exact MR_tim h
            · unfold tiH; rw [if_neg q3, up_o (by simp)]; exact h9
        · rw [if_neg q2]
          have q3 : dgI (B d) = 0 := by
            by_cases q : dgI (B d) = 0
            · exact q
            · exact absurd (dg_ky q) q2
          obtain ⟨j, j1, j2⟩ := (kyI_b (B d)).resolve_left q2
          obtain ⟨hc1, e1, g1, f1⟩ := c_plainKey h hW (by omega) j1
          rw [j2, e1, Option.bind_some]
          refine h105 _ _ ?_ ?_ ?_
          · unfold tvT; rw [if_pos q3, if_neg q2, j2]
          · unfold tsT; rw [if_pos q3, if_neg q2, j2]; exact g1
          · unfold tiH; rw [if_pos q3, if_neg q2]; exact fun f => f1.trans (h9 f)
      · rw [if_neg q1]
        have q2 : kyI (B d) = m1 := by
          by_cases q : kyI (B d) = m1
          · exact q
          · exact absurd (ky_bf q) q1
        have q3 : dgI (B d) = 0 := by
          by_cases q : dgI (B d) = 0
          · exact q
          · exact absurd (dg_bf hW q) q1
        obtain ⟨j1, j2⟩ := bfI_n hW q1
        obtain ⟨hc1, e1, g1, f1⟩ := c_letterKey (sh := caI (B d)) h hW (by omega) j1
        rw [← j2] at e1
        rw [e1, Option.bind_some]
        refine h105 _ _ ?_ ?_ ?_
        · unfold tvT; rw [if_pos q3, if_pos q2, if_neg q1]
        · unfold tsT; rw [if_pos q3, if_pos q2, if_neg q1]; exact g1
        · intro f
          refine (f1 f).trans ?_
          unfold tiH liH
          rw [if_pos q3, if_pos q2, if_neg q1]
          by_cases q : lvT T A (tn (bfI L nb (B d))) = 0
          · rw [if_pos q, if_pos q, up_s]
          · rw [if_neg q, if_neg q]; exact h9 f
theorem c_typeText {B : Tr0} {N : Nat} (hN : N ≤ 500) (hB : h0 (11, 10, 0) = B) {hm : HP} (h : MR F h0 hc m T L A nb) (hW : WF tb T L A nb) (ht : tb + 1099 * N < 900000000) (h9 : F → hc (3, 0, m) 9 = hm (10, 0, 0) 25) : ∃ hc', fX3_typeText m 10 0 (nI N) hc = some (nI (taF L A nb B N 0 hm T).1, hc') ∧ txtR F h0 hc' m L A nb (taF L A nb B N 0 hm T) := by
  have := FU_ge
  exact c_typeText_aux hN hB N 0 FU hm hc T tb (by omega) (by omega) h hW ht h9
end
