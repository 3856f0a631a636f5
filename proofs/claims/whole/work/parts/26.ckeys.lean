/-! ===== the class's methods, beside a row ===== -/
section
variable {F : Prop} {h0 hc : HP} {m nb tb : Nat} {T L A : Tr0}
theorem c_set (h : MR F h0 hc m T L A nb) {k : Nat} (hk : k < 13) : fX7_at 0 m (nI k) hc = some (T (9 + k)) := by rw [at_n (show k < wlen 0 from hk), h.1.a0 k hk]
theorem c_s0 (h : MR F h0 hc m T L A nb) : fX7_at 0 m 0 hc = some (T 9) := c_set h (k := 0) (by decide)
theorem c_s1 (h : MR F h0 hc m T L A nb) : fX7_at 0 m 1 hc = some (T 10) := c_set h (k := 1) (by decide)
theorem c_s2 (h : MR F h0 hc m T L A nb) : fX7_at 0 m 2 hc = some (T 11) := c_set h (k := 2) (by decide)
theorem c_s3 (h : MR F h0 hc m T L A nb) : fX7_at 0 m 3 hc = some (T 12) := c_set h (k := 3) (by decide)
theorem c_s4 (h : MR F h0 hc m T L A nb) : fX7_at 0 m 4 hc = some (T 13) := c_set h (k := 4) (by decide)
theorem c_s5 (h : MR F h0 hc m T L A nb) : fX7_at 0 m 5 hc = some (T 14) := c_set h (k := 5) (by decide)
theorem c_s6 (h : MR F h0 hc m T L A nb) : fX7_at 0 m 6 hc = some (T 15) := c_set h (k := 6) (by decide)
theorem c_s7 (h : MR F h0 hc m T L A nb) : fX7_at 0 m 7 hc = some (T 16) := c_set h (k := 7) (by decide)
theorem c_s8 (h : MR F h0 hc m T L A nb) : fX7_at 0 m 8 hc = some (T 17) := c_set h (k := 8) (by decide)
theorem c_s9 (h : MR F h0 hc m T L A nb) : fX7_at 0 m 9 hc = some (T 18) := c_set h (k := 9) (by decide)
theorem c_s10 (h : MR F h0 hc m T L A nb) : fX7_at 0 m 10 hc = some (T 19) := c_set h (k := 10) (by decide)
theorem c_s11 (h : MR F h0 hc m T L A nb) : fX7_at 0 m 11 hc = some (T 20) := c_set h (k := 11) (by decide)
theorem c_s12 (h : MR F h0 hc m T L A nb) : fX7_at 0 m 12 hc = some (T 21) := c_set h (k := 12) (by decide)
end
section
variable {F : Prop} {h0 hc : HP} {m nb tb : Nat} {T L A : Tr0}
theorem MR_cast {T' : Tr0} (h : MR F h0 hc m T L A nb) (e : T = T') : MR F h0 hc m T' L A nb := e ▸ h
theorem uT_same {T : Tr0} {k : Nat} : uT T k (T k) = T := by
  funext j; unfold uT; split
  · rename_i h; rw [h]
  · rfl
theorem add_0 (x : Int32) : x + 0 = x := by
  have := lo_i x
  have := hi_i x
  have z : (0 : Int32).toInt = 0 := rfl
  rw [eqi, add_s (by omega) (by omega), z]; omega
theorem c_rise (h : MR F h0 hc m T L A nb) {b : Nat} (hb : b < nb) : fX0_riseOf m (nI b) hc = some (riT T A b) := by
  have hnb := h.2.2.2.1
  show (fX7_at 0 m 6 hc).bind (fun v1 => (fX7_at 6 m (nI b) hc).bind fun v2 => some (v1 + (idv (iabs (v2 - 90)) 10))) = _
  rw [c_s6 h, Option.bind_some, at_n (show b < wlen 6 by show b < 26; omega), Option.bind_some, h.1.a11 b hb]; rfl
theorem c_back (h : MR F h0 hc m T L A nb) {b : Nat} (hb : b < nb) : fX0_backAt m (nI b) hc = some (baT T A b) := by
  have hnb := h.2.2.2.1
  show (fX7_at 7 m (nI b) hc).bind (fun v1 => if v1 = m1 then (some 0) else ((fX0_riseOf m (nI b) hc).bind fun v2 => some (v1 + (2 * v2)))) = _
  rw [at_n (show b < wlen 7 by show b < 26; omega), Option.bind_some, h.1.a12 b hb, c_rise h hb, Option.bind_some]
  unfold baT
  split <;> rfl
theorem c_room (h : MR F h0 hc m T L A nb) {b o : Nat} (hb : b < nb) (ho : o < nb) : fX0_roomOf m (nI b) (nI o) hc = some (rmT T A b o) := by
  have hnb := h.2.2.2.1
  show (fX7_at 6 m (nI b) hc).bind (fun v1 => (fX7_at 6 m (nI o) hc).bind fun v2 => (fX7_at 0 m 7 hc).bind fun v3 => (fX7_at 0 m 8 hc).bind fun v4 => some (v3 + (imax 0 (v4 - (iabs (v1 - v2)))))) = _
  rw [at_n (show b < wlen 6 by show b < 26; omega), Option.bind_some, at_n (show o < wlen 6 by show o < 26; omega), Option.bind_some, c_s7 h, c_s8 h, Option.bind_some, Option.bind_some, h.1.a11 b hb, h.1.a11 o ho]; rfl
theorem c_fault (h : MR F h0 hc m T L A nb) (hW : WF tb T L A nb) {b : Nat} (hb : b < nb) {t : Int32} : fX0_strikeFault m (nI b) t hc = some (sfT T A b t) := by
  have hnb := hW.nb
  show (fX0_backAt m (nI b) hc).bind (fun v1 => if t < v1 then (some 4) else (if (hc (0, 0, m) 6) = m1 then (some 0) else (if (hc (0, 0, m) 6) = nI b then (some 0) else ((fX0_backAt m (hc (0, 0, m) 6) hc).bind fun v2 => if t < v2 then ((fX0_riseOf m (nI b) hc).bind fun v3 => (fX7_at 7 m (hc (0, 0, m) 6) hc).bind fun v4 => (fX0_riseOf m (hc (0, 0, m) 6) hc).bind fun v5 => (fX0_roomOf m (nI b) (hc (0, 0, m) 6) hc).bind fun v6 => if (iabs (((t + v3) - v4) - v5)) < v6 then (some 5) else (some 0)) else (some 0))))) = _
  rw [c_back h hb, Option.bind_some, h.1.a7]
  unfold sfT
  by_cases g1 : t < baT T A b
  · rw [if_pos g1, if_pos g1]
  · rw [if_neg g1, if_neg g1]
    by_cases g2 : T 4 = m1
    · rw [if_pos g2, if_pos g2]
    · rw [if_neg g2, if_neg g2]
      by_cases g3 : T 4 = nI b
      · rw [if_pos g3, if_pos g3]
      · rw [if_neg g3, if_neg g3]
        obtain ⟨g4, g5⟩ := hW.la.resolve_left g2
        have g4' : T 4 = nI (tn (T 4)) := g4
        generalize tn (T 4) = l at g4' g5 ⊢
        rw [g4', c_back h g5, Option.bind_some, c_rise h hb, c_rise h g5, c_room h hb g5, at_n (show l < wlen 7 by show l < 26; omega), h.1.a12 l g5]
        simp only [Option.bind_some]
        by_cases g6 : t < baT T A l
        · rw [if_pos g6, if_pos g6]
          split <;> rfl
        · rw [if_neg g6, if_neg g6]
theorem c_lock (h : MR F h0 hc m T L A nb) (c : Int32) : fX1_locksAt m c hc = some (lkT T c) := by
  show (fX7_at 0 m 0 hc).bind (fun v1 => if c < v1 then ((fX7_at 0 m 3 hc).bind fun v2 => if v2 < c then (if (hc (1, 0, m) 4) = 0 then (some 1) else (some 0)) else (some 0)) else (some 1)) = _
  rw [c_s0 h, Option.bind_some, c_s3 h, Option.bind_some, h.1.a4]
  unfold lkT
  split
  · split
    · split <;> rfl
    · rfl
  · rfl
theorem c_stand1 (h : MR F h0 hc m T L A nb) : fX3_standingFault m 1 hc = some (if T 5 = m1 then (if lkT T (T 1) = 0 then 0 else 2) else 1) := by
  show (if (hc (0, 0, m) 7) = m1 then (some (0 : Int32)) else (some 1)).bind (fun v1 => if v1 = 0 then (if (1 : Int32) = 0 then (some 0) else ((fX1_locksAt m (hc (1, 0, m) 3) hc).bind fun v2 => if v2 = 0 then (some 0) else (some 2))) else (some 1)) = _
  rw [h.1.a8, h.1.a3, c_lock h, Option.bind_some, if_neg (show ¬ (1 : Int32) = 0 by decide)]
  by_cases g : T 5 = m1
  · rw [if_pos g, if_pos g, Option.bind_some, if_pos rfl]
    split <;> rfl
  · rw [if_neg g, if_neg g, Option.bind_some, if_neg (by decide)]
theorem c_stand0 (h : MR F h0 hc m T L A nb) : fX3_standingFault m 0 hc = some (if T 5 = m1 then 0 else 1) := by
  show (if (hc (0, 0, m) 7) = m1 then (some (0 : Int32)) else (some 1)).bind (fun v1 => if v1 = 0 then (if (0 : Int32) = 0 then (some 0) else ((fX1_locksAt m (hc (1, 0, m) 3) hc).bind fun v2 => if v2 = 0 then (some 0) else (some 2))) else (some 1)) = _
  rw [h.1.a8, if_pos (show (0 : Int32) = 0 from rfl)]
  by_cases g : T 5 = m1
  · rw [if_pos g, if_pos g, Option.bind_some, if_pos rfl]
  · rw [if_neg g, if_neg g, Option.bind_some, if_neg (by decide)]
theorem c_add (h : MR F h0 hc m T L A nb) {k : Nat} (hk : 3 ≤ k ∧ k < 14 ∧ k ≠ 11) {x d : Int32} (hd : F → x = d) : ∃ hc', fX3_addTo m (nI k) x hc = some hc' ∧ MR F h0 hc' m (uT T (22 + k) (T (22 + k) + d)) L A nb ∧ ∀ r, r ≠ (11, 9, m) → hc' r = hc r := by
  refine ⟨up hc (11, 9, m) k (hc (11, 9, m) k + x), ?_, MR_tal h hk.2.1 hk.2.2 (fun f => by rw [(h.2.1 f).a4 k hk.1 hk.2.1 hk.2.2, hd f]), fun r hr => up_n hr⟩
  show (fX7_at 9 m (nI k) hc).bind (fun v1 => (fX7_put 9 m (nI k) (v1 + x) hc).bind fun hp4 => some hp4) = _
  rw [at_n (show k < wlen 9 from hk.2.1), Option.bind_some, put_n (show k < wlen 9 from hk.2.1), Option.bind_some]
theorem c_startKey (h : MR F h0 hc m T L A nb) : ∃ hc', fX3_startKey m hc = some hc' ∧ MR F h0 hc' m (beT T) L A nb ∧ ∀ r, r ≠ (11, 9, m) → r ≠ (3, 0, m) → hc' r = hc r := by
  have h1 : MR F h0 (up hc (3, 0, m) 6 (hc (3, 0, m) 6 + T 14)) m (uT T 3 (T 3 + T 14)) L A nb := by
    have := MR_tim h (x := T 3 + T 14)
    rw [h.1.a5]; exact this
  obtain ⟨hc', e, h2, h3⟩ := c_add h1 (k := 13) (by decide) (x := 1) (d := 1) (fun _ => rfl)
  refine ⟨hc', ?_, MR_cast h2 ?_, fun r hr hr' => (h3 r hr).trans (up_n hr')⟩
  · show (fX7_at 0 m 5 hc).bind (fun v1 => (fX3_addTo m (nI 13) 1 (up hc (3, 0, m) 6 ((hc (3, 0, m) 6) + v1))).bind fun hp4 => some hp4) = _
    rw [c_s5 h, Option.bind_some, e, Option.bind_some]
  · exact (uT_comm (show (3 : Nat) ≠ 35 by decide)).trans rfl
theorem c_endKey (h : MR F h0 hc m T L A nb) (v : Int32) : ∃ hc', fX3_endKey m v hc = some (v, hc') ∧ MR F h0 hc' m (enT T v) L A nb ∧ ∀ r, r ≠ (11, 9, m) → hc' r = hc r := by
  have fin : ∀ T' : Tr0, ∀ hc', MR F h0 hc' m T' L A nb → MR F h0 hc' m (uT (uT T' 36 v) 37 m1) L A nb := fun T' hc' g => MR_row (MR_row g (Or.inl rfl)) (Or.inr rfl)
  by_cases g : v = 0
  · obtain ⟨hc', e, h2, h3⟩ := c_add h (k := 9) (by decide) (x := 0) (d := 0) (fun _ => rfl)
    refine ⟨hc', ?_, ?_, h3⟩
    · show (if v = 0 then ((fX3_addTo m (nI 9) 0 hc).bind fun hp3 => some (v, hp3)) else ((fX3_addTo m (nI 9) 1 hc).bind fun hp3 => some (v, hp3))) = _
      rw [if_pos g, e, Option.bind_some]
    · unfold enT
      rw [if_pos g]
      refine fin _ _ (MR_cast h2 ?_)
      rw [add_0]; exact uT_same
  · obtain ⟨hc', e, h2, h3⟩ := c_add h (k := 9) (by decide) (x := 1) (d := 1) (fun _ => rfl)
    refine ⟨hc', ?_, ?_, h3⟩
    · show (if v = 0 then ((fX3_addTo m (nI 9) 0 hc).bind fun hp3 => some (v, hp3)) else ((fX3_addTo m (nI 9) 1 hc).bind fun hp3 => some (v, hp3))) = _
      rw [if_neg g, e, Option.bind_some]
    · unfold enT
      rw [if_neg g]
      exact fin _ _ h2
theorem c_bell (h : MR F h0 hc m T L A nb) : fX1_bellColumn m hc = some (T 12 - T 13) := by
  show (fX7_at 0 m 3 hc).bind (fun v1 => (fX7_at 0 m 4 hc).bind fun v2 => some (v1 - v2)) = _
  rw [c_s3 h, c_s4 h, Option.bind_some, Option.bind_some]
theorem c_moveOn (h : MR F h0 hc m T L A nb) : ∃ hc', fX3_moveOn m hc = some hc' ∧ MR F h0 hc' m (adT T) L A nb ∧ ∀ r, r ≠ (11, 9, m) → r ≠ (1, 0, m) → hc' r = hc r := by
  have h1 : MR F h0 (up hc (1, 0, m) 3 (hc (1, 0, m) 3 + 1)) m (uT T 1 (T 1 + 1)) L A nb := by
    rw [h.1.a3]; exact MR_col h
  have hs : fX3_moveOn m hc = (if T 1 + 1 = T 12 - T 13 then ((fX3_addTo m (nI 10) 1 (up hc (1, 0, m) 3 (hc (1, 0, m) 3 + 1))).bind fun hp3 => some hp3) else ((fX3_addTo m (nI 10) 0 (up hc (1, 0, m) 3 (hc (1, 0, m) 3 + 1))).bind fun hp3 => some hp3)) := by
    show (fX1_bellColumn m (up hc (1, 0, m) 3 (hc (1, 0, m) 3 + 1))).bind (fun v4 => if ((up hc (1, 0, m) 3 (hc (1, 0, m) 3 + 1)) (1, 0, m) 3) = v4 then ((fX3_addTo m (nI 10) 1 (up hc (1, 0, m) 3 (hc (1, 0, m) 3 + 1))).bind fun hp3 => some hp3) else ((fX3_addTo m (nI 10) 0 (up hc (1, 0, m) 3 (hc (1, 0, m) 3 + 1))).bind fun hp3 => some hp3)) = _
    rw [c_bell h1, Option.bind_some, h1.1.a3]; rfl
  rw [hs]
  unfold adT
  by_cases g : T 1 + 1 = T 12 - T 13
  · obtain ⟨hc', e, h2, h3⟩ := c_add h1 (k := 10) (by decide) (x := 1) (d := 1) (fun _ => rfl)
    refine ⟨hc', by rw [if_pos g, e, Option.bind_some], ?_, fun r hr hr' => (h3 r hr).trans (up_n hr')⟩
    rw [if_pos g]; exact h2
  · obtain ⟨hc', e, h2, h3⟩ := c_add h1 (k := 10) (by decide) (x := 0) (d := 0) (fun _ => rfl)
    refine ⟨hc', by rw [if_neg g, e, Option.bind_some], ?_, fun r hr hr' => (h3 r hr).trans (up_n hr')⟩
    rw [if_neg g]
    refine MR_cast h2 ?_
    rw [add_0]; exact uT_same
end
section
variable {F : Prop} {h0 hc : HP} {m nb tb : Nat} {T L A : Tr0}
def gcell (m : Nat) (r : RF) : Prop := r = (11, 1, m) ∨ r = (6, 0, m)
theorem MR_g {hc' : HP} {T' : Tr0} (hF : ¬ F) (h : MR F h0 hc m T L A nb) (hh : ∀ r, ¬ gcell m r → hc' r = hc r) (hT : ∀ j, j ≠ 7 → j ≠ 8 → j ≠ 33 → (j < 130 ∨ 190 ≤ j) → T' j = T j) (hfl : isB (hc' (6, 0, m) 3) = true) : MR F h0 hc' m T' L A nb := by
  obtain ⟨hM, _, hR, hnb, hw9, hw18⟩ := h
  have g : ∀ r, r.1 ≠ 6 → (r.1 ≠ 11 ∨ r.2.1 ≠ 1) → hc' r = hc r := fun r h1 h2 => hh r (fun q => by
    rcases q with q | q
    · rw [q] at h2; simp at h2
    · rw [q] at h1; simp at h1)
  refine ⟨?_, fun f => absurd f hF, fun r hr => ?_, hnb, by rw [hT 9 (by omega) (by omega) (by omega) (by omega)]; exact hw9, by rw [hT 18 (by omega) (by omega) (by omega) (by omega)]; exact hw18⟩
  · intro i
    match i with
    | 0 => exact fun k hk => by rw [g _ (by simp) (by simp), hT _ (by omega) (by omega) (by omega) (by omega)]; exact hM.a0 k hk
    | 1 => exact fun k hk => by rw [g _ (by simp) (by simp), hT _ (by omega) (by omega) (by omega) (by omega)]; exact hM.a1 k hk
    | 2 => show hc' (1, 0, m) 2 = T' 0; rw [g _ (by simp) (by simp), hT _ (by omega) (by omega) (by omega) (by omega)]; exact hM.a2
    | 3 => show hc' (1, 0, m) 3 = T' 1; rw [g _ (by simp) (by simp), hT _ (by omega) (by omega) (by omega) (by omega)]; exact hM.a3
    | 4 => show hc' (1, 0, m) 4 = T' 2; rw [g _ (by simp) (by simp), hT _ (by omega) (by omega) (by omega) (by omega)]; exact hM.a4
    | 5 => show hc' (3, 0, m) 6 = T' 3; rw [g _ (by simp) (by simp), hT _ (by omega) (by omega) (by omega) (by omega)]; exact hM.a5
    | 6 => show hc' (0, 0, m) 5 = nI nb; rw [g _ (by simp) (by simp)]; exact hM.a6
    | 7 => show hc' (0, 0, m) 6 = T' 4; rw [g _ (by simp) (by simp), hT _ (by omega) (by omega) (by omega) (by omega)]; exact hM.a7
    | 8 => show hc' (0, 0, m) 7 = T' 5; rw [g _ (by simp) (by simp), hT _ (by omega) (by omega) (by omega) (by omega)]; exact hM.a8
    | 9 => show hc' (0, 0, m) 8 = T' 6; rw [g _ (by simp) (by simp), hT _ (by omega) (by omega) (by omega) (by omega)]; exact hM.a9
    | 10 => exact fun b hb => by rw [g _ (by simp) (by simp)]; exact hM.a10 b hb
    | 11 => exact fun b hb => by rw [g _ (by simp) (by simp)]; exact hM.a11 b hb
    | 12 => exact fun b hb => by rw [g _ (by simp) (by simp), hT _ (by omega) (by omega) (by omega) (by omega)]; exact hM.a12 b hb
    | 13 => exact fun b hb => by rw [g _ (by simp) (by simp), hT _ (by omega) (by omega) (by omega) (by omega)]; exact hM.a13 b hb
    | 14 => exact hfl
    | n + 15 => exact trivial
  · rw [hh r (fun q => hr (by
      rcases q with q | q
      · rw [q]; unfold ofm; simp
      · rw [q]; unfold ofm; simp))]
    exact hR r hr
/-- what a feed does, whatever stands there -/
theorem feed_some (m : Nat) (hp : HP) : ∃ q : Int32 × HP, fX6_feed m hp = some q ∧ (∀ r, ¬ gcell m r → q.2 r = hp r) ∧ (isB (hp (6, 0, m) 3) = true → isB (q.2 (6, 0, m) 3) = true) := by
  have h78 : ∀ (x : Int32) (hp : HP), ∃ q : Int32 × HP, fX6_feed_78 m x hp = some q ∧ (∀ r, ¬ gcell m r → q.2 r = hp r) ∧ (isB (hp (6, 0, m) 3) = true → isB (q.2 (6, 0, m) 3) = true) := by
    intro x hp
    show ∃ q : Int32 × HP, (if (hp (6, 0, m) 3) = 0 then (some (x, up (up hp (6, 0, m) 3 1) (6, 0, m) 4 ((up hp (6, 0, m) 3 1) (6, 0, m) 4 + 1))) else (some (x, up (up hp (6, 0, m) 3 0) (6, 0, m) 4 ((up hp (6, 0, m) 3 0) (6, 0, m) 4 + 1)))) = some q ∧ (∀ r, ¬ gcell m r → q.2 r = hp r) ∧ (isB (hp (6, 0, m) 3) = true → isB (q.2 (6, 0, m) 3) = true)
    split
    · exact ⟨_, rfl, fun r hr => (up_n (fun e => hr (Or.inr e))).trans (up_n (fun e => hr (Or.inr e))), fun _ => by show isB ((up (up hp (6, 0, m) 3 1) (6, 0, m) 4 _) (6, 0, m) 3) = true; rw [up_o (by simp), up_s]; decide⟩
    · exact ⟨_, rfl, fun r hr => (up_n (fun e => hr (Or.inr e))).trans (up_n (fun e => hr (Or.inr e))), fun _ => by show isB ((up (up hp (6, 0, m) 3 0) (6, 0, m) 4 _) (6, 0, m) 3) = true; rw [up_o (by simp), up_s]; decide⟩
  have h60 : ∀ (x y : Int32) (hp : HP), ∃ q : Int32 × HP, fX6_feed_60 m x y hp = some q ∧ (∀ r, ¬ gcell m r → q.2 r = hp r) ∧ (isB (hp (6, 0, m) 3) = true → isB (q.2 (6, 0, m) 3) = true) := by
    intro x y hp
    show ∃ q : Int32 × HP, (if y < 0 then (fX6_feed_78 m x hp) else ((fX7_at 0 m 9 hp).bind fun v1 => if y < v1 then (some (x, up hp (6, 0, m) 2 y)) else (fX6_feed_78 m x hp))) = some q ∧ (∀ r, ¬ gcell m r → q.2 r = hp r) ∧ (isB (hp (6, 0, m) 3) = true → isB (q.2 (6, 0, m) 3) = true)
    rw [at_eq, Option.bind_some]
    split
    · exact h78 x hp
    · split
      · exact ⟨_, rfl, fun r hr => up_n (fun e => hr (Or.inr e)), fun q => by show isB ((up hp (6, 0, m) 2 y) (6, 0, m) 3) = true; rw [up_o (by simp)]; exact q⟩
      · exact h78 x hp
  show ∃ q : Int32 × HP, (fX7_at 1 m (hp (6, 0, m) 2) hp).bind (fun v2 => (fX7_at 0 m 11 hp).bind fun v3 => (fX7_put 1 m (hp (6, 0, m) 2) (imax 0 (v2 - v3)) hp).bind fun hp6 => if (hp6 (6, 0, m) 3) = 0 then (fX6_feed_60 m v2 ((hp6 (6, 0, m) 2) - 1) hp6) else (fX6_feed_60 m v2 ((hp6 (6, 0, m) 2) + 1) hp6)) = some q ∧ (∀ r, ¬ gcell m r → q.2 r = hp r) ∧ (isB (hp (6, 0, m) 3) = true → isB (q.2 (6, 0, m) 3) = true)
  rw [at_eq, at_eq, Option.bind_some, Option.bind_some, put_eq, Option.bind_some]
  split
  · obtain ⟨q, h1, h2, h3⟩ := h60 (RAt hp 1 m (hp (6, 0, m) 2)) ((PUt hp 1 m (hp (6, 0, m) 2) (imax 0 (RAt hp 1 m (hp (6, 0, m) 2) - RAt hp 0 m 11)) (6, 0, m) 2) - 1) (PUt hp 1 m (hp (6, 0, m) 2) (imax 0 (RAt hp 1 m (hp (6, 0, m) 2) - RAt hp 0 m 11)))
    exact ⟨q, h1, fun r hr => (h2 r hr).trans (PUt_o (fun e => hr (Or.inl e))), fun p => h3 (by rw [PUt_o (by simp)]; exact p)⟩
  · obtain ⟨q, h1, h2, h3⟩ := h60 (RAt hp 1 m (hp (6, 0, m) 2)) ((PUt hp 1 m (hp (6, 0, m) 2) (imax 0 (RAt hp 1 m (hp (6, 0, m) 2) - RAt hp 0 m 11)) (6, 0, m) 2) + 1) (PUt hp 1 m (hp (6, 0, m) 2) (imax 0 (RAt hp 1 m (hp (6, 0, m) 2) - RAt hp 0 m 11)))
    exact ⟨q, h1, fun r hr => (h2 r hr).trans (PUt_o (fun e => hr (Or.inl e))), fun p => h3 (by rw [PUt_o (by simp)]; exact p)⟩
theorem feT_o {T : Tr0} {j : Nat} (h7 : j ≠ 7) (h8 : j ≠ 8) (h33 : j ≠ 33) (hi : j ≠ 130 + tn (T 7)) : feT T j = T j := by
  unfold feT roT
  split <;> split <;> simp only [uT_n h7, uT_n h8, uT_n h33, uT_n hi]
theorem c_feed (h : MR F h0 hc m T L A nb) (hW : WF tb T L A nb) : ∃ ink hc', fX6_feed m hc = some (ink, hc') ∧ (F → ink = T (130 + tn (T 7))) ∧ MR F h0 hc' m (feT T) L A nb ∧ ∀ r, ¬ gcell m r → hc' r = hc r := by
  have hhe := hW.he
  have hlg := hW.lg
  have hws := hW.ws
  by_cases hF : F
  · have hU := h.2.1 hF
    have e7 : T 7 = nI (tn (T 7)) := hhe.1
    have i7 := isN_i hhe.1
    have i18 := isN_i hlg.1
    have z0 : (0 : Int32).toInt = 0 := rfl
    have z1 : (1 : Int32).toInt = 1 := rfl
    have h1 : MR F h0 (up hc (11, 1, m) (tn (T 7)) (imax 0 (T (130 + tn (T 7)) - T 20))) m (uT T (130 + tn (T 7)) (imax 0 (T (130 + tn (T 7)) - T 20))) L A nb := MR_ink h (by omega) (fun _ => rfl)
    have o1 : ∀ j, j < 130 → (uT T (130 + tn (T 7)) (imax 0 (T (130 + tn (T 7)) - T 20))) j = T j := fun j hj => uT_n (by omega)
    have fr1 : ∀ r, ¬ gcell m r → (up hc (11, 1, m) (tn (T 7)) (imax 0 (T (130 + tn (T 7)) - T 20))) r = hc r := fun r hr => up_n (fun e => hr (Or.inl e))
    have s1 : fX6_feed m hc = (if T 8 = 0 then (fX6_feed_60 m (T (130 + tn (T 7))) (T 7 - 1) (up hc (11, 1, m) (tn (T 7)) (imax 0 (T (130 + tn (T 7)) - T 20)))) else (fX6_feed_60 m (T (130 + tn (T 7))) (T 7 + 1) (up hc (11, 1, m) (tn (T 7)) (imax 0 (T (130 + tn (T 7)) - T 20))))) := by
      show (fX7_at 1 m (hc (6, 0, m) 2) hc).bind (fun v2 => (fX7_at 0 m 11 hc).bind fun v3 => (fX7_put 1 m (hc (6, 0, m) 2) (imax 0 (v2 - v3)) hc).bind fun hp6 => if (hp6 (6, 0, m) 3) = 0 then (fX6_feed_60 m v2 ((hp6 (6, 0, m) 2) - 1) hp6) else (fX6_feed_60 m v2 ((hp6 (6, 0, m) 2) + 1) hp6)) = _
      rw [hU.a1]
      conv => lhs; rw [e7]
      rw [at_n (show tn (T 7) < wlen 1 by show tn (T 7) < 60; omega), Option.bind_some, c_s11 h, Option.bind_some, put_n (show tn (T 7) < wlen 1 by show tn (T 7) < 60; omega), Option.bind_some, hU.a0 _ hhe.2, up_n (show ¬ ((6, 0, m) : RF) = (11, 1, m) by simp), hU.a1, hU.a2]
    rw [s1]
    generalize hX : up hc (11, 1, m) (tn (T 7)) (imax 0 (T (130 + tn (T 7)) - T 20)) = X at h1 fr1 ⊢
    have hU1 := h1.2.1 hF
    have x2 : X (6, 0, m) 3 = T 8 := by rw [hU1.a2, o1 8 (by omega)]
    have x3 : X (6, 0, m) 4 = T 33 := by rw [hU1.a3, o1 33 (by omega)]
    have s60 : ∀ y : Int32, fX6_feed_60 m (T (130 + tn (T 7))) y X = (if y < 0 then (fX6_feed_78 m (T (130 + tn (T 7))) X) else (if y < T 18 then (some (T (130 + tn (T 7)), up X (6, 0, m) 2 y)) else (fX6_feed_78 m (T (130 + tn (T 7))) X))) := by
      intro y
      show (if y < 0 then (fX6_feed_78 m (T (130 + tn (T 7))) X) else ((fX7_at 0 m 9 X).bind fun v1 => if y < v1 then (some (T (130 + tn (T 7)), up X (6, 0, m) 2 y)) else (fX6_feed_78 m (T (130 + tn (T 7))) X))) = _
      rw [c_s9 h1, Option.bind_some, o1 18 (by omega)]
    have s78 : fX6_feed_78 m (T (130 + tn (T 7))) X = (if T 8 = 0 then (some (T (130 + tn (T 7)), up (up X (6, 0, m) 3 1) (6, 0, m) 4 (T 33 + 1))) else (some (T (130 + tn (T 7)), up (up X (6, 0, m) 3 0) (6, 0, m) 4 (T 33 + 1)))) := by
      show (if (X (6, 0, m) 3) = 0 then (some (T (130 + tn (T 7)), up (up X (6, 0, m) 3 1) (6, 0, m) 4 ((up X (6, 0, m) 3 1) (6, 0, m) 4 + 1))) else (some (T (130 + tn (T 7)), up (up X (6, 0, m) 3 0) (6, 0, m) 4 ((up X (6, 0, m) 3 0) (6, 0, m) 4 + 1)))) = _
      rw [up_o (by simp), up_o (by simp), x2, x3]
    have fin : ∀ w : Int32, isB w = true → MR F h0 (up (up X (6, 0, m) 3 w) (6, 0, m) 4 (T 33 + 1)) m (uT (uT (uT T (130 + tn (T 7)) (imax 0 (T (130 + tn (T 7)) - T 20))) 8 w) 33 (T 33 + 1)) L A nb := fun w hw => MR_trn (MR_fwd h1 hw (fun _ => rfl)) (fun _ => rfl)
    have frw : ∀ w z : Int32, ∀ r, ¬ gcell m r → (up (up X (6, 0, m) 3 w) (6, 0, m) 4 z) r = hc r := fun w z r hr => (up_n (fun e => hr (Or.inr e))).trans ((up_n (fun e => hr (Or.inr e))).trans (fr1 r hr))
    have rd : feT T = roT (uT T (130 + tn (T 7)) (imax 0 (T (130 + tn (T 7)) - T 20))) := rfl
    rw [rd]
    unfold roT
    rw [o1 8 (by omega), o1 7 (by omega), o1 18 (by omega), o1 33 (by omega)]
    rcases hW.fo with f0 | f1
    · rw [if_pos f0, s60, if_neg (show ¬ T 8 = 1 by rw [f0]; decide)]
      by_cases g : T 7 = 0
      · rw [if_pos g, if_pos (show T 7 - 1 < 0 by rw [g]; decide), s78, if_pos f0]
        exact ⟨_, _, rfl, fun _ => rfl, fin 1 (by decide), frw _ _⟩
      · have g' : tn (T 7) ≠ 0 := fun q => g (by rw [e7, q]; rfl)
        have i : (T 7 - 1).toInt = (tn (T 7) : Int) - 1 := by rw [sub_s (by omega) (by omega), i7, z1]
        rw [if_neg g, if_neg (show ¬ T 7 - 1 < 0 by rw [lt_i, i, z0]; omega), if_pos (show T 7 - 1 < T 18 by rw [lt_i, i, i18]; omega)]
        exact ⟨_, _, rfl, fun _ => rfl, MR_hea h1 (fun _ => rfl), fun r hr => (up_n (fun e => hr (Or.inr e))).trans (fr1 r hr)⟩
    · have i : (T 7 + 1).toInt = (tn (T 7) : Int) + 1 := by rw [add_s (by omega) (by omega), i7, z1]
      rw [if_neg (show ¬ T 8 = 0 by rw [f1]; decide), s60, if_pos f1, if_neg (show ¬ T 7 + 1 < 0 by rw [lt_i, i, z0]; omega)]
      by_cases g : T 7 + 1 < T 18
      · rw [if_pos g, if_pos g]
        exact ⟨_, _, rfl, fun _ => rfl, MR_hea h1 (fun _ => rfl), fun r hr => (up_n (fun e => hr (Or.inr e))).trans (fr1 r hr)⟩
      · rw [if_neg g, if_neg g, s78, if_neg (show ¬ T 8 = 0 by rw [f1]; decide)]
        exact ⟨_, _, rfl, fun _ => rfl, fin 0 (by decide), frw _ _⟩
  · obtain ⟨q, h1, h2, h3⟩ := feed_some m hc
    refine ⟨q.1, q.2, h1, fun f => absurd f hF, MR_g hF h h2 (fun j a b c d => feT_o a b c ?_) (h3 h.1.a14), h2⟩
    have : tn (T 7) < 60 := by omega
    omega
end
