/-! ===== the class's keys and texts ===== -/
section
theorem roT_comm {T : Tr0} {k : Nat} {x : Int32} (h7 : k ≠ 7) (h8 : k ≠ 8) (h18 : k ≠ 18) (h33 : k ≠ 33) : roT (uT T k x) = uT (roT T) k x := by
  unfold roT
  rw [uT_n (show 8 ≠ k by omega), uT_n (show 7 ≠ k by omega), uT_n (show 18 ≠ k by omega), uT_n (show 33 ≠ k by omega)]
  split
  · split
    · rw [uT_comm h7]
    · rw [uT_comm h8, uT_comm h33]
  · split
    · rw [uT_comm h8, uT_comm h33]
    · rw [uT_comm h7]
theorem feT_comm {T : Tr0} {k : Nat} {x : Int32} (h7 : k ≠ 7) (h8 : k ≠ 8) (h18 : k ≠ 18) (h33 : k ≠ 33) (h20 : k ≠ 20) (hi : k ≠ 130 + tn (T 7)) : feT (uT T k x) = uT (feT T) k x := by
  unfold feT
  rw [uT_n (show 7 ≠ k by omega), uT_n (show 130 + tn (T 7) ≠ k by omega), uT_n (show 20 ≠ k by omega), uT_comm hi, roT_comm h7 h8 h18 h33]
theorem prT_alt {T : Tr0} {x : Int32} (h7 : tn (T 7) < 60) : prT T x = uT (uT (uT (uT (feT T) 25 (T 25 + 1)) 34 (T 34 + (if T (190 + plT T) = 0 then 0 else 1))) (190 + plT T) x) (670 + plT T) (imin 9 (T (670 + plT T) + T (130 + tn (T 7)))) := by
  have e7 : ovT T 7 = T 7 := by unfold ovT; split; rfl; exact uT_n (by decide)
  have e34 : feT T 34 = T 34 := feT_o (by decide) (by decide) (by decide) (by omega)
  have f34 : feT (ovT T) = uT (feT T) 34 (T 34 + (if T (190 + plT T) = 0 then 0 else 1)) := by
    unfold ovT
    split
    · rw [add_0]
      conv => rhs; rw [← e34]
      exact uT_same.symm
    · exact feT_comm (by decide) (by decide) (by decide) (by decide) (by decide) (by omega)
  unfold prT
  rw [feT_comm (by decide) (by decide) (by decide) (by decide) (by decide) (by rw [uT_n (by omega), uT_n (by omega), e7]; omega)]
  rw [feT_comm (by omega) (by omega) (by omega) (by omega) (by omega) (by rw [uT_n (by omega), e7]; omega)]
  rw [feT_comm (by omega) (by omega) (by omega) (by omega) (by omega) (by rw [e7]; omega)]
  rw [f34, uT_comm (show 670 + plT T ≠ 25 by omega), uT_comm (show 190 + plT T ≠ 25 by omega), uT_comm (show (34 : Nat) ≠ 25 by decide)]
end
section
variable {F : Prop} {h0 hc : HP} {m nb tb : Nat} {T L A : Tr0}
theorem c_strike (h : MR F h0 hc m T L A nb) {b : Nat} (hb : b < nb) : ∃ hc', fX0_noteStrike m (nI b) (hc (3, 0, m) 6) hc = some hc' ∧ MR F h0 hc' m (uT (uT (uT T (38 + 2 * b) (T 3)) (39 + 2 * b) (T (39 + 2 * b) + 1)) 4 (nI b)) L A nb := by
  have hnb := h.2.2.2.1
  refine ⟨up (up (up hc (11, 7, m) b (T 3)) (11, 8, m) b (T (39 + 2 * b) + 1)) (0, 0, m) 6 (nI b), ?_, MR_lat (MR_ofn (MR_str h hb) hb)⟩
  show (fX7_put 7 m (nI b) (hc (3, 0, m) 6) hc).bind (fun hp3 => (fX7_at 8 m (nI b) hp3).bind fun v4 => (fX7_put 8 m (nI b) (v4 + 1) hp3).bind fun hp7 => some (up hp7 (0, 0, m) 6 (nI b))) = _
  rw [put_n (show b < wlen 7 by show b < 26; omega), Option.bind_some, at_n (show b < wlen 8 by show b < 26; omega), Option.bind_some, put_n (show b < wlen 8 by show b < 26; omega), Option.bind_some, h.1.a5, up_n (show ¬ ((11, 8, m) : RF) = (11, 7, m) by simp), h.1.a13 b hb]
theorem c_placeOf (h : MR F h0 hc m T L A nb) {l c : Nat} (hl : l < 1000) (hw : isN (T 9)) : fX4_placeOf m (nI l) (nI c) hc = some (nI (l * tn (T 9) + c)) := by
  show (fX7_at 0 m 0 hc).bind (fun v1 => some ((nI l * v1) + nI c)) = _
  have hw' : T 9 = nI (tn (T 9)) := hw
  rw [c_s0 h, Option.bind_some, ← n_add, ← n_mul, ← hw']
theorem plc_lt {w l c : Nat} (hl : l < 12) (hc : c < w) (hw : w ≤ 40) : l * w + c < 480 := by
  have : l * w ≤ 11 * w := Nat.mul_le_mul_right w (by omega)
  omega
theorem c_print (h : MR F h0 hc m T L A nb) (hw : isN (T 9)) {l c : Nat} (hl : l < 12) (hcw : c < tn (T 9)) {x ink i' : Int32} (hx : x ≠ 0) (hi : F → ink = i') : ∃ hc', fX4_print m (nI (l * tn (T 9) + c)) x ink hc = some hc' ∧ MR F h0 hc' m (uT (uT T (190 + 40 * l + c) x) (670 + 40 * l + c) (imin 9 (T (670 + 40 * l + c) + i'))) L A nb ∧ ∀ r, r ≠ (11, 2, m) → r ≠ (11, 3, m) → hc' r = hc r := by
  have hw9 := h.2.2.2.2.1
  have hp := plc_lt hl hcw hw9
  have h1 : MR F h0 (up hc (11, 2, m) (l * tn (T 9) + c) x) m (uT T (190 + 40 * l + c) x) L A nb := MR_sgn h hl hcw (fun _ => by unfold sg; rw [if_neg hx])
  have t9 : (uT T (190 + 40 * l + c) x) 9 = T 9 := uT_n (by omega)
  have h2 := MR_drk (x := imin 9 ((up hc (11, 2, m) (l * tn (T 9) + c) x) (11, 3, m) (l * tn (T 9) + c) + ink)) (y := imin 9 (T (670 + 40 * l + c) + i')) h1 hl (c0 := c) (by rw [t9]; exact hcw) (fun f => by
    rw [up_n (show ¬ ((11, 3, m) : RF) = (11, 2, m) by simp), (h.2.1 f).a6 l c hl hcw, hi f])
  rw [t9] at h2
  refine ⟨_, ?_, h2, fun r h1 h2 => (up_n h2).trans (up_n h1)⟩
  show (fX7_put 2 m (nI (l * tn (T 9) + c)) x hc).bind (fun hp3 => (fX7_at 3 m (nI (l * tn (T 9) + c)) hp3).bind fun v4 => (fX7_put 3 m (nI (l * tn (T 9) + c)) (imin 9 (v4 + ink)) hp3).bind fun hp7 => some hp7) = _
  rw [put_n (show _ < wlen 2 from hp), Option.bind_some, at_n (show _ < wlen 3 from hp), Option.bind_some, put_n (show _ < wlen 3 from hp), Option.bind_some]
theorem c_printLetter (h : MR F h0 hc m T L A nb) (hW : WF tb T L A nb) {b : Nat} (hb : b < nb) (hcw : tn (T 1) < tn (T 9)) {sh : Int32} : ∃ hc', fX3_printLetter m (nI b) sh hc = some hc' ∧ MR F h0 hc' m (skT T L b sh) L A nb ∧ (F → hc' (3, 0, m) 9 = T (130 + tn (T 7))) := by
  have hnb := hW.nb
  have hw := hW.w
  have hli := hW.li
  have hln := hW.ln
  have hhe := hW.he
  have hlg := hW.lg
  have hle := hW.le b hb
  have hL : L b = nI (tn (L b)) := hle.1
  obtain ⟨hc1, e1, g1⟩ := c_strike h hb
  generalize hS : uT (uT (uT T (38 + 2 * b) (T 3)) (39 + 2 * b) (T (39 + 2 * b) + 1)) 4 (nI b) = S at g1
  have oS : ∀ j, (j < 38 ∨ 90 ≤ j) → j ≠ 4 → S j = T j := fun j h h' => by
    rw [← hS, uT_n h', uT_n (by omega), uT_n (by omega)]
  have hWS : WF tb S L A nb := by
    rw [← hS]
    exact WF_lat (WF_free (WF_str hW hb (Or.inr ⟨hW.ti.1, Nat.le_refl _⟩)) (by omega)) hb
  obtain ⟨ink, hc2, e2, gi, g2, f2⟩ := c_feed g1 hWS
  have s7 : S 7 = T 7 := oS 7 (by omega) (by omega)
  rw [s7, oS (130 + tn (T 7)) (by omega) (by omega)] at gi
  have g3 : MR F h0 (up hc2 (3, 0, m) 9 ink) m (feT S) L A nb := MR_r9 g2
  have oF : ∀ j, j ≠ 7 → j ≠ 8 → j ≠ 33 → (j < 130 ∨ 190 ≤ j) → feT S j = S j := fun j a b c d => feT_o a b c (by rw [s7]; omega)
  have t9 : feT S 9 = T 9 := by rw [oF 9 (by omega) (by omega) (by omega) (by omega), oS 9 (by omega) (by omega)]
  have t0 : feT S 0 = T 0 := by rw [oF 0 (by omega) (by omega) (by omega) (by omega), oS 0 (by omega) (by omega)]
  have t1 : feT S 1 = T 1 := by rw [oF 1 (by omega) (by omega) (by omega) (by omega), oS 1 (by omega) (by omega)]
  obtain ⟨hc4, e4, g4, f4⟩ := c_add g3 (k := 3) (by decide) (x := 1) (d := 1) (fun _ => rfl)
  generalize hd : (if S (190 + plT S) = 0 then (0 : Int32) else 1) = d
  have hp := plc_lt (show tn (T 0) < 12 by omega) hcw (by omega)
  have ps : plT S = 40 * tn (T 0) + tn (T 1) := by unfold plT; rw [oS 0 (by omega) (by omega), oS 1 (by omega) (by omega)]
  have t9b : (uT (feT S) 25 (feT S 25 + 1)) 9 = T 9 := t9
  -- is the place empty
  have hem : ∃ d', fX4_isEmpty m (nI (tn (T 0) * tn (T 9) + tn (T 1))) hc4 = some d' ∧ (F → (if d' = 0 then (1 : Int32) else 0) = d) := by
    refine ⟨if hc4 (11, 2, m) (tn (T 0) * tn (T 9) + tn (T 1)) = 32 then 1 else 0, ?_, fun f => ?_⟩
    · show (fX7_at 2 m (nI (tn (T 0) * tn (T 9) + tn (T 1))) hc4).bind (fun v1 => if v1 = 32 then (some 1) else (some 0)) = _
      rw [at_n (show _ < wlen 2 from hp), Option.bind_some]; split <;> rfl
    · have hs := (g4.2.1 f).a5 (tn (T 0)) (tn (T 1)) (by omega) (by rw [t9b]; exact hcw)
      rw [t9b] at hs
      have hv : (uT (feT S) 25 (feT S 25 + 1)) (190 + 40 * tn (T 0) + tn (T 1)) = T (190 + 40 * tn (T 0) + tn (T 1)) := by
        rw [uT_n (by omega), oF _ (by omega) (by omega) (by omega) (by omega), oS _ (by omega) (by omega)]
      have hv' : (uT (feT S) (22 + 3) (feT S (22 + 3) + 1)) (190 + 40 * tn (T 0) + tn (T 1)) = T (190 + 40 * tn (T 0) + tn (T 1)) := hv
      rw [hv'] at hs
      have hsn := hW.sn (tn (T 0)) (tn (T 1)) (by omega) (by omega)
      have hpe : 190 + plT S = 190 + 40 * tn (T 0) + tn (T 1) := by rw [ps]; omega
      rw [← hd, hpe, oS _ (by omega) (by omega), hs]
      unfold sg
      by_cases q : T (190 + 40 * tn (T 0) + tn (T 1)) = 0
      · rw [if_pos q, if_pos rfl, if_neg (by decide), if_pos q]
      · rw [if_neg q, if_neg hsn, if_pos rfl, if_neg q]
  obtain ⟨d', ee, hdd⟩ := hem
  obtain ⟨hc5, e5, g5, f5⟩ := c_add g4 (k := 12) (by decide) (x := if d' = 0 then 1 else 0) (d := d) hdd
  generalize hx : (if sh = 0 then L b else L b - 32) = x
  have hx0 : x ≠ 0 := by
    rw [← hx]
    split
    · intro q; rw [q] at hle; exact absurd hle.2.1 (by decide)
    · intro q
      have hs : L b - 32 = nI (tn (L b) - 32) := by
        rw [n_lit 32]
        conv => lhs; rw [hL]
        exact n_sub (by omega)
      rw [hs, n_lit 0, n_eq (by omega) (by omega)] at q
      omega
  have t9c : (uT (uT (feT S) (22 + 3) (feT S (22 + 3) + 1)) (22 + 12) ((uT (feT S) (22 + 3) (feT S (22 + 3) + 1)) (22 + 12) + d)) 9 = T 9 := t9
  have n9 : hc5 (3, 0, m) 9 = ink := by
    rw [f5 _ (by simp), f4 _ (by simp)]; exact up_s
  obtain ⟨hc6, e6, g6, f6⟩ := c_print g5 (by rw [t9c]; exact hw.1) (l := tn (T 0)) (c := tn (T 1)) (by omega) (by rw [t9c]; exact hcw) (x := x) (ink := hc5 (3, 0, m) 9) (i' := T (130 + tn (T 7))) hx0 (fun f => by rw [n9]; exact gi f)
  rw [t9c] at e6
  have hT : (uT (uT (uT (uT (feT S) (22 + 3) (feT S (22 + 3) + 1)) (22 + 12) ((uT (feT S) (22 + 3) (feT S (22 + 3) + 1)) (22 + 12) + d)) (190 + 40 * tn (T 0) + tn (T 1)) x) (670 + 40 * tn (T 0) + tn (T 1)) (imin 9 ((uT (uT (feT S) (22 + 3) (feT S (22 + 3) + 1)) (22 + 12) ((uT (feT S) (22 + 3) (feT S (22 + 3) + 1)) (22 + 12) + d)) (670 + 40 * tn (T 0) + tn (T 1)) + T (130 + tn (T 7))))) = prT S x := by
    rw [prT_alt (by rw [s7]; omega), hd]
    have hpe : 190 + plT S = 190 + 40 * tn (T 0) + tn (T 1) := by rw [ps]; omega
    have hpf : 670 + plT S = 670 + 40 * tn (T 0) + tn (T 1) := by rw [ps]; omega
    rw [hpe, hpf, s7, oS (130 + tn (T 7)) (by omega) (by omega)]
    have a1 : feT S (22 + 3) = S 25 := oF 25 (by omega) (by omega) (by omega) (by omega)
    have a2 : (uT (feT S) (22 + 3) (S 25 + 1)) (22 + 12) = S 34 := by
      rw [uT_n (by omega)]; exact oF 34 (by omega) (by omega) (by omega) (by omega)
    have a3 : (uT (uT (feT S) (22 + 3) (S 25 + 1)) (22 + 12) (S 34 + d)) (670 + 40 * tn (T 0) + tn (T 1)) = S (670 + 40 * tn (T 0) + tn (T 1)) := by
      rw [uT_n (by omega), uT_n (by omega), oF _ (by omega) (by omega) (by omega) (by omega)]
    rw [a1, a2, a3]
  obtain ⟨hc7, e7, g7, f7⟩ := c_moveOn (MR_cast g6 hT)
  refine ⟨hc7, ?_, ?_, fun f => ?_⟩
  · show (fX0_noteStrike m (nI b) (hc (3, 0, m) 6) hc).bind (fun hp18 => (fX6_feed m hp18).bind fun q20 => fX3_printLetter_23 m (nI b) sh (up q20.2 (3, 0, m) 9 q20.1)) = _
    rw [e1, Option.bind_some, e2, Option.bind_some]
    show (fX4_placeOf m ((up hc2 (3, 0, m) 9 ink) (1, 0, m) 2) ((up hc2 (3, 0, m) 9 ink) (1, 0, m) 3) (up hc2 (3, 0, m) 9 ink)).bind (fun v11 => (fX3_addTo m (nI 3) 1 (up hc2 (3, 0, m) 9 ink)).bind fun hp14 => (fX4_isEmpty m v11 hp14).bind fun v15 => if v15 = 0 then (fX3_printLetter_70 m (nI b) sh v11 m (nI 12) 1 hp14) else (fX3_printLetter_70 m (nI b) sh v11 m (nI 12) 0 hp14)) = _
    have q0 : (up hc2 (3, 0, m) 9 ink) (1, 0, m) 2 = nI (tn (T 0)) := by rw [g3.1.a2, t0]; exact hli.1
    have q1 : (up hc2 (3, 0, m) 9 ink) (1, 0, m) 3 = nI (tn (T 1)) := by rw [g3.1.a3, t1]; exact hW.co.1
    rw [q0, q1, c_placeOf g3 (by omega) (by rw [t9]; exact hw.1), Option.bind_some, e4, Option.bind_some, t9, ee, Option.bind_some]
    have s70 : ∀ y : Int32, fX3_addTo m (nI 12) y hc4 = some hc5 → fX3_printLetter_70 m (nI b) sh (nI (tn (T 0) * tn (T 9) + tn (T 1))) m (nI 12) y hc4 = some hc7 := by
      intro y hy
      show (fX3_addTo m (nI 12) y hc4).bind (fun hp9 => (fX7_at 5 m (nI b) hp9).bind fun v10 => if sh = 0 then (fX3_printLetter_108 m m (nI (tn (T 0) * tn (T 9) + tn (T 1))) v10 hp9) else (fX3_printLetter_108 m m (nI (tn (T 0) * tn (T 9) + tn (T 1))) ((v10 - 97) + 65) hp9)) = _
      rw [hy, Option.bind_some, at_n (show b < wlen 5 by show b < 26; omega), Option.bind_some, g5.1.a10 b hb]
      have s108 : fX3_printLetter_108 m m (nI (tn (T 0) * tn (T 9) + tn (T 1))) x hc5 = some hc7 := by
        show (fX4_print m (nI (tn (T 0) * tn (T 9) + tn (T 1))) x (hc5 (3, 0, m) 9) hc5).bind (fun hp3 => (fX3_moveOn m hp3).bind fun hp6 => some hp6) = _
        rw [e6, Option.bind_some, e7, Option.bind_some]
      by_cases q : sh = 0
      · rw [if_pos q]; rw [if_pos q] at hx; rw [hx]; exact s108
      · rw [if_neg q]; rw [if_neg q] at hx
        have hq : (L b - 97) + 65 = L b - 32 := by
          rw [n_lit 97, n_lit 65, n_lit 32]
          conv => lhs; rw [hL]
          conv => rhs; rw [hL]
          rw [n_sub (by omega), n_sub (by omega), n_add]; congr 1; omega
        rw [hq, hx]; exact s108
    by_cases q : d' = 0
    · rw [if_pos q]; rw [if_pos q] at e5; exact s70 1 e5
    · rw [if_neg q]; rw [if_neg q] at e5; exact s70 0 e5
  · unfold skT
    rw [hS, hx]
    exact g7
  · rw [f7 _ (by simp) (by simp), f6 _ (by simp) (by simp), n9]; exact gi f
theorem c_letterKey (h : MR F h0 hc m T L A nb) (hW : WF tb T L A nb) (ht : tb < 900000000) {b : Nat} (hb : b < nb) {sh : Int32} : ∃ hc', fX3_letterKey m (nI b) sh hc = some (lvT T A b, hc') ∧ MR F h0 hc' m (leT T L A b sh) L A nb ∧ (F → hc' (3, 0, m) 9 = if lvT T A b = 0 then T (130 + tn (T 7)) else hc (3, 0, m) 9) := by
  have hnb := hW.nb
  have hB := WF_beT hW (by omega)
  have hhe := hW.he
  have hlg := hW.lg
  obtain ⟨hc1, e1, g1, f1⟩ := c_startKey h
  have n1 : hc1 (3, 0, m) 9 = hc (3, 0, m) 9 := by
    obtain ⟨w1, w2, w3⟩ := c_add (T := uT T 3 (T 3 + T 14)) (m := m) (hc := up hc (3, 0, m) 6 (T 3 + T 14)) (h0 := h0) (F := F) (L := L) (A := A) (nb := nb) (MR_tim h) (k := 13) (by decide) (x := 1) (d := 1) (fun _ => rfl)
    have e1' : fX3_startKey m hc = some w1 := by
      show (fX7_at 0 m 5 hc).bind (fun v1 => (fX3_addTo m (nI 13) 1 (up hc (3, 0, m) 6 ((hc (3, 0, m) 6) + v1))).bind fun hp4 => some hp4) = _
      rw [c_s5 h, Option.bind_some, h.1.a5, w2, Option.bind_some]
    rw [e1'] at e1
    cases e1
    rw [w3.2 _ (by simp)]
    exact up_o (by simp)
  have hlv : lvT T A b = faT (beT T) A b (beT T 3) := rfl
  have h27 : ∀ v : Int32, v = lvT T A b → ∃ hc', fX3_letterKey_27 m (nI b) sh v hc1 = some (lvT T A b, hc') ∧ MR F h0 hc' m (leT T L A b sh) L A nb ∧ (F → hc' (3, 0, m) 9 = if lvT T A b = 0 then T (130 + tn (T 7)) else hc (3, 0, m) 9) := by
    intro v hv
    rw [hv]
    show ∃ hc', (if lvT T A b = 0 then ((fX3_printLetter m (nI b) sh hc1).bind fun hp11 => fX3_letterKey_60 m (lvT T A b) hp11) else (if lvT T A b = 5 then ((some (up (up hc1 (0, 0, m) 7 (nI b)) (0, 0, m) 8 ((up hc1 (0, 0, m) 7 (nI b)) (0, 0, m) 6))).bind fun hp5 => (fX3_addTo m (nI 8) 1 hp5).bind fun hp8 => fX3_letterKey_60 m (lvT T A b) hp8) else (fX3_letterKey_60 m (lvT T A b) hc1))) = some (lvT T A b, hc') ∧ MR F h0 hc' m (leT T L A b sh) L A nb ∧ (F → hc' (3, 0, m) 9 = if lvT T A b = 0 then T (130 + tn (T 7)) else hc (3, 0, m) 9)
    have fin : ∀ (S : Tr0) (hx : HP), MR F h0 hx m S L A nb → ∃ hc', fX3_letterKey_60 m (lvT T A b) hx = some (lvT T A b, hc') ∧ MR F h0 hc' m (enT S (lvT T A b)) L A nb ∧ hc' (3, 0, m) 9 = hx (3, 0, m) 9 := by
      intro S hx hS
      obtain ⟨hc', e, g, f⟩ := c_endKey hS (lvT T A b)
      refine ⟨hc', ?_, g, by rw [f _ (by simp)]⟩
      show (fX3_endKey m (lvT T A b) hx).bind (fun q2 => some (q2.1, q2.2)) = _
      rw [e, Option.bind_some]
    unfold leT
    by_cases q0 : lvT T A b = 0
    · rw [if_pos q0, if_neg (show ¬ lvT T A b = 5 by rw [q0]; decide), if_pos q0]
      obtain ⟨hc2, e2, g2, i2⟩ := c_printLetter (sh := sh) g1 hB hb (lock_lt hB (faT_lock q0))
      rw [e2, Option.bind_some]
      obtain ⟨hc3, e3, g3, i3⟩ := fin _ _ g2
      refine ⟨hc3, e3, g3, fun f => ?_⟩
      rw [if_pos q0, i3, i2 f, beT_o (show 7 ≠ 3 by decide) (by decide), beT_o (by omega) (by omega)]
    · rw [if_neg q0]
      by_cases q5 : lvT T A b = 5
      · rw [if_pos q5, if_pos q5, Option.bind_some]
        have g2 : MR F h0 (up (up hc1 (0, 0, m) 7 (nI b)) (0, 0, m) 8 ((up hc1 (0, 0, m) 7 (nI b)) (0, 0, m) 6)) m (uT (uT (beT T) 5 (nI b)) 6 (beT T 4)) L A nb := by
          rw [up_o (show ¬ (((0, 0, m) : RF) = (0, 0, m) ∧ 6 = 7) by simp), g1.1.a7]
          exact MR_ja2 (MR_ja1 g1)
        obtain ⟨hc3, e3, g3, f3⟩ := c_add g2 (k := 8) (by decide) (x := 1) (d := 1) (fun _ => rfl)
        rw [e3, Option.bind_some]
        obtain ⟨hc4, e4, g4, i4⟩ := fin _ _ g3
        refine ⟨hc4, e4, g4, fun f => ?_⟩
        rw [if_neg q0, i4, f3 _ (by simp), up_n (by simp), up_n (by simp), n1]
      · rw [if_neg q5, if_neg q5, if_neg q0]
        obtain ⟨hc4, e4, g4, i4⟩ := fin _ _ g1
        refine ⟨hc4, e4, g4, fun f => ?_⟩
        rw [if_neg q0, i4, n1]
  have hs : fX3_letterKey m (nI b) sh hc = fX3_letterKey_27 m (nI b) sh (lvT T A b) hc1 := by
    show (fX3_startKey m hc).bind (fun hp14 => (fX3_standingFault m 1 hp14).bind fun v15 => if v15 = 0 then ((fX0_strikeFault m (nI b) (hp14 (3, 0, m) 6) hp14).bind fun v16 => fX3_letterKey_27 m (nI b) sh v16 hp14) else (fX3_letterKey_27 m (nI b) sh v15 hp14)) = _
    rw [e1, Option.bind_some, c_stand1 g1, Option.bind_some, c_fault g1 hB hb, Option.bind_some, g1.1.a5, hlv]
    unfold faT
    by_cases q : beT T 5 = m1
    · rw [if_pos q, if_pos q]
      by_cases q2 : lkT (beT T) (beT T 1) = 0
      · rw [if_pos q2, if_pos q2, if_pos rfl]
      · rw [if_neg q2, if_neg q2, if_neg (by decide)]
    · rw [if_neg q, if_neg q, if_neg (by decide)]
  rw [hs]
  exact h27 _ rfl
end
