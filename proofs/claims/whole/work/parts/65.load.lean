/-! ===== load ===== -/
section
theorem St_LA {hc : HP} {m : Nat} {T L L' A A' : Tr0} {nb tb : Nat} (h : St hc m T L A nb tb) (eL : ∀ k, k < 26 → L' k = L k) (eA : ∀ k, k < 26 → A' k = A k) : St hc m T L' A' nb tb := by
  obtain ⟨hM, hF, hR, hW⟩ := h
  have hnb : nb ≤ 26 := hW.nb
  refine ⟨?_, hF, hR, ?_⟩
  · intro i
    match i with
    | 0 => exact hM 0
    | 1 => exact hM 1
    | 2 => exact hM 2
    | 3 => exact hM 3
    | 4 => exact hM 4
    | 5 => exact hM 5
    | 6 => exact hM 6
    | 7 => exact hM 7
    | 8 => exact hM 8
    | 9 => exact hM 9
    | 10 => intro b hb; rw [eL b (by omega)]; exact hM.a10 b hb
    | 11 => intro b hb; rw [eA b (by omega)]; exact hM.a11 b hb
    | 12 => exact hM 12
    | 13 => exact hM 13
    | 14 => exact hM 14
    | n + 15 => exact trivial
  · intro i
    match i with
    | 0 => exact hW 0
    | 1 => exact hW 1
    | 2 => exact hW 2
    | 3 => exact hW 3
    | 4 => exact hW 4
    | 5 => exact hW 5
    | 6 => exact hW 6
    | 7 => exact hW 7
    | 8 => exact hW 8
    | 9 => exact hW 9
    | 10 => exact hW 10
    | 11 => exact hW 11
    | 12 => exact hW 12
    | 13 => exact hW 13
    | 14 => exact hW 14
    | 15 => exact hW 15
    | 16 => exact hW 16
    | 17 => exact hW 17
    | 18 => exact hW 18
    | 19 => intro b hb; rw [eL b (by omega)]; exact hW.le b hb
    | 20 => intro b hb; rw [eA b (by omega)]; exact hW.an b hb
    | 21 => exact hW 21
    | 22 => exact hW 22
    | 23 => exact hW 23
    | 24 => exact hW 24
    | 25 => exact hW 25
    | n + 26 => exact trivial
variable {tb : Nat} {hc hm hc' hm' : HP} {sz wn os hs nb : Nat}
theorem Iv_fail (h : Iv tb hc hm sz wn os hs nb)
    (c0 : ∀ r, ¬ ofm 1 r → r ≠ (5, 0, 0) → r ≠ (9, 0, 0) → hc' r = hc r) (c1 : hc' (9, 0, 0) 1 = nI 0) (c2 : ∀ k, k ≠ 1 → hc' (9, 0, 0) k = hc (9, 0, 0) k)
    (c3 : hc' (5, 0, 0) 7 = hm' (10, 0, 0) 12) (c4 : hc' (5, 0, 0) 8 = hm' (10, 0, 0) 13) (f1 : isB (hc' (1, 0, 1) 4) = true) (f6 : isB (hc' (6, 0, 1) 3) = true)
    (d1 : hm' (10, 0, 0) 11 = nI 0) (d2 : ∀ k, (k = 1 ∨ k = 2 ∨ k = 8 ∨ k = 30) → hm' (10, 0, 0) k = hm (10, 0, 0) k)
    (d24 : hm' (11, 24, 0) = hm (11, 24, 0)) (d25 : hm' (11, 25, 0) = hm (11, 25, 0)) (d31 : hm' (11, 31, 0) = hm (11, 31, 0)) (d12 : hm' (12, 0, 0) = hm (12, 0, 0))
    (d4 : ∀ k, k < 1150 → hm' (11, 22, 0) k = hm (11, 22, 0) k) (d5 : ∀ k, k < 26 → hm' (11, 20, 0) k = hm (11, 20, 0) k) (d6 : ∀ k, k < 26 → hm' (11, 21, 0) k = hm (11, 21, 0) k) : Iv tb hc' hm' 0 wn os hs nb := by
  have eS : ∀ {m : Nat} {T : Tr0}, m ≠ 1 → St hc m T (hm (11, 20, 0)) (hm (11, 21, 0)) nb tb → St hc' m T (hm' (11, 20, 0)) (hm' (11, 21, 0)) nb tb := fun hm1 hS => St_LA (St_hc hS (fun r hr => c0 r (fun q => hm1 (ofm_u hr q)) (fun q => by
    rw [q] at hr; unfold ofm at hr; simp at hr) (fun q => by
    rw [q] at hr; unfold ofm at hr; simp at hr))) d5 d6
  have eR : ∀ i, rowS hm' i = rowS hm i := fun i => by funext k; unfold rowS; rw [d24]
  intro i
  match i with
  | 0 => exact c1
  | 1 => exact d1
  | 2 => exact Nat.zero_le _
  | 3 => intro k hk; rw [c0 _ (by unfold ofm; simp) (by simp) (by simp), d25]; exact h.by k hk
  | 4 => intro k hk; rw [d25]; exact h.bn k hk
  | 5 => exact c3
  | 6 => exact c4
  | 7 => exact (c2 10 (by decide)).trans h.wc
  | 8 => exact (d2 30 (by omega)).trans h.wm
  | 9 => exact h.wb
  | 10 => intro j hj; rw [c0 _ (by unfold ofm; simp) (by simp) (by simp), d31]; exact h.wt j hj
  | 11 =>
    intro m hm0
    by_cases e : m = 1
    · rw [e]; exact f1
    · rw [c0 _ (by unfold ofm; simp; exact e) (by simp) (by simp)]; exact h.b1 m hm0
  | 12 =>
    intro m hm0
    by_cases e : m = 1
    · rw [e]; exact f6
    · rw [c0 _ (by unfold ofm; simp; exact e) (by simp) (by simp)]; exact h.b6 m hm0
  | 13 => show hc' (2, 0, 0) 1 = nI os; rw [c0 _ (by unfold ofm; simp) (by simp) (by simp)]; exact h.ho
  | 14 => exact h.hb
  | 15 => show hc' (2, 0, 0) 2 = nI hs; rw [c0 _ (by unfold ofm; simp) (by simp) (by simp)]; exact h.hs
  | 16 => exact (d2 8 (by omega)).trans h.hm
  | 17 => exact h.h8
  | 18 => intro i hi; rw [c0 _ (by unfold ofm; simp) (by simp) (by simp), d12]; exact h.sl i hi
  | 19 => intro i hi; rw [d12]; exact h.s1 i hi
  | 20 => exact (d2 2 (by omega)).trans h.nb
  | 21 => show hc' (9, 0, 0) 2 = hm' (10, 0, 0) 1; rw [c2 2 (by decide), d2 1 (by omega)]; exact h.lo
  | 22 => show hm' (10, 0, 0) 1 = 0 ∨ hm' (10, 0, 0) 1 = 1; rw [d2 1 (by omega)]; exact h.l1
  | 23 => intro q; rw [d2 1 (by omega)] at q; have := h.l0 q; exact ⟨this.1, fun i hi => by rw [d12]; exact this.2 i hi⟩
  | 24 => intro q; rw [d2 1 (by omega)] at q; exact St_T (eS (by omega) (h.no q)) d4
  | 25 => intro q a ha; rw [d2 1 (by omega)] at q; rw [eR]; exact eS (by omega) (h.ke q a ha)
  | 26 => intro i hi q; rw [d12] at q; rw [eR]; exact eS (by omega) (h.sv i hi q)
  | n + 27 => exact trivial
theorem Iv_load {nb' : Nat} (h : Iv tb hc hm sz wn os hs nb)
    (c0 : ∀ r, ¬ ofm 0 r → ¬ ofm 1 r → r ≠ (5, 0, 0) → r ≠ (9, 0, 0) → r ≠ (2, 0, 0) → r ≠ (8, 0, 0) → r ≠ (8, 0, 1) → hc' r = hc r) (c1 : hc' (9, 0, 0) 1 = nI 0) (c2 : hc' (9, 0, 0) 2 = 1) (c10 : hc' (9, 0, 0) 10 = hc (9, 0, 0) 10)
    (c3 : hc' (5, 0, 0) 7 = hm' (10, 0, 0) 12) (c4 : hc' (5, 0, 0) 8 = hm' (10, 0, 0) 13) (f1 : ∀ m, m < 2 → isB (hc' (1, 0, m) 4) = true) (f6 : ∀ m, m < 2 → isB (hc' (6, 0, m) 3) = true)
    (h1 : hc' (2, 0, 0) 1 = hc (2, 0, 0) 1) (h2 : hc' (2, 0, 0) 2 = nI 0) (s0 : ∀ i, i < 2 → hc' (8, 0, i) 1 = 0)
    (d1 : hm' (10, 0, 0) 11 = nI 0) (d2 : hm' (10, 0, 0) 1 = 1) (d3 : hm' (10, 0, 0) 2 = nI nb') (d8 : hm' (10, 0, 0) 8 = nI 0) (d30 : hm' (10, 0, 0) 30 = hm (10, 0, 0) 30)
    (d25 : hm' (11, 25, 0) = hm (11, 25, 0)) (d31 : hm' (11, 31, 0) = hm (11, 31, 0)) (d12 : ∀ i, i < 2 → hm' (12, 0, 0) i = 0)
    (hS : St hc' 0 (hm' (11, 22, 0)) (hm' (11, 20, 0)) (hm' (11, 21, 0)) nb' tb) : Iv tb hc' hm' 0 wn os 0 nb' := by
  intro i
  match i with
  | 0 => exact c1
  | 1 => exact d1
  | 2 => exact Nat.zero_le _
  | 3 => intro k hk; rw [c0 _ (by unfold ofm; simp) (by unfold ofm; simp) (by simp) (by simp) (by simp) (by simp) (by simp), d25]; exact h.by k hk
  | 4 => intro k hk; rw [d25]; exact h.bn k hk
  | 5 => exact c3
  | 6 => exact c4
  | 7 => exact c10.trans h.wc
  | 8 => exact d30.trans h.wm
  | 9 => exact h.wb
  | 10 => intro j hj; rw [c0 _ (by unfold ofm; simp) (by unfold ofm; simp) (by simp) (by simp) (by simp) (by simp) (by simp), d31]; exact h.wt j hj
  | 11 =>
    intro m hm0
    by_cases e : m < 2
    · exact f1 m e
    · rw [c0 _ (by unfold ofm; simp; omega) (by unfold ofm; simp; omega) (by simp) (by simp) (by simp) (by simp) (by simp)]; exact h.b1 m hm0
  | 12 =>
    intro m hm0
    by_cases e : m < 2
    · exact f6 m e
    · rw [c0 _ (by unfold ofm; simp; omega) (by unfold ofm; simp; omega) (by simp) (by simp) (by simp) (by simp) (by simp)]; exact h.b6 m hm0
  | 13 => exact h1.trans h.ho
  | 14 => exact h.hb
  | 15 => exact h2
  | 16 => exact d8
  | 17 => exact Nat.zero_le _
  | 18 => intro i hi; rw [s0 i hi, d12 i hi]
  | 19 => intro i hi; rw [d12 i hi]; decide
  | 20 => exact d3
  | 21 => exact c2.trans d2.symm
  | 22 => exact Or.inr d2
  | 23 => intro q; rw [d2] at q; exact absurd q n10
  | 24 => exact fun _ => hS
  | 25 => intro _ a ha; omega
  | 26 => intro i hi q; rw [d12 i hi] at q; exact absurd q.symm n10
  | n + 27 => exact trivial
theorem rqB_in {k : Nat} (h : k ≤ sz) (hs5 : sz ≤ 500) (e : hc (9, 0, 0) 1 = nI sz) : fX9_requireBytes (nI k) hc = some (.inl ()) := by
  simp only [fX9_requireBytes]
  rw [if_neg (n_neg (by omega)), e, if_neg (by rw [n_lt (by omega) (by omega)]; omega)]
  rfl
theorem rqB_out {x : Int32} (h : x < 0 ∨ nI (sz + 1) ≤ x) (hs5 : sz ≤ 500) (e : hc (9, 0, 0) 1 = nI sz) : fX9_requireBytes x hc = some (.inr 3) := by
  simp only [fX9_requireBytes]
  by_cases q : x < 0
  · rw [if_pos q]; rfl
  · rw [if_neg q, e]
    have g : nI sz < x := by
      rcases h with h | h
      · exact absurd h q
      · have a := le_i.mp h
        rw [n_i (by omega)] at a
        rw [lt_i, n_i (by omega)]; omega
    rw [if_pos g]; rfl
theorem op_load (a : Int32) : Op (agr [3, 2]) (fX9_load a) (fX10_load a) := by
  intro tb hc hm ht hI
  obtain ⟨sz, wn, os, hs, nb, hv⟩ := hI
  have hsb := hv.sb
  have hvt := Iv_th (x := 0) hv
  have t0 : (th hm 0) (10, 0, 0) 0 = 0 := th_s
  have m11 : (th hm 0) (10, 0, 0) 11 = nI sz := hvt.sm
  have em : fX10_load a hm = (fX10_in a 0 ((th hm 0) (10, 0, 0) 11) (th hm 0)).bind (fun v14 => if v14 = 0 then (fX10_load_23 a 1 (th hm 0)) else (fX10_load_23 a 0 (th hm 0))) := rfl
  rw [em, m11]
  rcases ix_n a (n := sz + 1) (by omega) with ⟨k, hk, rfl⟩ | ho
  · rw [in_in' (show k ≤ sz by omega) (by omega), Option.bind_some, if_neg n10]
    have e23 : fX10_load_23 (nI k) 0 (th hm 0) = (fX10_holds (up (th hm 0) (10, 0, 0) 11 0)).bind fun hp10 => (fX10_reads (nI k) hp10).bind fun hp13 => fX10_load_54 (up hp13 (10, 0, 0) 12 (hp13 (10, 0, 0) 19)) := by
      simp only [fX10_load_23]
      rw [rf_no t0, Option.bind_some, if_pos rfl]
    rw [e23, holds_ev, Option.bind_some]
    generalize hB : up (cpR (cpR (cpR (up (th hm 0) (10, 0, 0) 11 0) (11, 26, 0) (11, 22, 0) 0 0 0 1150) (11, 27, 0) (11, 20, 0) 0 0 0 26) (11, 28, 0) (11, 21, 0) 0 0 0 26) (10, 0, 0) 24 (up (th hm 0) (10, 0, 0) 11 0 (10, 0, 0) 2) = B
    have B_o : ∀ r, r ≠ (10, 0, 0) → r ≠ (11, 26, 0) → r ≠ (11, 27, 0) → r ≠ (11, 28, 0) → B r = hm r := fun r h1 h2 h3 h4 => by
      rw [← hB, up_n h1, cpR_o h4, cpR_o h3, cpR_o h2, up_n h1, th_r h1]
    have B_k : ∀ j, j ≠ 0 → j ≠ 11 → j ≠ 24 → B (10, 0, 0) j = hm (10, 0, 0) j := fun j h1 h2 h3 => by
      rw [← hB, up_o (fun z => h3 z.2), cpR_o (by decide), cpR_o (by decide), cpR_o (by decide), up_o (fun z => h2 z.2), th_o (fun z => h1 z.2)]
    have B_0 : B (10, 0, 0) 0 = 0 := by
      rw [← hB, up_o (by simp), cpR_o (by decide), cpR_o (by decide), cpR_o (by decide), up_o (by simp)]; exact t0
    have B_11 : B (10, 0, 0) 11 = nI 0 := by
      rw [← hB, up_o (by simp), cpR_o (by decide), cpR_o (by decide), cpR_o (by decide), up_s]; rfl
    have B_24 : B (10, 0, 0) 24 = hm (10, 0, 0) 2 := by
      rw [← hB, up_s, up_o (by simp), th_o (by simp)]
    have B_26 : ∀ j, j < 1150 → B (11, 26, 0) j = hm (11, 22, 0) j := fun j hj => by
      have := cpR_s (hp := up (th hm 0) (10, 0, 0) 11 0) (dst := (11, 26, 0)) (src := (11, 22, 0)) (d0 := 0) (s0 := 0) hj
      rw [Nat.zero_add] at this
      rw [← hB, up_n (by decide), cpR_o (by decide), cpR_o (by decide), this, up_n (by decide), th_r (by decide)]
    have B_27 : ∀ j, j < 26 → B (11, 27, 0) j = hm (11, 20, 0) j := fun j hj => by
      have := cpR_s (hp := cpR (up (th hm 0) (10, 0, 0) 11 0) (11, 26, 0) (11, 22, 0) 0 0 0 1150) (dst := (11, 27, 0)) (src := (11, 20, 0)) (d0 := 0) (s0 := 0) hj
      rw [Nat.zero_add] at this
      rw [← hB, up_n (by decide), cpR_o (by decide), this, cpR_o (by decide), up_n (by decide), th_r (by decide)]
    have B_28 : ∀ j, j < 26 → B (11, 28, 0) j = hm (11, 21, 0) j := fun j hj => by
      have := cpR_s (hp := cpR (cpR (up (th hm 0) (10, 0, 0) 11 0) (11, 26, 0) (11, 22, 0) 0 0 0 1150) (11, 27, 0) (11, 20, 0) 0 0 0 26) (dst := (11, 28, 0)) (src := (11, 21, 0)) (d0 := 0) (s0 := 0) hj
      rw [Nat.zero_add] at this
      rw [← hB, up_n (by decide), this, cpR_o (by decide), cpR_o (by decide), up_n (by decide), th_r (by decide)]
    clear hB
    have hb : Bas k hc B := by
      refine ⟨by omega, ?_, ?_⟩
      · rw [B_o _ (by decide) (by decide) (by decide) (by decide)]; exact hv.by
      · rw [B_o _ (by decide) (by decide) (by decide) (by decide)]; exact hv.bn
    obtain ⟨c, m, p1, p2, q1, q2, q3⟩ := parse_p hb (hv.b1 1 (by omega)) (hv.b6 1 (by omega))
    have ec : fX9_load (nI k) hc = fX9_load_18 (up (bgC c) (9, 0, 0) 1 0) := by
      simp only [fX9_load]
      rw [rqB_in (show k ≤ sz by omega) hsb hv.sz, Option.bind_some]
      show (fX5_parse (nI k) hc).bind (fun hp13 => fX9_load_18 (up hp13 (9, 0, 0) 1 0)) = _
      rw [p1, bgC_eq, Option.bind_some]
    rw [ec, p2]
    -- the class's frame
    have C_o : ∀ r, ¬ ofm 1 r → r ≠ (5, 0, 0) → r ≠ (9, 0, 0) → (up (bgC c) (9, 0, 0) 1 0) r = hc r := fun r h1 h2 h3 => by
      rw [up_n h3, bgC_o h1, q1.1 r h1 h2, up_n h2]
    have C_9 : ∀ j, j ≠ 1 → (up (bgC c) (9, 0, 0) 1 0) (9, 0, 0) j = hc (9, 0, 0) j := fun j hj => by
      rw [up_o (fun z => hj z.2), bgC_o (by unfold ofm; simp), q1.1 _ (by unfold ofm; simp) (by decide), up_n (by decide)]
    have C_5 : (up (bgC c) (9, 0, 0) 1 0) (5, 0, 0) = c (5, 0, 0) := by rw [up_n (by decide), bgC_o (by unfold ofm; simp)]
    have C_1 : isB ((up (bgC c) (9, 0, 0) 1 0) (1, 0, 1) 4) = true := by
      rw [up_n (by decide)]; unfold bgC
      rw [up_n (by decide), up_n (by decide), up_n (by decide), FI_o (by decide), up_s]; decide
    have C_6 : isB ((up (bgC c) (9, 0, 0) 1 0) (6, 0, 1) 3) = true := by
      rw [up_n (by decide)]; unfold bgC
      rw [up_n (by decide), up_n (by decide), up_n (by decide), FI_o (by decide), up_n (by decide), up_n (by decide), up_n (by decide), FI_o (by decide), FI_o (by decide), up_o (by simp), up_s]; decide
    -- the reference's frame
    have Q_o := q2.1
    have Q_k := q2.2
    rcases q3 with ⟨w, w1, w2, w3, w4, w5⟩ | hL
    · -- an error
      obtain ⟨m', r1, r2⟩ := rdT_any m
      rw [r1, Option.bind_some]
      have R10 : m' (10, 0, 0) = m (10, 0, 0) := r2 _ (by decide)
      have wz := n_z w1 w2
      generalize hX : th (up (up m' (10, 0, 0) 12 (m (10, 0, 0) 19)) (10, 0, 0) 13 (m (10, 0, 0) 20)) 2 = X
      have X_o : ∀ r, r ≠ (10, 0, 0) → X r = m' r := fun r hr => by rw [← hX, th_r hr, up_n hr, up_n hr]
      have X_k : ∀ j, j ≠ 0 → j ≠ 12 → j ≠ 13 → X (10, 0, 0) j = m (10, 0, 0) j := fun j j1 j2 j3 => by
        rw [← hX, th_o (fun z => j1 z.2), up_o (fun z => j3 z.2), up_o (fun z => j2 z.2), R10]
      have X_0 : X (10, 0, 0) 0 = 2 := by rw [← hX]; exact th_s
      have X_12 : X (10, 0, 0) 12 = m (10, 0, 0) 19 := by rw [← hX, th_o (by simp), up_o (by simp), up_s]
      have X_13 : X (10, 0, 0) 13 = m (10, 0, 0) 20 := by rw [← hX, th_o (by simp), up_s]
      generalize hY : up (cpR (cpR (cpR X (11, 22, 0) (11, 26, 0) 0 0 0 1150) (11, 20, 0) (11, 27, 0) 0 0 0 26) (11, 21, 0) (11, 28, 0) 0 0 0 26) (10, 0, 0) 2 (X (10, 0, 0) 24) = Y
      have Y_o : ∀ r, r ≠ (10, 0, 0) → r ≠ (11, 20, 0) → r ≠ (11, 21, 0) → r ≠ (11, 22, 0) → Y r = m r := fun r h1 h2 h3 h4 => by
        rw [← hY, up_n h1, cpR_o h3, cpR_o h2, cpR_o h4, X_o r h1, r2 r h4]
      have Y_10 : ∀ j, j ≠ 2 → Y (10, 0, 0) j = X (10, 0, 0) j := fun j hj => by
        rw [← hY, up_o (fun z => hj z.2), cpR_o (by decide), cpR_o (by decide), cpR_o (by decide)]
      have Y_2 : Y (10, 0, 0) 2 = hm (10, 0, 0) 2 := by
        rw [← hY, up_s, X_k 24 (by decide) (by decide) (by decide), Q_k 24 (by decide) (by omega)]; exact B_24
      have Y_22 : ∀ j, j < 1150 → Y (11, 22, 0) j = hm (11, 22, 0) j := fun j hj => by
        have := cpR_s (hp := X) (dst := (11, 22, 0)) (src := (11, 26, 0)) (d0 := 0) (s0 := 0) hj
        rw [Nat.zero_add] at this
        rw [← hY, up_n (by decide), cpR_o (by decide), cpR_o (by decide), this, X_o _ (by decide), r2 _ (by decide), Q_o _ (by decide) (by decide) (by decide) (by decide)]
        exact B_26 j hj
      have Y_20 : ∀ j, j < 26 → Y (11, 20, 0) j = hm (11, 20, 0) j := fun j hj => by
        have := cpR_s (hp := cpR X (11, 22, 0) (11, 26, 0) 0 0 0 1150) (dst := (11, 20, 0)) (src := (11, 27, 0)) (d0 := 0) (s0 := 0) hj
        rw [Nat.zero_add] at this
        rw [← hY, up_n (by decide), cpR_o (by decide), this, cpR_o (by decide), X_o _ (by decide), r2 _ (by decide), Q_o _ (by decide) (by decide) (by decide) (by decide)]
        exact B_27 j hj
      have Y_21 : ∀ j, j < 26 → Y (11, 21, 0) j = hm (11, 21, 0) j := fun j hj => by
        have := cpR_s (hp := cpR (cpR X (11, 22, 0) (11, 26, 0) 0 0 0 1150) (11, 20, 0) (11, 27, 0) 0 0 0 26) (dst := (11, 21, 0)) (src := (11, 28, 0)) (d0 := 0) (s0 := 0) hj
        rw [Nat.zero_add] at this
        rw [← hY, up_n (by decide), this, cpR_o (by decide), cpR_o (by decide), X_o _ (by decide), r2 _ (by decide), Q_o _ (by decide) (by decide) (by decide) (by decide)]
        exact B_28 j hj
      have Y_k : ∀ j, j ≠ 0 → j ≠ 2 → j ≠ 11 → j ≠ 12 → j ≠ 13 → j ≠ 24 → (j < 14 ∨ 20 < j) → Y (10, 0, 0) j = hm (10, 0, 0) j := fun j h0 h1 h2 h3 h4 h5 h6 => by
        rw [Y_10 j h1, X_k j h0 h3 h4, Q_k j h1 h6, B_k j h0 h2 h5]
      have Yo : ∀ r, r ≠ (10, 0, 0) → r ≠ (11, 20, 0) → r ≠ (11, 21, 0) → r ≠ (11, 22, 0) → r ≠ (11, 26, 0) → r ≠ (11, 27, 0) → r ≠ (11, 28, 0) → Y r = hm r := fun r h1 h2 h3 h4 h5 h6 h7 => by
        rw [Y_o r h1 h2 h3 h4, Q_o r h1 h2 h3 h4, B_o r h1 h5 h6 h7]
      have el : fX10_load_54 (up m' (10, 0, 0) 12 (m' (10, 0, 0) 19)) = some (0, Y) := by
        have z0 : (up (up m' (10, 0, 0) 12 (m (10, 0, 0) 19)) (10, 0, 0) 13 (m (10, 0, 0) 20)) (10, 0, 0) 0 = 0 := by
          rw [up_o (by simp), up_o (by simp), R10, Q_k 0 (by decide) (by omega)]; exact B_0
        simp only [fX10_load_54, fX10_load_70, fX10_load_73, fX10_load_86]
        have u19 : up m' (10, 0, 0) 12 (nI w) (10, 0, 0) 19 = nI w := by rw [up_o (by simp), R10, w4]
        have u20 : up m' (10, 0, 0) 12 (nI w) (10, 0, 0) 20 = m (10, 0, 0) 20 := by rw [up_o (by simp), R10]
        have u19' : up (up m' (10, 0, 0) 12 (nI w)) (10, 0, 0) 13 (m (10, 0, 0) 20) (10, 0, 0) 19 = nI w := by rw [up_o (by simp), u19]
        rw [R10, w4, u19, if_neg wz, u20, u19', if_neg wz]
        rw [w4] at z0 hX
        rw [rf_yes z0 (by decide), Option.bind_some, if_neg n10]
        show (fX10_laysBack (th (up (up m' (10, 0, 0) 12 (nI w)) (10, 0, 0) 13 (m (10, 0, 0) 20)) 2)).bind (fun hp5 => some (0, hp5)) = _
        rw [hX, lays_ev, hY, Option.bind_some]
      refine ⟨.inr 2, up (bgC c) (9, 0, 0) 1 0, 0, Y, ?_, el, ?_, ⟨0, wn, os, hs, nb, Iv_mono (Iv_fail hv C_o up_s C_9 ?_ ?_ C_1 C_6 ?_ ?_ ?_ ?_ ?_ ?_ Y_22 Y_20 Y_21) (by omega)⟩, ?_, ?_⟩
      · simp only [fX9_load_18]
        rw [C_5, w3, if_neg wz]; rfl
      · rw [Y_10 0 (by decide), X_0]; exact agr_th (i := 1) rfl
      · rw [C_5, Y_10 12 (by decide), X_12, w3, w4]
      · rw [C_5, Y_10 13 (by decide), X_13, w5]
      · rw [Y_10 11 (by decide), X_k 11 (by decide) (by decide) (by decide), Q_k 11 (by decide) (by omega)]; exact B_11
      · intro j hj
        by_cases e : j = 2
        · rw [e]; exact Y_2
        · exact Y_k j (by omega) e (by omega) (by omega) (by omega) (by omega) (by omega)
      · exact Yo _ (by decide) (by decide) (by decide) (by decide) (by decide) (by decide) (by decide)
      · exact Yo _ (by decide) (by decide) (by decide) (by decide) (by decide) (by decide) (by decide)
      · exact Yo _ (by decide) (by decide) (by decide) (by decide) (by decide) (by decide) (by decide)
      · exact Yo _ (by decide) (by decide) (by decide) (by decide) (by decide) (by decide) (by decide)
      · intro r hr
        exact C_o r (fun e => by unfold isM at hr; unfold ofm at e; omega) (fun e => by rw [e] at hr; unfold isM at hr; simp at hr) (fun e => by rw [e] at hr; unfold isM at hr; simp at hr)
      · intro r hr
        exact Yo r (fun e => hr (by rw [e]; unfold isM; simp)) (fun e => hr (by rw [e]; unfold isM; simp)) (fun e => hr (by rw [e]; unfold isM; simp)) (fun e => hr (by rw [e]; unfold isM; simp)) (fun e => hr (by rw [e]; unfold isM; simp)) (fun e => hr (by rw [e]; unfold isM; simp)) (fun e => hr (by rw [e]; unfold isM; simp))
    · -- a machine
      obtain ⟨_, l7, l19, l8, hx⟩ := hL
      obtain ⟨nb', hbar⟩ := hx.2.2.2.1
      obtain ⟨r1, r2⟩ := rd_St tb hx hbar
      rw [r1, Option.bind_some]
      obtain ⟨D, x1, x2, x3, _⟩ := copy_p (m := 0) (mr := 1) (hp := up (bgC c) (9, 0, 0) 1 0) (by decide) C_1 C_6
      have D_o : ∀ r, ¬ ofm 0 r → D r = (up (bgC c) (9, 0, 0) 1 0) r := x3
      generalize hE : up (up (up (up D (9, 0, 0) 2 1) (2, 0, 0) 2 0) (8, 0, 0) 1 0) (8, 0, 1) 1 0 = E
      have E_o : ∀ r, r ≠ (9, 0, 0) → r ≠ (2, 0, 0) → r ≠ (8, 0, 0) → r ≠ (8, 0, 1) → E r = D r := fun r h1 h2 h3 h4 => by
        rw [← hE, up_n h4, up_n h3, up_n h2, up_n h1]
      have E_0 : ∀ r, ofm 0 r → E r = D r := fun r hr => E_o r (fun e => by rw [e] at hr; unfold ofm at hr; simp at hr) (fun e => by rw [e] at hr; unfold ofm at hr; simp at hr) (fun e => by rw [e] at hr; unfold ofm at hr; simp at hr) (fun e => by rw [e] at hr; unfold ofm at hr; simp at hr)
      have E_9 : ∀ j, j ≠ 2 → E (9, 0, 0) j = (up (bgC c) (9, 0, 0) 1 0) (9, 0, 0) j := fun j hj => by
        rw [← hE, up_n (by decide), up_n (by decide), up_n (by decide), up_o (fun z => hj z.2), D_o _ (by unfold ofm; simp)]
      generalize hF : up (up (up (up (up (up (rwm m (rdR (m (11, 22, 0)))) (10, 0, 0) 12 (m (10, 0, 0) 19)) (10, 0, 0) 13 m1) (10, 0, 0) 1 1) (10, 0, 0) 8 0) (12, 0, 0) 0 0) (12, 0, 0) 1 0 = F
      have F_o : ∀ r, r ≠ (10, 0, 0) → r ≠ (12, 0, 0) → r ≠ (11, 22, 0) → F r = m r := fun r h1 h2 h3 => by
        rw [← hF, up_n h2, up_n h2, up_n h1, up_n h1, up_n h1, up_n h1, rwm_n h3]
      have F_22 : F (11, 22, 0) = rdR (m (11, 22, 0)) := by
        rw [← hF, up_n (by decide), up_n (by decide), up_n (by decide), up_n (by decide), up_n (by decide), up_n (by decide), rwm_e]
      have F_k : ∀ j, j ≠ 1 → j ≠ 8 → j ≠ 12 → j ≠ 13 → F (10, 0, 0) j = m (10, 0, 0) j := fun j h1 h2 h3 h4 => by
        rw [← hF, up_n (by decide), up_n (by decide), up_o (fun z => h2 z.2), up_o (fun z => h1 z.2), up_o (fun z => h4 z.2), up_o (fun z => h3 z.2), rwm_n (by decide)]
      have F_12 : F (10, 0, 0) 12 = m (10, 0, 0) 19 := by rw [← hF, up_n (by decide), up_n (by decide), up_o (by simp), up_o (by simp), up_o (by simp), up_s]
      have F_13 : F (10, 0, 0) 13 = m1 := by rw [← hF, up_n (by decide), up_n (by decide), up_o (by simp), up_o (by simp), up_s]
      have F_1 : F (10, 0, 0) 1 = 1 := by rw [← hF, up_n (by decide), up_n (by decide), up_o (by simp), up_s]
      have F_8 : F (10, 0, 0) 8 = nI 0 := by rw [← hF, up_n (by decide), up_n (by decide), up_s]; rfl
      have F_s : ∀ i, i < 2 → F (12, 0, 0) i = 0 := by
        intro i hi
        match i, hi with
        | 0, _ => rw [← hF, up_o (by simp), up_s]
        | 1, _ => rw [← hF, up_s]
      have b2 : m (10, 0, 0) 2 = nI nb' := hbar 2
      have z5 : D (0, 0, 0) 5 = nI nb' := by
        rw [x2.2.2.1 5 (by omega) (by omega)]; exact r2.1.a6
      refine ⟨.inl (nI nb'), E, nI nb', F, ?_, ?_, ⟨?_, rfl⟩, ⟨0, wn, os, 0, nb', Iv_mono (Iv_load hv ?_ ?_ ?_ ?_ ?_ ?_ ?_ ?_ ?_ ?_ ?_ ?_ F_1 ?_ F_8 ?_ ?_ ?_ F_s ?_) (by omega)⟩, ?_, ?_⟩
      · simp only [fX9_load_18]
        rw [C_5, l7, if_pos rfl]
        show (fX3_copyFrom 0 1 (up (bgC c) (9, 0, 0) 1 0)).bind (fun hp5 => (fX2_clear (up hp5 (9, 0, 0) 2 1)).bind fun hp8 => fX9_load_67 (up hp8 (8, 0, 0) 1 0)) = _
        rw [x1, Option.bind_some]
        show some ((Sum.inl ((up (up (up (up D (9, 0, 0) 2 1) (2, 0, 0) 2 0) (8, 0, 0) 1 0) (8, 0, 1) 1 0) (0, 0, 0) 5) : Int32 ⊕ Nat), up (up (up (up D (9, 0, 0) 2 1) (2, 0, 0) 2 0) (8, 0, 0) 1 0) (8, 0, 1) 1 0) = _
        rw [hE, E_o _ (by decide) (by decide) (by decide) (by decide), z5]
      · have R10 : rwm m (rdR (m (11, 22, 0))) (10, 0, 0) = m (10, 0, 0) := rwm_n (by decide)
        have z0 : (up (up (rwm m (rdR (m (11, 22, 0)))) (10, 0, 0) 12 (m (10, 0, 0) 19)) (10, 0, 0) 13 m1) (10, 0, 0) 0 = 0 := by
          rw [up_o (by simp), up_o (by simp), R10, Q_k 0 (by decide) (by omega)]; exact B_0
        simp only [fX10_load_54, fX10_load_70, fX10_load_73, fX10_load_86]
        have u19 : up (rwm m (rdR (m (11, 22, 0)))) (10, 0, 0) 12 0 (10, 0, 0) 19 = 0 := by rw [up_o (by simp), R10, l19]
        have u19' : up (up (rwm m (rdR (m (11, 22, 0)))) (10, 0, 0) 12 0) (10, 0, 0) 13 m1 (10, 0, 0) 19 = 0 := by rw [up_o (by simp), u19]
        rw [R10, l19, u19, if_pos rfl, u19', if_pos rfl]
        rw [l19] at z0 hF
        rw [rf_no z0, Option.bind_some, if_pos rfl]
        show some (((up (up (up (up (up (up (rwm m (rdR (m (11, 22, 0)))) (10, 0, 0) 12 0) (10, 0, 0) 13 m1) (10, 0, 0) 1 1) (10, 0, 0) 8 0) (12, 0, 0) 0 0) (12, 0, 0) 1 0) (10, 0, 0) 2), up (up (up (up (up (up (rwm m (rdR (m (11, 22, 0)))) (10, 0, 0) 12 0) (10, 0, 0) 13 m1) (10, 0, 0) 1 1) (10, 0, 0) 8 0) (12, 0, 0) 0 0) (12, 0, 0) 1 0) = _
        rw [hF, F_k 2 (by decide) (by decide) (by decide) (by decide), b2]
      · rw [F_k 0 (by decide) (by decide) (by decide) (by decide), Q_k 0 (by decide) (by omega)]; exact B_0
      · intro r h0 h1 h2 h3 h4 h5 h6
        rw [E_o r h3 h4 h5 h6, D_o r h0, C_o r h1 h2 h3]
      · rw [E_9 1 (by decide), up_s]; rfl
      · rw [← hE, up_n (by decide), up_n (by decide), up_n (by decide), up_s]
      · rw [E_9 10 (by decide), C_9 10 (by decide)]
      · rw [E_o _ (by decide) (by decide) (by decide) (by decide), D_o _ (by unfold ofm; simp), C_5, F_12, l7, l19]
      · rw [E_o _ (by decide) (by decide) (by decide) (by decide), D_o _ (by unfold ofm; simp), C_5, F_13, l8]
      · intro i hi
        match i, hi with
        | 0, _ => rw [E_0 _ (by unfold ofm; simp), x2.2.1 4 (by omega) (by omega)]; exact C_1
        | 1, _ => rw [E_o _ (by decide) (by decide) (by decide) (by decide), D_o _ (by unfold ofm; simp)]; exact C_1
      · intro i hi
        match i, hi with
        | 0, _ => rw [E_0 _ (by unfold ofm; simp), x2.2.2.2.2 3 (by omega) (by omega)]; exact C_6
        | 1, _ => rw [E_o _ (by decide) (by decide) (by decide) (by decide), D_o _ (by unfold ofm; simp)]; exact C_6
      · rw [← hE, up_n (by decide), up_n (by decide), up_o (by simp), up_n (by decide), D_o _ (by unfold ofm; simp), C_o _ (by unfold ofm; simp) (by decide) (by decide)]
      · rw [← hE, up_n (by decide), up_n (by decide), up_s]; rfl
      · intro i hi
        match i, hi with
        | 0, _ => rw [← hE, up_n (by decide), up_s]
        | 1, _ => rw [← hE, up_s]
      · rw [F_k 11 (by decide) (by decide) (by decide) (by decide), Q_k 11 (by decide) (by omega)]; exact B_11
      · rw [F_k 2 (by decide) (by decide) (by decide) (by decide)]; exact b2
      · rw [F_k 30 (by decide) (by decide) (by decide) (by decide), Q_k 30 (by decide) (by omega), B_k 30 (by decide) (by decide) (by decide)]
      · rw [F_o _ (by decide) (by decide) (by decide), Q_o _ (by decide) (by decide) (by decide) (by decide), B_o _ (by decide) (by decide) (by decide) (by decide)]
      · rw [F_o _ (by decide) (by decide) (by decide), Q_o _ (by decide) (by decide) (by decide) (by decide), B_o _ (by decide) (by decide) (by decide) (by decide)]
      · rw [F_22, F_o _ (by decide) (by decide) (by decide), F_o _ (by decide) (by decide) (by decide)]
        refine St_Sm (hd := up (bgC c) (9, 0, 0) 1 0) (m' := 1) ?_ (SmM_of x2 E_0)
        exact St_hc r2 (fun r hr => up_n (fun e => by rw [e] at hr; unfold ofm at hr; simp at hr))
      · intro r hr
        rw [E_o r (fun e => by rw [e] at hr; unfold isM at hr; simp at hr) (fun e => by rw [e] at hr; unfold isM at hr; simp at hr) (fun e => by rw [e] at hr; unfold isM at hr; simp at hr) (fun e => by rw [e] at hr; unfold isM at hr; simp at hr), D_o r (fun e => by unfold isM at hr; unfold ofm at e; omega)]
        exact C_o r (fun e => by unfold isM at hr; unfold ofm at e; omega) (fun e => by rw [e] at hr; unfold isM at hr; simp at hr) (fun e => by rw [e] at hr; unfold isM at hr; simp at hr)
      · intro r hr
        have x : ∀ s, isM s → r ≠ s := fun s hs e => hr (by rw [e]; exact hs)
        rw [F_o r (x _ (by unfold isM; simp)) (x _ (by unfold isM; simp)) (x _ (by unfold isM; simp)), Q_o r (x _ (by unfold isM; simp)) (x _ (by unfold isM; simp)) (x _ (by unfold isM; simp)) (x _ (by unfold isM; simp)), B_o r (x _ (by unfold isM; simp)) (x _ (by unfold isM; simp)) (x _ (by unfold isM; simp)) (x _ (by unfold isM; simp))]
  · -- too many bytes, or fewer than none
    rw [in_out' (by omega) ho, Option.bind_some, if_pos rfl]
    refine ⟨.inr 3, hc, 0, th hm (nI (0 + 1)), ?_, ?_, by rw [th_s]; exact agr_th rfl, ⟨sz, wn, os, hs, nb, Iv_mono (Iv_th hv) (by omega)⟩, CFr.refl hc, (MFr.refl hm).th⟩
    · simp only [fX9_load]
      rw [rqB_out ho hsb hv.sz, Option.bind_some]; rfl
    · simp only [fX10_load_23]
      rw [rf_yes t0 n10, Option.bind_some, if_neg n10, th_th]; rfl
end
