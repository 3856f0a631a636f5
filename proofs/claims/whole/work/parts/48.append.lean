/-! ===== append ===== -/
section
theorem isN_255 (x : Int32) : isN (x &&& 255) := by
  refine n_of ?_
  have e : (x &&& 255).toBitVec.toNat ≤ 255 := by
    rw [Int32.toBitVec_and, BitVec.toNat_and]; exact Nat.le_trans Nat.and_le_right (by decide)
  show 0 ≤ (x &&& 255).toBitVec.toInt
  rw [BitVec.toInt_eq_toNat_cond, if_pos (by omega)]; omega
def shF (j : Nat) : Int32 := if j = 0 then 24 else if j = 1 then 16 else if j = 2 then 8 else if j = 3 then 0 else m8
def bwF (y : Int32) (j : Nat) : Int32 := (y >>> (shF j &&& 31)) &&& 255
theorem sh_c : ∀ j, j < 4 → shF j + m8 = shF (j + 1) ∧ ¬ shF j < 0 := by decide
theorem sh_m : ∀ i, i < 20 → 24 - (8 * irm (nI i) 4) = shF (i % 4) := by decide
theorem sh_4 : shF 4 < 0 := by decide
theorem four_c (y : Int32) : ∀ (p j n s : Nat) (hp : HP), j + p = 4 → p < n → hp (9, 0, 0) 1 = nI (s + j) → s + 4 ≤ 500 → ∃ hp', fX9_appendFour_3 n y (shF j) hp = some hp' ∧ hp' (9, 0, 0) 1 = nI (s + 4) ∧ (∀ i, j ≤ i → i < 4 → hp' (11, 10, 0) (s + i) = bwF y i) ∧ (∀ k, (k < s + j ∨ s + 4 ≤ k) → hp' (11, 10, 0) k = hp (11, 10, 0) k) ∧ (∀ r, r ≠ (11, 10, 0) → r ≠ (9, 0, 0) → hp' r = hp r) ∧ ∀ k, k ≠ 1 → hp' (9, 0, 0) k = hp (9, 0, 0) k := by
  intro p
  induction p with
  | zero =>
    intro j n s hp hj hn h1 hs
    obtain ⟨n, rfl⟩ : ∃ q, n = q + 1 := ⟨n - 1, by omega⟩
    have : j = 4 := by omega
    subst this
    refine ⟨hp, ?_, h1, fun i a b => absurd b (by omega), fun _ _ => rfl, fun _ _ _ => rfl, fun _ _ => rfl⟩
    simp only [fX9_appendFour_3]
    rw [if_pos sh_4]
  | succ p ih =>
    intro j n s hp hj hn h1 hs
    obtain ⟨n, rfl⟩ : ∃ q, n = q + 1 := ⟨n - 1, by omega⟩
    obtain ⟨q1, q2⟩ := sh_c j (by omega)
    have g1 : (up hp (11, 10, 0) (s + j) (bwF y j)) (9, 0, 0) 1 = nI (s + j) := by rw [up_n (by decide)]; exact h1
    obtain ⟨hp', e, b1, b2, b3, b4, b5⟩ := ih (j + 1) n s (up (up hp (11, 10, 0) (s + j) (bwF y j)) (9, 0, 0) 1 (nI (s + (j + 1)))) (by omega) (by omega) up_s hs
    refine ⟨hp', ?_, b1, fun i i1 i2 => ?_, fun k hk => ?_, fun r r1 r2 => ?_, fun k hk => ?_⟩
    · simp only [fX9_appendFour_3]
      rw [if_neg q2, h1, put_n (show s + j < wlen 10 by show s + j < 500; omega), Option.bind_some, q1]
      rw [show (y >>> (shF j &&& 31)) &&& 255 = bwF y j from rfl, g1, ← nI_succ]
      exact e
    · by_cases q : i = j
      · rw [q, b3 _ (Or.inl (by omega)), up_n (by decide), up_s]
      · exact b2 i (by omega) i2
    · rw [b3 k (by omega), up_n (by decide), up_o (fun z => by have := z.2; omega)]
    · rw [b4 r r1 r2, up_n r2, up_n r1]
    · rw [b5 k hk, up_o (fun z => hk z.2), up_n (by decide)]
theorem app4 (y : Int32) {s : Nat} {hp : HP} (h1 : hp (9, 0, 0) 1 = nI s) (hs : s + 4 ≤ 500) : ∃ hp', fX9_appendFour y hp = some hp' ∧ hp' (9, 0, 0) 1 = nI (s + 4) ∧ (∀ i, i < 4 → hp' (11, 10, 0) (s + i) = bwF y i) ∧ (∀ k, (k < s ∨ s + 4 ≤ k) → hp' (11, 10, 0) k = hp (11, 10, 0) k) ∧ (∀ r, r ≠ (11, 10, 0) → r ≠ (9, 0, 0) → hp' r = hp r) ∧ ∀ k, k ≠ 1 → hp' (9, 0, 0) k = hp (9, 0, 0) k := by
  have hf := FU_ge
  obtain ⟨hp', e, b1, b2, b3, b4, b5⟩ := four_c y 4 0 FU s hp (by omega) (by omega) h1 hs
  exact ⟨hp', e, b1, fun i hi => b2 i (by omega) hi, b3, b4, b5⟩
def selF (a b c d e : Int32) (i : Nat) : Int32 := if i < 4 then a else if i < 8 then b else if i < 12 then c else if i < 16 then d else e
theorem app_m (a b c d e : Int32) : ∀ (p i n s : Nat) (hm : HP), i + p = 20 → p < n → hm (10, 0, 0) 11 = nI s → s + 20 ≤ 500 → ∃ hm', fX10_append_23 n a b c d e (nI i) hm = some (nI (s + 20), hm') ∧ hm' (10, 0, 0) 11 = nI (s + 20) ∧ (∀ j, i ≤ j → j < 20 → hm' (11, 25, 0) (s + j) = bwF (selF a b c d e j) (j % 4)) ∧ (∀ k, (k < s + i ∨ s + 20 ≤ k) → hm' (11, 25, 0) k = hm (11, 25, 0) k) ∧ (∀ r, r ≠ (11, 25, 0) → r ≠ (10, 0, 0) → hm' r = hm r) ∧ ∀ k, k ≠ 11 → hm' (10, 0, 0) k = hm (10, 0, 0) k := by
  intro p
  induction p with
  | zero =>
    intro i n s hm hi hn h1 hs
    obtain ⟨n, rfl⟩ : ∃ q, n = q + 1 := ⟨n - 1, by omega⟩
    refine ⟨up hm (10, 0, 0) 11 (nI (s + 20)), ?_, up_s, fun i a b => absurd b (by omega), fun k _ => by rw [up_n (by decide)], fun r _ hr => up_n hr, fun k hk => up_o (fun z => hk z.2)⟩
    simp only [fX10_append_23]
    rw [if_neg (show ¬ nI i < 20 by rw [show (20 : Int32) = nI 20 from rfl, n_lt (by omega) (by omega)]; omega)]
    show some ((up hm (10, 0, 0) 11 ((hm (10, 0, 0) 11) + 20)) (10, 0, 0) 11, up hm (10, 0, 0) 11 ((hm (10, 0, 0) 11) + 20)) = _
    rw [up_s, h1, show nI s + 20 = nI (s + 20) from n_add s 20]
  | succ p ih =>
    intro i n s hm hi hn h1 hs
    obtain ⟨n, rfl⟩ : ∃ q, n = q + 1 := ⟨n - 1, by omega⟩
    have step : fX10_append_23 (n + 1) a b c d e (nI i) hm = fX10_append_23 n a b c d e (nI (i + 1)) (up hm (11, 25, 0) (s + i) (bwF (selF a b c d e i) (i % 4))) := by
      have e76 : ∀ y, fX10_append_76 a b c d e (nI i) y (fun x1 x2 x3 x4 x5 x6 hq => fX10_append_23 n x1 x2 x3 x4 x5 x6 hq) hm = fX10_append_23 n a b c d e (nI (i + 1)) (up hm (11, 25, 0) (s + i) (bwF y (i % 4))) := by
        intro y
        simp only [fX10_append_76]
        rw [h1, n_add, if_pos (inb_n (show s + i < alen (11, 25, 0) by show s + i < 500; omega) (by decide)), n_c (by omega), sh_m i (by omega), ← nI_succ]
        rfl
      have L : ∀ m, m < 100 → (nI i < nI m ↔ i < m) := fun m hm => n_lt (by omega) (by omega)
      simp only [fX10_append_23]
      rw [if_pos (show nI i < 20 from (L 20 (by omega)).mpr (by omega)), e76, e76, e76, e76, e76]
      unfold selF
      by_cases c1 : i < 4
      · rw [if_pos (show nI i < 4 from (L 4 (by omega)).mpr c1), if_pos c1]
      · rw [if_neg (show ¬ nI i < 4 from fun z => c1 ((L 4 (by omega)).mp z)), if_neg c1]
        by_cases c2 : i < 8
        · rw [if_pos (show nI i < 8 from (L 8 (by omega)).mpr c2), if_pos c2]
        · rw [if_neg (show ¬ nI i < 8 from fun z => c2 ((L 8 (by omega)).mp z)), if_neg c2]
          by_cases c3 : i < 12
          · rw [if_pos (show nI i < 12 from (L 12 (by omega)).mpr c3), if_pos c3]
          · rw [if_neg (show ¬ nI i < 12 from fun z => c3 ((L 12 (by omega)).mp z)), if_neg c3]
            by_cases c4 : i < 16
            · rw [if_pos (show nI i < 16 from (L 16 (by omega)).mpr c4), if_pos c4]
            · rw [if_neg (show ¬ nI i < 16 from fun z => c4 ((L 16 (by omega)).mp z)), if_neg c4]
    obtain ⟨hm', g, b1, b2, b3, b4, b5⟩ := ih (i + 1) n s (up hm (11, 25, 0) (s + i) (bwF (selF a b c d e i) (i % 4))) (by omega) (by omega) (by rw [up_n (by decide)]; exact h1) hs
    refine ⟨hm', by rw [step]; exact g, b1, fun j j1 j2 => ?_, fun k hk => ?_, fun r r1 r2 => ?_, fun k hk => ?_⟩
    · by_cases q : j = i
      · rw [q, b3 _ (Or.inl (by omega)), up_s]
      · exact b2 j (by omega) j2
    · rw [b3 k (by omega), up_o (fun z => by have := z.2; omega)]
    · rw [b4 r r1 r2, up_n r1]
    · rw [b5 k hk, up_n (by decide)]
theorem Iv_buf {tb : Nat} {hc hm hc' hm' : HP} {sz sz' wn os hs nb : Nat} (h : Iv tb hc hm sz wn os hs nb)
    (c1 : hc' (9, 0, 0) 1 = nI sz') (c2 : ∀ k, k ≠ 1 → hc' (9, 0, 0) k = hc (9, 0, 0) k) (c3 : ∀ r, r ≠ (11, 10, 0) → r ≠ (9, 0, 0) → hc' r = hc r)
    (d1 : hm' (10, 0, 0) 11 = nI sz') (d2 : ∀ k, k ≠ 11 → k ≠ 0 → hm' (10, 0, 0) k = hm (10, 0, 0) k) (d3 : ∀ r, r ≠ (11, 25, 0) → r ≠ (10, 0, 0) → hm' r = hm r)
    (hs' : sz' ≤ 500) (hy : ∀ k, k < 500 → hc' (11, 10, 0) k = hm' (11, 25, 0) k) (hn : ∀ k, k < 500 → isN (hm' (11, 25, 0) k)) : Iv tb hc' hm' sz' wn os hs nb := by
  have eS : ∀ {m : Nat} {T L A : Tr0}, St hc m T L A nb tb → St hc' m T L A nb tb := fun hS => St_hc hS (fun r hr => c3 r (fun q => by
    rw [q] at hr; unfold ofm at hr; simp at hr) (fun q => by
    rw [q] at hr; unfold ofm at hr; simp at hr))
  have eL : hm' (11, 20, 0) = hm (11, 20, 0) := d3 _ (by decide) (by decide)
  have eA : hm' (11, 21, 0) = hm (11, 21, 0) := d3 _ (by decide) (by decide)
  have eT : hm' (11, 22, 0) = hm (11, 22, 0) := d3 _ (by decide) (by decide)
  have e24 : hm' (11, 24, 0) = hm (11, 24, 0) := d3 _ (by decide) (by decide)
  have e31 : hm' (11, 31, 0) = hm (11, 31, 0) := d3 _ (by decide) (by decide)
  have e12 : hm' (12, 0, 0) = hm (12, 0, 0) := d3 _ (by decide) (by decide)
  have eR : ∀ i, rowS hm' i = rowS hm i := fun i => by funext k; unfold rowS; rw [e24]
  intro i
  match i with
  | 0 => exact c1
  | 1 => exact d1
  | 2 => exact hs'
  | 3 => exact hy
  | 4 => exact hn
  | 5 => show hc' (5, 0, 0) 7 = hm' (10, 0, 0) 12; rw [c3 _ (by simp) (by simp), d2 12 (by decide) (by decide)]; exact h.pe
  | 6 => show hc' (5, 0, 0) 8 = hm' (10, 0, 0) 13; rw [c3 _ (by simp) (by simp), d2 13 (by decide) (by decide)]; exact h.pp
  | 7 => show hc' (9, 0, 0) 10 = nI wn; rw [c2 10 (by decide)]; exact h.wc
  | 8 => exact (d2 30 (by decide) (by decide)).trans h.wm
  | 9 => exact h.wb
  | 10 => intro j hj; rw [c3 _ (by simp) (by simp), e31]; exact h.wt j hj
  | 11 => intro m hm; rw [c3 _ (by simp) (by simp)]; exact h.b1 m hm
  | 12 => intro m hm; rw [c3 _ (by simp) (by simp)]; exact h.b6 m hm
  | 13 => show hc' (2, 0, 0) 1 = nI os; rw [c3 _ (by simp) (by simp)]; exact h.ho
  | 14 => exact h.hb
  | 15 => show hc' (2, 0, 0) 2 = nI hs; rw [c3 _ (by simp) (by simp)]; exact h.hs
  | 16 => exact (d2 8 (by decide) (by decide)).trans h.hm
  | 17 => exact h.h8
  | 18 => intro i hi; rw [c3 _ (by simp) (by simp), e12]; exact h.sl i hi
  | 19 => intro i hi; rw [e12]; exact h.s1 i hi
  | 20 => exact (d2 2 (by decide) (by decide)).trans h.nb
  | 21 => show hc' (9, 0, 0) 2 = hm' (10, 0, 0) 1; rw [c2 2 (by decide), d2 1 (by decide) (by decide)]; exact h.lo
  | 22 => show hm' (10, 0, 0) 1 = 0 ∨ hm' (10, 0, 0) 1 = 1; rw [d2 1 (by decide) (by decide)]; exact h.l1
  | 23 => intro q; rw [d2 1 (by decide) (by decide)] at q; have := h.l0 q; exact ⟨this.1, fun i hi => by rw [e12]; exact this.2 i hi⟩
  | 24 => intro q; rw [d2 1 (by decide) (by decide)] at q; rw [eL, eA, eT]; exact eS (h.no q)
  | 25 => intro q a ha; rw [d2 1 (by decide) (by decide)] at q; rw [eR, eL, eA]; exact eS (h.ke q a ha)
  | 26 => intro i hi q; rw [e12] at q; rw [eR, eL, eA]; exact eS (h.sv i hi q)
  | n + 27 => exact trivial
theorem op_append (a b c d e : Int32) : Op agp (fX9_append a b c d e) (fX10_append a b c d e) := by
  intro tb hc hm ht hI
  obtain ⟨sz, wn, os, hs, nb, hv⟩ := hI
  have hf := FU_ge
  have hsb := hv.sb
  have hv0 := Iv_th (x := 0) hv
  have s20 : nI sz + 20 = nI (sz + 20) := n_add sz 20
  have m11 : (th hm 0) (10, 0, 0) 11 = nI sz := hv0.sm
  by_cases q : 500 < sz + 20
  · have g : (500 : Int32) < nI (sz + 20) := by rw [show (500 : Int32) = nI 500 from rfl, n_lt (by omega) (by omega)]; exact q
    refine ⟨m1, hc, m1, th hm 0, ?_, ?_, rfl, ⟨sz, wn, os, hs, nb, Iv_mono hv0 (by omega)⟩, CFr.refl hc, (MFr.refl hm).th⟩
    · simp only [fX9_append]
      rw [hv.sz, s20, if_pos g]
    · show fX10_append_5 a b c d e (th hm 0) = _
      simp only [fX10_append_5]
      rw [m11, s20, if_pos g]
  · have g : ¬ (500 : Int32) < nI (sz + 20) := by rw [show (500 : Int32) = nI 500 from rfl, n_lt (by omega) (by omega)]; exact q
    obtain ⟨h1, e1, n1, w1, o1, r1, k1⟩ := app4 a (s := sz) (hp := hc) hv.sz (by omega)
    obtain ⟨h2, e2, n2, w2, o2, r2, k2⟩ := app4 b n1 (by omega)
    obtain ⟨h3, e3, n3, w3, o3, r3, k3⟩ := app4 c n2 (by omega)
    obtain ⟨h4, e4, n4, w4, o4, r4, k4⟩ := app4 d n3 (by omega)
    obtain ⟨h5, e5, n5, w5, o5, r5, k5⟩ := app4 e n4 (by omega)
    obtain ⟨hm', f1, f2, f3, f4, f5, f6⟩ := app_m a b c d e 20 0 FU sz (th hm 0) (by omega) (by omega) m11 (by omega)
    have key : ∀ k, k < 500 → h5 (11, 10, 0) k = hm' (11, 25, 0) k ∧ isN (hm' (11, 25, 0) k) := by
      intro k hk
      by_cases z : k < sz ∨ sz + 20 ≤ k
      · have eh : h5 (11, 10, 0) k = hc (11, 10, 0) k := by
          rw [o5 k (by omega), o4 k (by omega), o3 k (by omega), o2 k (by omega), o1 k (by omega)]
        have em : hm' (11, 25, 0) k = (th hm 0) (11, 25, 0) k := f4 k (by omega)
        rw [eh, em]
        exact ⟨hv0.by k hk, hv0.bn k hk⟩
      · obtain ⟨j, hj, rfl⟩ : ∃ j, j < 20 ∧ k = sz + j := ⟨k - sz, by omega, by omega⟩
        rw [f3 j (by omega) hj]
        refine ⟨?_, isN_255 _⟩
        unfold selF
        by_cases c1 : j < 4
        · rw [if_pos c1, o5 _ (by omega), o4 _ (by omega), o3 _ (by omega), o2 _ (by omega), w1 j c1, Nat.mod_eq_of_lt c1]
        · rw [if_neg c1]
          by_cases c2 : j < 8
          · have := w2 (j - 4) (by omega)
            rw [show sz + 4 + (j - 4) = sz + j by omega] at this
            rw [if_pos c2, o5 _ (by omega), o4 _ (by omega), o3 _ (by omega), this, show j - 4 = j % 4 by omega]
          · rw [if_neg c2]
            by_cases c3 : j < 12
            · have := w3 (j - 8) (by omega)
              rw [show sz + 4 + 4 + (j - 8) = sz + j by omega] at this
              rw [if_pos c3, o5 _ (by omega), o4 _ (by omega), this, show j - 8 = j % 4 by omega]
            · rw [if_neg c3]
              by_cases c4 : j < 16
              · have := w4 (j - 12) (by omega)
                rw [show sz + 4 + 4 + 4 + (j - 12) = sz + j by omega] at this
                rw [if_pos c4, o5 _ (by omega), this, show j - 12 = j % 4 by omega]
              · rw [if_neg c4]
                have := w5 (j - 16) (by omega)
                rw [show sz + 4 + 4 + 4 + 4 + (j - 16) = sz + j by omega] at this
                rw [this, show j - 16 = j % 4 by omega]
    have R : ∀ r, r ≠ (11, 10, 0) → r ≠ (9, 0, 0) → h5 r = hc r := fun r a1 a2 => (r5 r a1 a2).trans ((r4 r a1 a2).trans ((r3 r a1 a2).trans ((r2 r a1 a2).trans (r1 r a1 a2))))
    have K : ∀ k, k ≠ 1 → h5 (9, 0, 0) k = hc (9, 0, 0) k := fun k hk => (k5 k hk).trans ((k4 k hk).trans ((k3 k hk).trans ((k2 k hk).trans (k1 k hk))))
    refine ⟨nI (sz + 20), h5, nI (sz + 20), hm', ?_, ?_, rfl, ⟨sz + 20, wn, os, hs, nb, Iv_mono (Iv_buf hv0 ?_ K R f2 (fun k k1 _ => f6 k k1) f5 (by omega) (fun k hk => (key k hk).1) (fun k hk => (key k hk).2)) (by omega)⟩, ?_, ?_⟩
    · simp only [fX9_append]
      rw [hv.sz, s20, if_neg g, e1, Option.bind_some, e2, Option.bind_some, e3, Option.bind_some, e4, Option.bind_some, e5, Option.bind_some, n5]
    · show fX10_append_5 a b c d e (th hm 0) = _
      simp only [fX10_append_5]
      rw [m11, s20, if_neg g]
      exact f1
    · rw [n5]
    · intro r hr
      exact R r (fun z => by rw [z] at hr; unfold isM at hr; simp at hr) (fun z => by rw [z] at hr; unfold isM at hr; simp at hr)
    · exact (MFr.refl hm).th.trans (fun r hr => f5 r (fun z => hr (by rw [z]; unfold isM; simp)) (fun z => hr (by rw [z]; unfold isM; simp)))
end
