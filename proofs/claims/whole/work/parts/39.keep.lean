/-! ===== changes are kept, undone; slots ===== -/
section
theorem Iv_gen {tb tb' : Nat} {hc hm hc' hm' : HP} {sz wn os hs nb os' hs' : Nat} (h : Iv tb hc hm sz wn os hs nb) (l1 : hm (10, 0, 0) 1 = 1)
    (c1 : ∀ r, r ≠ (2, 0, 0) → r ≠ (8, 0, 0) → r ≠ (8, 0, 1) → (∀ m, ¬ ofm m r) → hc' r = hc r)
    (e1 : ∀ r, r ≠ (11, 22, 0) → r ≠ (11, 24, 0) → r ≠ (10, 0, 0) → r ≠ (12, 0, 0) → hm' r = hm r) (e2 : ∀ k, k ≠ 0 → k ≠ 8 → k ≠ 25 → hm' (10, 0, 0) k = hm (10, 0, 0) k)
    (f1 : ∀ m, m < 12 → isB (hc' (1, 0, m) 4) = true) (f6 : ∀ m, m < 12 → isB (hc' (6, 0, m) 3) = true)
    (g1 : hc' (2, 0, 0) 1 = nI os') (g2 : os' < 8) (g3 : hc' (2, 0, 0) 2 = nI hs') (g4 : hm' (10, 0, 0) 8 = nI hs') (g5 : hs' ≤ 8)
    (s1 : ∀ i, i < 2 → hc' (8, 0, i) 1 = hm' (12, 0, 0) i) (s2 : ∀ i, i < 2 → isB (hm' (12, 0, 0) i) = true)
    (p1 : St hc' 0 (hm' (11, 22, 0)) (hm (11, 20, 0)) (hm (11, 21, 0)) nb tb')
    (p2 : ∀ a, a < hs' → St hc' (2 + (os' + a) % 8) (rowS hm' a) (hm (11, 20, 0)) (hm (11, 21, 0)) nb tb')
    (p3 : ∀ i, i < 2 → hm' (12, 0, 0) i = 1 → St hc' (10 + i) (rowS hm' (8 + i)) (hm (11, 20, 0)) (hm (11, 21, 0)) nb tb') : Iv tb' hc' hm' sz wn os' hs' nb := by
  have eL : hm' (11, 20, 0) = hm (11, 20, 0) := e1 _ (by decide) (by decide) (by decide) (by decide)
  have eA : hm' (11, 21, 0) = hm (11, 21, 0) := e1 _ (by decide) (by decide) (by decide) (by decide)
  intro i
  match i with
  | 0 => show hc' (9, 0, 0) 1 = nI sz; rw [c1 _ (by decide) (by decide) (by decide) (fun m q => by unfold ofm at q; simp at q)]; exact h.sz
  | 1 => exact (e2 11 (by decide) (by decide) (by decide)).trans h.sm
  | 2 => exact h.sb
  | 3 => intro k hk; rw [c1 _ (by decide) (by decide) (by decide) (fun m q => by unfold ofm at q; simp at q), e1 _ (by decide) (by decide) (by decide) (by decide)]; exact h.by k hk
  | 4 => intro k hk; rw [e1 _ (by decide) (by decide) (by decide) (by decide)]; exact h.bn k hk
  | 5 => show hc' (5, 0, 0) 7 = hm' (10, 0, 0) 12; rw [c1 _ (by decide) (by decide) (by decide) (fun m q => by unfold ofm at q; simp at q), e2 12 (by decide) (by decide) (by decide)]; exact h.pe
  | 6 => show hc' (5, 0, 0) 8 = hm' (10, 0, 0) 13; rw [c1 _ (by decide) (by decide) (by decide) (fun m q => by unfold ofm at q; simp at q), e2 13 (by decide) (by decide) (by decide)]; exact h.pp
  | 7 => show hc' (9, 0, 0) 10 = nI wn; rw [c1 _ (by decide) (by decide) (by decide) (fun m q => by unfold ofm at q; simp at q)]; exact h.wc
  | 8 => exact (e2 30 (by decide) (by decide) (by decide)).trans h.wm
  | 9 => exact h.wb
  | 10 => intro j hj; rw [c1 _ (by decide) (by decide) (by decide) (fun m q => by unfold ofm at q; simp at q), e1 _ (by decide) (by decide) (by decide) (by decide)]; exact h.wt j hj
  | 11 => exact f1
  | 12 => exact f6
  | 13 => exact g1
  | 14 => exact g2
  | 15 => exact g3
  | 16 => exact g4
  | 17 => exact g5
  | 18 => exact s1
  | 19 => exact s2
  | 20 => exact (e2 2 (by decide) (by decide) (by decide)).trans h.nb
  | 21 => show hc' (9, 0, 0) 2 = hm' (10, 0, 0) 1; rw [c1 _ (by decide) (by decide) (by decide) (fun m q => by unfold ofm at q; simp at q), e2 1 (by decide) (by decide) (by decide)]; exact h.lo
  | 22 => show hm' (10, 0, 0) 1 = 0 ∨ hm' (10, 0, 0) 1 = 1; rw [e2 1 (by decide) (by decide) (by decide)]; exact h.l1
  | 23 => intro q; rw [e2 1 (by decide) (by decide) (by decide), l1] at q; exact absurd q n10
  | 24 => intro q; rw [eL, eA]; exact p1
  | 25 => intro q a ha; rw [eL, eA]; exact p2 a ha
  | 26 => intro i hi q; rw [eL, eA]; exact p3 i hi q
  | n + 27 => exact trivial
end
section
theorem k8 : ∀ n, n < 16 → irm (nI n) 8 = nI (n % 8) := by decide
theorem place_p {hc : HP} {os a : Nat} (h : hc (2, 0, 0) 1 = nI os) (ho : os < 8) (ha : a < 8) : fX2_placeOf (nI a) hc = some (2 + (os + a) % 8) := by
  show (if (irm ((hc (2, 0, 0) 1) + nI a) 8) < 0 then (fX2_placeOf_32 hc) else (if (irm ((hc (2, 0, 0) 1) + nI a) 8) < (nI 8) then (if inb (irm ((hc (2, 0, 0) 1) + nI a) 8) 8 = true then (some (2 + (irm ((hc (2, 0, 0) 1) + nI a) 8).toNatClampNeg)) else none) else (fX2_placeOf_32 hc))) = _
  have hm := Nat.mod_lt (os + a) (show 8 > 0 by omega)
  rw [h, n_add, k8 _ (by omega), if_neg (n_neg (by omega)), if_pos (show nI ((os + a) % 8) < nI 8 by rw [n_lt (by omega) (by omega)]; exact hm), if_pos (inb_n hm (by decide)), n_c (by omega)]
theorem ofm_u {m m' : Nat} {r : RF} (h : ofm m r) (h' : ofm m' r) : m = m' := by unfold ofm at h h'; omega
theorem SmM_of {hc hc' hd : HP} {m m' : Nat} (h : SmM hc m hd m') (e : ∀ r, ofm m r → hc' r = hc r) : SmM hc' m hd m' := by
  obtain ⟨a, b, c, d, f⟩ := h
  exact ⟨fun w hw k hk => by rw [e _ (by unfold ofm; simp; exact hw)]; exact a w hw k hk, fun k x y => by rw [e _ (by unfold ofm; simp)]; exact b k x y, fun k x y => by rw [e _ (by unfold ofm; simp)]; exact c k x y, fun k x y => by rw [e _ (by unfold ofm; simp)]; exact d k x y, fun k x y => by rw [e _ (by unfold ofm; simp)]; exact f k x y⟩
/-- both keep the machine as it is -/
theorem keep_p {tb : Nat} {hc hm : HP} {sz wn os hs nb : Nat} (h : Iv tb hc hm sz wn os hs nb) (l1 : hm (10, 0, 0) 1 = 1) : ∃ hc1 hm1 os1 hs1, fX2_keep 0 hc = some hc1 ∧ fX10_keepsAll hm = some hm1 ∧ Iv tb hc1 hm1 sz wn os1 hs1 nb ∧ CFr hc hc1 ∧ MFr hm hm1 ∧ (∀ r, r ≠ (11, 24, 0) → r ≠ (10, 0, 0) → hm1 r = hm r) ∧ (∀ k, k ≠ 8 → hm1 (10, 0, 0) k = hm (10, 0, 0) k) ∧ (∀ r, ofm 0 r → hc1 r = hc r) := by
  have hf := FU_ge
  have ho := h.hb
  have h8 := h.h8
  have hS := h.no l1
  -- the class keeps at place a, with the oldest at os1
  have cls : ∀ (hd : HP) (os1 a : Nat), os1 < 8 → a < 8 → hd (2, 0, 0) 1 = nI os1 → hd (2, 0, 0) 2 = nI a → (∀ r, r ≠ (2, 0, 0) → hd r = hc r) → ∃ hc1, fX2_keep_32 0 hd = some hc1 ∧ SmM hc1 (2 + (os1 + a) % 8) hc 0 ∧ (∀ r, r ≠ (2, 0, 0) → ¬ ofm (2 + (os1 + a) % 8) r → hc1 r = hc r) ∧ hc1 (2, 0, 0) 1 = nI os1 ∧ hc1 (2, 0, 0) 2 = nI (a + 1) := by
    intro hd os1 a h1 h2 h3 h4 h5
    have o1 : hd (1, 0, 0) = hc (1, 0, 0) := h5 _ (by decide)
    have o6 : hd (6, 0, 0) = hc (6, 0, 0) := h5 _ (by decide)
    obtain ⟨hx, x1, x2, x3, _⟩ := copy_p (m := 2 + (os1 + a) % 8) (mr := 0) (hp := hd) (by omega) (by rw [o1]; exact h.b1 0 (by omega)) (by rw [o6]; exact h.b6 0 (by omega))
    have x20 : hx (2, 0, 0) = hd (2, 0, 0) := x3 _ (by unfold ofm; simp)
    refine ⟨up hx (2, 0, 0) 2 (nI (a + 1)), ?_, ?_, ?_, ?_, up_s⟩
    · show (fX2_placeOf (hd (2, 0, 0) 2) hd).bind (fun v1 => (fX3_copyFrom v1 0 hd).bind fun hp4 => some (up hp4 (2, 0, 0) 2 ((hp4 (2, 0, 0) 2) + 1))) = _
      rw [h4, place_p h3 h1 h2, Option.bind_some, x1, Option.bind_some, x20, h4, ← nI_succ]
    · have x2' : SmM hx (2 + (os1 + a) % 8) hc 0 := by
        obtain ⟨a1, a2, a3, a4, a5⟩ := x2
        exact ⟨fun w hw k hk => by rw [a1 w hw k hk, h5 _ (by simp)], fun k x y => by rw [a2 k x y, h5 _ (by simp)], fun k x y => by rw [a3 k x y, h5 _ (by simp)], fun k x y => by rw [a4 k x y, h5 _ (by simp)], fun k x y => by rw [a5 k x y, h5 _ (by simp)]⟩
      exact SmM_of x2' (fun r hr => up_n (fun q => by rw [q] at hr; unfold ofm at hr; simp at hr))
    · intro r hr hr2
      rw [up_n hr, x3 r hr2]; exact h5 r hr
    · rw [up_o (by simp), x20]; exact h3
  -- the reference keeps at place a
  have mdl : ∀ (hd : HP) (a : Nat), a < 8 → hd (10, 0, 0) 8 = nI a → (∀ r, r ≠ (10, 0, 0) → r ≠ (11, 24, 0) → hd r = hm r) → (∀ k, k ≠ 8 → hd (10, 0, 0) k = hm (10, 0, 0) k) → ∃ hm1, fX10_keepsAll_50 hd = some hm1 ∧ hm1 (10, 0, 0) 8 = nI (a + 1) ∧ (∀ k, k < 1150 → rowS hm1 a k = hm (11, 22, 0) k) ∧ (∀ i, i < 10 → i ≠ a → ∀ k, k < 1150 → rowS hm1 i k = rowS hd i k) ∧ (∀ r, r ≠ (10, 0, 0) → r ≠ (11, 24, 0) → hm1 r = hm r) ∧ (∀ k, k ≠ 8 → hm1 (10, 0, 0) k = hm (10, 0, 0) k) := by
    intro hd a h2 h3 h4 h5
    have e : (0 : Int32) + hd (10, 0, 0) 8 = nI a := by rw [h3]; show nI 0 + nI a = _; rw [n_add, Nat.zero_add]
    refine ⟨up (cpR hd (11, 24, 0) (11, 22, 0) (1150 * a) 0 0 1150) (10, 0, 0) 8 (nI (a + 1)), ?_, up_s, ?_, ?_, ?_, ?_⟩
    · show (fX10_keeps (0 + (hd (10, 0, 0) 8)) hd).bind (fun hp3 => some (up hp3 (10, 0, 0) 8 ((hp3 (10, 0, 0) 8) + 1))) = _
      rw [e, keeps_ev (by omega), Option.bind_some, cpR_o (by decide), h3, ← nI_succ]
    · intro k hk
      unfold rowS
      rw [up_n (by decide), cpR_s hk, h4 _ (by decide) (by decide), Nat.zero_add]
    · intro i hi hia k hk
      unfold rowS
      rw [up_n (by decide)]
      exact cpR_n (by omega)
    · intro r h1 h2; rw [up_n h1, cpR_o h2]; exact h4 r h1 h2
    · intro k hk; rw [up_o (fun q => hk q.2), cpR_o (by decide)]; exact h5 k hk
  have fin : ∀ (hc1 hm1 : HP) (os1 a : Nat), os1 < 8 → a < 8 → SmM hc1 (2 + (os1 + a) % 8) hc 0 → (∀ r, r ≠ (2, 0, 0) → ¬ ofm (2 + (os1 + a) % 8) r → hc1 r = hc r) → hc1 (2, 0, 0) 1 = nI os1 → hc1 (2, 0, 0) 2 = nI (a + 1) → hm1 (10, 0, 0) 8 = nI (a + 1) → (∀ k, k < 1150 → rowS hm1 a k = hm (11, 22, 0) k) → (∀ r, r ≠ (10, 0, 0) → r ≠ (11, 24, 0) → hm1 r = hm r) → (∀ k, k ≠ 8 → hm1 (10, 0, 0) k = hm (10, 0, 0) k) → (∀ i, i < 2 → ∀ k, k < 1150 → rowS hm1 (8 + i) k = rowS hm (8 + i) k) → (∀ b, b < a → St hc (2 + (os1 + b) % 8) (rowS hm1 b) (hm (11, 20, 0)) (hm (11, 21, 0)) nb tb) → Iv tb hc1 hm1 sz wn os1 (a + 1) nb ∧ CFr hc hc1 ∧ MFr hm hm1 ∧ (∀ r, r ≠ (11, 24, 0) → r ≠ (10, 0, 0) → hm1 r = hm r) ∧ (∀ k, k ≠ 8 → hm1 (10, 0, 0) k = hm (10, 0, 0) k) ∧ (∀ r, ofm 0 r → hc1 r = hc r) := by
    intro hc1 hm1 os1 a h1 h2 q1 q2 q3 q4 q5 q6 q7 q8 q9 q10
    have oth : ∀ m', m' ≠ 2 + (os1 + a) % 8 → ∀ r, ofm m' r → hc1 r = hc r := fun m' hm' r hr => q2 r (fun e => by rw [e] at hr; unfold ofm at hr; simp at hr) (fun e => hm' (ofm_u hr e))
    have z : ∀ r, ofm 0 r → hc1 r = hc r := oth 0 (by omega)
    have e12 : hm1 (12, 0, 0) = hm (12, 0, 0) := q7 _ (by decide) (by decide)
    refine ⟨Iv_gen (tb' := tb) (os' := os1) (hs' := a + 1) h l1 ?_ ?_ ?_ ?_ ?_ q3 h1 q4 q5 (by omega) ?_ ?_ ?_ ?_ ?_, ?_, ?_, fun r a b => q7 r b a, q8, z⟩
    · intro r a1 a2 a3 a4; exact q2 r a1 (a4 _)
    · intro r a1 a2 a3 a4; exact q7 r a3 a2
    · intro k a1 a2 a3; exact q8 k a2
    · intro m' hm'
      by_cases e : m' = 2 + (os1 + a) % 8
      · rw [e, q1.2.1 4 (by omega) (by omega)]; exact h.b1 0 (by omega)
      · rw [oth m' e _ (by unfold ofm; simp)]; exact h.b1 m' hm'
    · intro m' hm'
      by_cases e : m' = 2 + (os1 + a) % 8
      · rw [e, q1.2.2.2.2 3 (by omega) (by omega)]; exact h.b6 0 (by omega)
      · rw [oth m' e _ (by unfold ofm; simp)]; exact h.b6 m' hm'
    · intro i hi; rw [e12, q2 _ (by simp) (by unfold ofm; simp)]; exact h.sl i hi
    · intro i hi; rw [e12]; exact h.s1 i hi
    · rw [q7 _ (by decide) (by decide)]; exact St_hc hS z
    · intro b hb
      by_cases e : b = a
      · rw [e]
        exact St_T (St_Sm hS q1) q6
      · refine St_hc (q10 b (by omega)) (oth _ ?_)
        omega
    · intro i hi hk
      rw [e12] at hk
      refine St_T (St_hc (h.sv i hi hk) (oth _ ?_)) (q9 i hi)
      omega
    · intro r hr; exact q2 r (fun e => by rw [e] at hr; unfold isM at hr; simp at hr) (fun e => by unfold isM at hr; unfold ofm at e; omega)
    · intro r hr; exact q7 r (fun e => hr (by rw [e]; unfold isM; simp)) (fun e => hr (by rw [e]; unfold isM; simp))
  by_cases e8 : hs = 8
  · subst e8
    obtain ⟨hc1, x1, x2, x3, x4, x5⟩ := cls (up (up hc (2, 0, 0) 1 (nI ((os + 1) % 8))) (2, 0, 0) 2 (nI 7)) ((os + 1) % 8) 7 (by omega) (by omega) (by rw [up_o (by simp)]; exact up_s) up_s (fun r hr => (up_n hr).trans (up_n hr))
    obtain ⟨hm1, y1, y2, y3, y4, y5, y6⟩ := mdl (up (shR hm 0) (10, 0, 0) 8 (nI 7)) 7 (by omega) up_s (fun r a b => by rw [up_n a]; funext j; unfold shR; rw [if_neg (fun q => b q.1)]) (fun k hk => by rw [up_o (fun q => hk q.2)]; unfold shR; rw [if_neg (fun q => by simp at q)])
    have sh : ∀ i, i < 7 → ∀ k, k < 1150 → rowS hm1 i k = rowS hm (i + 1) k := by
      intro i hi k hk
      rw [y4 i (by omega) (by omega) k hk]
      unfold rowS
      rw [up_n (by decide)]
      unfold shR
      rw [if_pos ⟨rfl, by omega, by omega⟩]; congr 1; omega
    have s8 : ∀ i, i < 2 → ∀ k, k < 1150 → rowS hm1 (8 + i) k = rowS hm (8 + i) k := by
      intro i hi k hk
      rw [y4 (8 + i) (by omega) (by omega) k hk]
      unfold rowS
      rw [up_n (by decide)]
      unfold shR
      rw [if_neg (fun q => by omega)]
    have F := fin hc1 hm1 ((os + 1) % 8) 7 (by omega) (by omega) x2 x3 x4 x5 y2 y3 y5 y6 s8 (fun b hb => by
      have := h.ke l1 (b + 1) (by omega)
      rw [show (os + (b + 1)) % 8 = ((os + 1) % 8 + b) % 8 by omega] at this
      exact St_T this (sh b (by omega)))
    refine ⟨hc1, hm1, (os + 1) % 8, 7 + 1, ?_, ?_, F⟩
    · show (if (hc (2, 0, 0) 2) = 8 then (fX2_keep_32 0 (up (up hc (2, 0, 0) 1 (irm ((hc (2, 0, 0) 1) + 1) 8)) (2, 0, 0) 2 (((up hc (2, 0, 0) 1 (irm ((hc (2, 0, 0) 1) + 1) 8)) (2, 0, 0) 2) - 1))) else (fX2_keep_32 0 hc)) = _
      rw [up_o (show ¬ (((2, 0, 0) : RF) = (2, 0, 0) ∧ 2 = 1) by simp), h.hs, h.ho, if_pos (show nI 8 = 8 from rfl), ← nI_succ, k8 _ (by omega)]
      exact x1
    · show (if (hm (10, 0, 0) 8) = 8 then (fX10_keepsAll_11 FU (nI 0) hm) else (fX10_keepsAll_50 hm)) = _
      have e : (shR hm 0) (10, 0, 0) 8 - 1 = nI 7 := by unfold shR; rw [if_neg (fun q => by simp at q), h.hm]; rfl
      rw [h.hm, if_pos (show nI 8 = 8 from rfl), shift_ev 8050 0 FU hm (by omega) (by omega), e]
      exact y1
  · obtain ⟨hc1, x1, x2, x3, x4, x5⟩ := cls hc os hs ho (by omega) h.ho h.hs (fun _ _ => rfl)
    obtain ⟨hm1, y1, y2, y3, y4, y5, y6⟩ := mdl hm hs (by omega) h.hm (fun _ _ _ => rfl) (fun _ _ => rfl)
    have F := fin hc1 hm1 os hs ho (by omega) x2 x3 x4 x5 y2 y3 y5 y6 (fun i hi k hk => y4 (8 + i) (by omega) (by omega) k hk) (fun b hb => St_T (h.ke l1 b hb) (y4 b (by omega) (by omega)))
    have n8 : ¬ nI hs = 8 := by show ¬ nI hs = nI 8; rw [n_eq (by omega) (by omega)]; exact e8
    refine ⟨hc1, hm1, os, hs + 1, ?_, ?_, F⟩
    · show (if (hc (2, 0, 0) 2) = 8 then _ else (fX2_keep_32 0 hc)) = _
      rw [h.hs, if_neg n8]; exact x1
    · show (if (hm (10, 0, 0) 8) = 8 then _ else (fX10_keepsAll_50 hm)) = _
      rw [h.hm, if_neg n8]; exact y1
/-- after both have kept: the change, on machine 0 and on the row -/
theorem change_p {cs : List Nat} {tb : Nat} {hc hm : HP} {sz wn os hs nb : Nat} (h : Iv tb hc hm sz wn os hs nb) (l1 : hm (10, 0, 0) 1 = 1) {T : Tr0} (hT : hm (11, 22, 0) = T) (h0 : hm (10, 0, 0) 0 = 0) {C1 : HP → Option ((Int32 ⊕ Nat) × HP)} {M1 : HP → Option (Int32 × HP)} {F : HP → Option ((Int32 ⊕ Nat) × HP)} {G : HP → Option (Int32 × HP)}
    (eF : F hc = (fX2_keep 0 hc).bind C1) (eG : G hm = (fX10_keepsAll hm).bind M1)
    (hch : ∀ hd hn os1 hs1, Iv tb hd hn sz wn os1 hs1 nb → hn (11, 22, 0) = T → hn (10, 0, 0) 1 = 1 → hn (10, 0, 0) 0 = 0 → hn (11, 20, 0) = hm (11, 20, 0) → hn (11, 21, 0) = hm (11, 21, 0) → ∃ v hd1 hn1, C1 hd = some (.inl v, hd1) ∧ M1 hn = some (v, hn1) ∧ hn1 (10, 0, 0) 0 = 0 ∧ Inv (tb + 600000) hd1 hn1 ∧ CFr hd hd1 ∧ MFr hn hn1) : OpI cs F G tb hc hm := by
  obtain ⟨hc1, hm1, os1, hs1, k1, k2, k3, k4, k5, k6, k7, k8⟩ := keep_p h l1
  obtain ⟨v, hd1, hn1, c1, c2, c3, c4, c5, c6⟩ := hch hc1 hm1 os1 hs1 k3 (by rw [k6 _ (by decide) (by decide)]; exact hT) ((k7 1 (by decide)).trans l1) ((k7 0 (by decide)).trans h0) (k6 _ (by decide) (by decide)) (k6 _ (by decide) (by decide))
  exact ⟨.inl v, hd1, v, hn1, by rw [eF, k1, Option.bind_some]; exact c1, by rw [eG, k2, Option.bind_some]; exact c2, ⟨c3, rfl⟩, c4, k4.trans c5, k5.trans c6⟩
end
