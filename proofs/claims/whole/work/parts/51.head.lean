/-! ===== the head of a text ===== -/
section
/-- the row of a reference that was cleared -/
def clT : Tr0 := fun k => if k = 4 ∨ k = 5 ∨ k = 6 ∨ k = 37 then m1 else if k = 8 ∨ k = 21 then 1 else 0
/-- what each setting is bound to -/
def stgB (T : Tr0) : Nat → Prop
  | 0 => isN (T 9) ∧ 10 ≤ tn (T 9) ∧ tn (T 9) ≤ 40
  | 1 => isN (T 10) ∧ 1 ≤ tn (T 10) ∧ tn (T 10) ≤ 12
  | 2 => isN (T 11) ∧ tn (T 11) + 2 ≤ tn (T 9)
  | 3 => isN (T 12) ∧ tn (T 11) + 1 ≤ tn (T 12) ∧ tn (T 12) + 1 ≤ tn (T 9)
  | 4 => isN (T 13) ∧ tn (T 13) + tn (T 11) ≤ tn (T 12)
  | 5 => isN (T 14) ∧ 1 ≤ tn (T 14) ∧ tn (T 14) ≤ 999
  | 6 => isN (T 15) ∧ 1 ≤ tn (T 15) ∧ tn (T 15) ≤ 99
  | 7 => isN (T 16) ∧ tn (T 16) ≤ 99
  | 8 => isN (T 17) ∧ tn (T 17) ≤ 99
  | 9 => isN (T 18) ∧ 5 ≤ tn (T 18) ∧ tn (T 18) ≤ 60
  | 10 => isN (T 19) ∧ 1 ≤ tn (T 19) ∧ tn (T 19) ≤ 9
  | 11 => isN (T 20) ∧ tn (T 20) ≤ 3
  | _ => True
theorem stgB_c {T T' : Tr0} : ∀ (j : Nat), (∀ i, i ≤ j → T' (9 + i) = T (9 + i)) → stgB T j → stgB T' j := by
  intro j h
  match j with
  | 0 => have e0 := h 0 (by omega); simp only [stgB]; rw [e0]; exact id
  | 1 => have e0 := h 1 (by omega); simp only [stgB]; rw [e0]; exact id
  | 2 => have e0 := h 2 (by omega); have e1 := h 0 (by omega); simp only [stgB]; rw [e0, e1]; exact id
  | 3 => have e0 := h 3 (by omega); have e1 := h 2 (by omega); have e2 := h 0 (by omega); simp only [stgB]; rw [e0, e1, e2]; exact id
  | 4 => have e0 := h 4 (by omega); have e1 := h 3 (by omega); have e2 := h 2 (by omega); simp only [stgB]; rw [e0, e1, e2]; exact id
  | 5 => have e0 := h 5 (by omega); simp only [stgB]; rw [e0]; exact id
  | 6 => have e0 := h 6 (by omega); simp only [stgB]; rw [e0]; exact id
  | 7 => have e0 := h 7 (by omega); simp only [stgB]; rw [e0]; exact id
  | 8 => have e0 := h 8 (by omega); simp only [stgB]; rw [e0]; exact id
  | 9 => have e0 := h 9 (by omega); simp only [stgB]; rw [e0]; exact id
  | 10 => have e0 := h 10 (by omega); simp only [stgB]; rw [e0]; exact id
  | 11 => have e0 := h 11 (by omega); simp only [stgB]; rw [e0]; exact id
  | n + 12 => exact id
/-- the bars that were read so far -/
def barp (nb : Nat) (hc hm : HP) : Nat → Prop
  | 0 => nb ≤ 26
  | 1 => hc (0, 0, 1) 5 = nI nb
  | 2 => hm (10, 0, 0) 2 = nI nb
  | 3 => ∀ i, i < nb → hc (11, 5, 1) i = hm (11, 20, 0) i
  | 4 => ∀ i, i < nb → hc (11, 6, 1) i = hm (11, 21, 0) i
  | 5 => ∀ i, i < nb → isN (hm (11, 20, 0) i) ∧ 97 ≤ tn (hm (11, 20, 0) i) ∧ tn (hm (11, 20, 0) i) ≤ 122
  | 6 => ∀ i, i < nb → isN (hm (11, 21, 0) i) ∧ tn (hm (11, 21, 0) i) ≤ 180
  | 7 => ∀ i, i < nb → hm (11, 22, 0) (38 + 2 * i) = m1
  | 8 => ∀ i, i < 26 → hm (11, 22, 0) (39 + 2 * i) = 0
  | 9 => ∃ g : Nat → Option Nat, cnF g 26 = nb ∧ ∀ c, c < 26 → g c ≠ none → ∃ i, i < nb ∧ hm (11, 20, 0) i = nI (97 + c)
  | 10 => ∀ i, i < 26 → hc (11, 7, 1) i = m1
  | 11 => ∀ i, i < 26 → hc (11, 8, 1) i = 0
  | 12 => hc (0, 0, 1) 6 = m1 ∧ hc (0, 0, 1) 7 = m1 ∧ hc (0, 0, 1) 8 = m1
  | _ => True
/-- what both have read, once k settings are read -/
def Xk (k : Nat) (hc hm : HP) : Prop := (∀ j, j < k → hc (11, 0, 1) j = hm (11, 22, 0) (9 + j)) ∧ (∀ j, j < 1150 → (j < 9 ∨ 20 < j) → (j < 38 ∨ 130 ≤ j) → hm (11, 22, 0) j = clT j) ∧ (∀ j, j < 40 → hc (11, 4, 1) j = hm (11, 22, 0) (90 + j) ∧ (hm (11, 22, 0) (90 + j) = 0 ∨ hm (11, 22, 0) (90 + j) = 1)) ∧ (∃ nb, ∀ i, barp nb hc hm i) ∧ ∀ j, j < k → stgB (hm (11, 22, 0)) j
theorem barp_c {nb : Nat} {hc hm hc' hm' : HP} (h : ∀ i, barp nb hc hm i) (e1 : hc' (0, 0, 1) = hc (0, 0, 1)) (e2 : hm' (10, 0, 0) 2 = hm (10, 0, 0) 2) (e3 : hc' (11, 5, 1) = hc (11, 5, 1)) (e4 : hc' (11, 6, 1) = hc (11, 6, 1)) (e5 : hc' (11, 7, 1) = hc (11, 7, 1)) (e6 : hc' (11, 8, 1) = hc (11, 8, 1)) (e7 : hm' (11, 20, 0) = hm (11, 20, 0)) (e8 : hm' (11, 21, 0) = hm (11, 21, 0)) (e9 : ∀ j, 38 ≤ j → j < 90 → hm' (11, 22, 0) j = hm (11, 22, 0) j) : ∀ i, barp nb hc' hm' i := by
  intro i
  match i with
  | 0 => exact h 0
  | 1 => have := h 1; simp only [barp] at this ⊢; rw [e1]; exact this
  | 2 => have := h 2; simp only [barp] at this ⊢; rw [e2]; exact this
  | 3 => have := h 3; simp only [barp] at this ⊢; rw [e3, e7]; exact this
  | 4 => have := h 4; simp only [barp] at this ⊢; rw [e4, e8]; exact this
  | 5 => have := h 5; simp only [barp] at this ⊢; rw [e7]; exact this
  | 6 => have := h 6; simp only [barp] at this ⊢; rw [e8]; exact this
  | 7 =>
    have h0 : nb ≤ 26 := h 0
    exact fun i hi => (e9 _ (by omega) (by omega)).trans ((h 7 : ∀ i, i < nb → hm (11, 22, 0) (38 + 2 * i) = m1) i hi)
  | 8 => exact fun i hi => (e9 _ (by omega) (by omega)).trans ((h 8 : ∀ i, i < 26 → hm (11, 22, 0) (39 + 2 * i) = 0) i hi)
  | 9 => have := h 9; simp only [barp] at this ⊢; rw [e7]; exact this
  | 10 => have := h 10; simp only [barp] at this ⊢; rw [e5]; exact this
  | 11 => have := h 11; simp only [barp] at this ⊢; rw [e6]; exact this
  | 12 => have := h 12; simp only [barp] at this ⊢; rw [e1]; exact this
  | n + 13 => exact trivial
theorem Xk_iv (k : Nat) : XIv (Xk k) := by
  intro hc hm hc' hm' e1 e2 e3 h
  obtain ⟨a1, a2, a3, ⟨nb, a4⟩, a5⟩ := h
  have eT : hm' (11, 22, 0) = hm (11, 22, 0) := e2 _ (by decide)
  refine ⟨?_, ?_, ?_, ⟨nb, barp_c a4 (e1 _ (by decide)) e3 (e1 _ (by decide)) (e1 _ (by decide)) (e1 _ (by decide)) (e1 _ (by decide)) (e2 _ (by decide)) (e2 _ (by decide)) (fun j _ _ => by rw [eT])⟩, ?_⟩
  · rw [e1 _ (by decide), eT]; exact a1
  · rw [eT]; exact a2
  · rw [e1 _ (by decide), eT]; exact a3
  · rw [eT]; exact a5
theorem Xk_and (k : Nat) (T : Tr0) : XIv (fun c m => Xk k c m ∧ m (11, 22, 0) = T) := by
  intro hc hm hc' hm' e1 e2 e3 h
  exact ⟨Xk_iv k hc hm hc' hm' e1 e2 e3 h.1, (e2 _ (by decide)).trans h.2⟩
variable {β n : Nat} {a b hc hm : HP}
theorem FrP_up {k : Nat} {x : Int32} {w : Nat} (hw : w < 10) (h : FrP β a hc) : FrP β a (up hc (11, w, 1) k x) :=
  ⟨fun r h1 h2 => by rw [up_n (fun e => h1 (by rw [e]; unfold ofm; simp; exact hw))]; exact h.1 r h1 h2, by rw [up_n (by simp)]; exact h.2.1, by rw [up_n (by simp)]; exact h.2.2.1, by rw [up_n (by simp)]; exact h.2.2.2⟩
theorem FrQ_up {k : Nat} {x : Int32} {w : Nat} (hw : w = 20 ∨ w = 21 ∨ w = 22) (h : FrQ b hm) : FrQ b (up hm (11, w, 0) k x) := by
  refine ⟨fun r h1 h2 h3 h4 => ?_, fun k h1 h2 => ?_⟩
  · have : ¬ r = (11, w, 0) := fun e => by
      rcases hw with q | q | q
      · rw [q] at e; exact h2 e
      · rw [q] at e; exact h3 e
      · rw [q] at e; exact h4 e
    rw [up_n this]; exact h.1 r h1 h2 h3 h4
  · rw [up_n (by simp)]; exact h.2 k h1 h2
theorem Ded_up {r s : RF} {k j : Nat} {x y : Int32} (hr : r ≠ (5, 0, 0)) (hs : s ≠ (10, 0, 0)) (h : Ded hc hm) : Ded (up hc r k x) (up hm s j y) := by
  obtain ⟨c, c1, c2, c3, c4, c5⟩ := h
  exact ⟨c, c1, c2, by rw [up_n hr.symm]; exact c3, by rw [up_n hs.symm]; exact c4, by rw [up_n hr.symm, up_n hs.symm]; exact c5⟩
/-- one setting is read -/
theorem set_p (hb : Bas n a b) {k : Nat} (hk : k < 12) (lo hi lo' hi' : Int32) (h : PRx β n a b (Xk k) hc hm) (he : Xk k hc hm → lo = lo' ∧ hi = hi')
    (hbd : Xk k hc hm → ∀ v, v < 1000 → ¬ nI v < lo → ¬ hi < nI v → stgB (uT (hm (11, 22, 0)) (9 + k) (nI v)) k) :
    ∃ x h1 hc' y h2 hm', fX5_takeNumber lo hi hc = some (x, h1) ∧ fX7_put 0 1 (nI k) x h1 = some hc' ∧ fX10_takes lo' hi' hm = some (y, h2) ∧ fX10_puts (nI k) y h2 = some hm' ∧ PRx β n a b (Xk (k + 1)) hc' hm' := by
  have hx0 : Liv n a (fun c m => Xk k c m ∧ m (11, 22, 0) = hm (11, 22, 0)) hc hm → Xk k hc hm := fun z => z.2.2.2.2.1
  have h' : PRx β n a b (fun c m => Xk k c m ∧ m (11, 22, 0) = hm (11, 22, 0)) hc hm := by
    obtain ⟨p1, p2, p3⟩ := h
    refine ⟨p1, p2, ?_⟩
    rcases p3 with p3 | ⟨l1, l2, l3, l4, l5⟩
    · exact Or.inl p3
    · exact Or.inr ⟨l1, l2, l3, l4, l5, rfl⟩
  obtain ⟨x, h1, y, h2, e1, e2, p1, p2, p3⟩ := num_p hb (Xk_and k (hm (11, 22, 0))) lo hi lo' hi' h' (fun z => he (hx0 z))
  refine ⟨x, h1, up h1 (11, 0, 1) k x, y, h2, up h2 (11, 22, 0) (9 + k) y, e1, put_n (show k < wlen 0 by show k < 13; omega), e2, ?_, FrP_up (by omega) p1, FrQ_up (Or.inr (Or.inr rfl)) p2, ?_⟩
  · show (if inb (9 + nI k) 1150 = true then (some (up h2 (11, 22, 0) ((9 + nI k).toNatClampNeg) y)) else none) = _
    rw [show (9 : Int32) + nI k = nI (9 + k) from n_add 9 k, if_pos (inb_n (by omega) (by decide)), n_c (by omega)]
  · rcases p3 with hD | ⟨⟨l1, l2, l3, l4, l5, l6⟩, v, v1, v2, v3, v4, v5⟩
    · exact Or.inl (Ded_up (by decide) (by decide) hD)
    · right
      subst v2
      subst v3
      have hx : Xk k hc hm := by
        rcases h.2.2 with hD | hL
        · -- a reader that has failed does not come back
          exfalso
          obtain ⟨c, c1, c2, c3, _⟩ := id hD
          have e0 : fX5_takeNumber lo hi hc = some (hc (5, 0, 0) 6, hc) := by
            simp only [fX5_takeNumber]
            rw [ded_num hD, Option.bind_some, ded_tok hD, Option.bind_some]
          have e9 : hc = h1 := congrArg Prod.snd (Option.some.inj (e0.symm.trans e1))
          rw [← e9, c3] at l2
          exact n_z c1 c2 l2
        · exact hL.2.2.2.2
      obtain ⟨x1, x2, x3, ⟨nb, x4⟩, x5⟩ := l5
      have eT : (up h2 (11, 22, 0) (9 + k) (nI v)) (11, 22, 0) = uT (hm (11, 22, 0)) (9 + k) (nI v) := by rw [up_e, l6]
      refine ⟨?_, by rw [up_n (by decide)]; exact l2, by rw [up_n (by decide)]; exact l3, by rw [up_n (by decide)]; exact l4, ?_, ?_, ?_, ⟨nb, barp_c x4 (up_n (by decide)) (by rw [up_n (by decide)]) (up_n (by decide)) (up_n (by decide)) (up_n (by decide)) (up_n (by decide)) (up_n (by decide)) (up_n (by decide)) (fun j _ _ => by rw [up_o (fun z => by have := z.2; omega)])⟩, ?_⟩
      · rw [up_n (by decide), up_n (by decide)]; exact l1
      · intro j hj
        by_cases q : j = k
        · rw [q, up_s, up_s]
        · rw [up_o (fun z => q z.2), up_o (fun z => by have := z.2; omega)]; exact x1 j (by omega)
      · intro j j1 j2 j3
        rw [up_o (fun z => by have := z.2; omega)]; exact x2 j j1 j2 j3
      · intro j hj
        rw [up_n (by decide), up_o (fun z => by have := z.2; omega)]; exact x3 j hj
      · intro j hj
        rw [eT]
        by_cases q : j = k
        · rw [q]; exact hbd hx v v1 v4 v5
        · refine stgB_c j (fun i hi => uT_n (by omega)) ?_
          rw [← l6]; exact x5 j (by omega)
end
