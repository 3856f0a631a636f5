/-! ===== machine m of the class, beside a row ===== -/
section
theorem up_o {hp : HP} {r r' : RF} {k k' : Nat} {x : Int32} (h : ¬ (r' = r ∧ k' = k)) : up hp r k x r' k' = hp r' k' := if_neg h
theorem up_s {hp : HP} {r : RF} {k : Nat} {x : Int32} : up hp r k x r k = x := if_pos ⟨rfl, rfl⟩
/-- the cells of machine m -/
def ofm (m : Nat) (r : RF) : Prop := r.2.2 = m ∧ (r.1 = 0 ∨ r.1 = 1 ∨ r.1 = 3 ∨ r.1 = 6 ∨ (r.1 = 11 ∧ r.2.1 < 10))
def FrC (m : Nat) (hc hc' : HP) : Prop := ∀ r, ¬ ofm m r → hc' r = hc r
theorem FrC.refl (m : Nat) (hc : HP) : FrC m hc hc := fun _ _ => rfl
theorem FrC.trans {m : Nat} {a b c : HP} (h : FrC m a b) (h' : FrC m b c) : FrC m a c := fun r hr => (h' r hr).trans (h r hr)
theorem FrC.up {m : Nat} {a b : HP} (h : FrC m a b) {r : RF} {k : Nat} {x : Int32} (hr : ofm m r) : FrC m a (up b r k x) := fun q hq => (up_n (fun e => hq (by rw [e]; exact hr))).trans (h q hq)
theorem Mot.a0 {hc : HP} {m nb : Nat} {T L A : Tr0} (h : Mot hc m T L A nb) : ∀ k, k < 13 → hc (11, 0, m) k = T (9 + k) := h 0
theorem Mot.a1 {hc : HP} {m nb : Nat} {T L A : Tr0} (h : Mot hc m T L A nb) : ∀ k, k < 40 → hc (11, 4, m) k = T (90 + k) := h 1
theorem Mot.a2 {hc : HP} {m nb : Nat} {T L A : Tr0} (h : Mot hc m T L A nb) : hc (1, 0, m) 2 = T 0 := h 2
theorem Mot.a3 {hc : HP} {m nb : Nat} {T L A : Tr0} (h : Mot hc m T L A nb) : hc (1, 0, m) 3 = T 1 := h 3
theorem Mot.a4 {hc : HP} {m nb : Nat} {T L A : Tr0} (h : Mot hc m T L A nb) : hc (1, 0, m) 4 = T 2 := h 4
theorem Mot.a5 {hc : HP} {m nb : Nat} {T L A : Tr0} (h : Mot hc m T L A nb) : hc (3, 0, m) 6 = T 3 := h 5
theorem Mot.a6 {hc : HP} {m nb : Nat} {T L A : Tr0} (h : Mot hc m T L A nb) : hc (0, 0, m) 5 = nI nb := h 6
theorem Mot.a7 {hc : HP} {m nb : Nat} {T L A : Tr0} (h : Mot hc m T L A nb) : hc (0, 0, m) 6 = T 4 := h 7
theorem Mot.a8 {hc : HP} {m nb : Nat} {T L A : Tr0} (h : Mot hc m T L A nb) : hc (0, 0, m) 7 = T 5 := h 8
theorem Mot.a9 {hc : HP} {m nb : Nat} {T L A : Tr0} (h : Mot hc m T L A nb) : hc (0, 0, m) 8 = T 6 := h 9
theorem Mot.a10 {hc : HP} {m nb : Nat} {T L A : Tr0} (h : Mot hc m T L A nb) : ∀ b, b < nb → hc (11, 5, m) b = L b := h 10
theorem Mot.a11 {hc : HP} {m nb : Nat} {T L A : Tr0} (h : Mot hc m T L A nb) : ∀ b, b < nb → hc (11, 6, m) b = A b := h 11
theorem Mot.a12 {hc : HP} {m nb : Nat} {T L A : Tr0} (h : Mot hc m T L A nb) : ∀ b, b < nb → hc (11, 7, m) b = T (38 + 2 * b) := h 12
theorem Mot.a13 {hc : HP} {m nb : Nat} {T L A : Tr0} (h : Mot hc m T L A nb) : ∀ b, b < nb → hc (11, 8, m) b = T (39 + 2 * b) := h 13
theorem Mot.a14 {hc : HP} {m nb : Nat} {T L A : Tr0} (h : Mot hc m T L A nb) : isB (hc (6, 0, m) 3) = true := h 14
theorem Ful.a0 {hc : HP} {m : Nat} {T : Tr0} (h : Ful hc m T) : ∀ k, k < tn (T 18) → hc (11, 1, m) k = T (130 + k) := h 0
theorem Ful.a1 {hc : HP} {m : Nat} {T : Tr0} (h : Ful hc m T) : hc (6, 0, m) 2 = T 7 := h 1
theorem Ful.a2 {hc : HP} {m : Nat} {T : Tr0} (h : Ful hc m T) : hc (6, 0, m) 3 = T 8 := h 2
theorem Ful.a3 {hc : HP} {m : Nat} {T : Tr0} (h : Ful hc m T) : hc (6, 0, m) 4 = T 33 := h 3
theorem Ful.a4 {hc : HP} {m : Nat} {T : Tr0} (h : Ful hc m T) : ∀ k, 3 ≤ k → k < 14 → k ≠ 11 → hc (11, 9, m) k = T (22 + k) := h 4
theorem Ful.a5 {hc : HP} {m : Nat} {T : Tr0} (h : Ful hc m T) : ∀ l c, l < 12 → c < tn (T 9) → hc (11, 2, m) (l * tn (T 9) + c) = sg (T (190 + 40 * l + c)) := h 5
theorem Ful.a6 {hc : HP} {m : Nat} {T : Tr0} (h : Ful hc m T) : ∀ l c, l < 12 → c < tn (T 9) → hc (11, 3, m) (l * tn (T 9) + c) = T (670 + 40 * l + c) := h 6
/-- machine m after some calls: its row, and no other cell has changed -/
def MR (F : Prop) (h0 hc : HP) (m : Nat) (T L A : Tr0) (nb : Nat) : Prop := Mot hc m T L A nb ∧ (F → Ful hc m T) ∧ FrC m h0 hc ∧ nb ≤ 26 ∧ tn (T 9) ≤ 40 ∧ tn (T 18) ≤ 60
end
section
theorem MR_tim {F : Prop} {h0 hc : HP} {m nb : Nat} {T L A : Tr0} {x : Int32} (h : MR F h0 hc m T L A nb)    : MR F h0 (up hc (3, 0, m) 6 x) m (uT T (3) x) L A nb := by
  obtain ⟨hM, hF, hR, hnb, hw9, hw18⟩ := h
  have hl18 : ∀ {k : Nat}, k < tn (T 18) → k < 60 := fun h => by omega
  refine ⟨?_, ?_, hR.up (by unfold ofm; simp), hnb, by rw [uT_n (by omega)]; exact hw9, by rw [uT_n (by omega)]; exact hw18⟩
  · intro i
    match i with
    | 0 => exact fun k hk => (up_o (by simp)).trans ((hM.a0 k hk).trans (uT_n (by omega)).symm)
    | 1 => exact fun k hk => (up_o (by simp)).trans ((hM.a1 k hk).trans (uT_n (by omega)).symm)
    | 2 => exact (up_o (by simp)).trans ((hM.a2).trans (uT_n (by omega)).symm)
    | 3 => exact (up_o (by simp)).trans ((hM.a3).trans (uT_n (by omega)).symm)
    | 4 => exact (up_o (by simp)).trans ((hM.a4).trans (uT_n (by omega)).symm)
    | 5 =>
      exact up_s.trans uT_e.symm
    | 6 => exact (up_o (by simp)).trans ((hM.a6))
    | 7 => exact (up_o (by simp)).trans ((hM.a7).trans (uT_n (by omega)).symm)
    | 8 => exact (up_o (by simp)).trans ((hM.a8).trans (uT_n (by omega)).symm)
    | 9 => exact (up_o (by simp)).trans ((hM.a9).trans (uT_n (by omega)).symm)
    | 10 => exact fun b hk => (up_o (by simp)).trans ((hM.a10 b hk))
    | 11 => exact fun b hk => (up_o (by simp)).trans ((hM.a11 b hk))
    | 12 => exact fun b hk => (up_o (by simp)).trans ((hM.a12 b hk).trans (uT_n (by omega)).symm)
    | 13 => exact fun b hk => (up_o (by simp)).trans ((hM.a13 b hk).trans (uT_n (by omega)).symm)
    | 14 => show isB (up hc (3, 0, m) 6 x (6, 0, m) 3) = true; rw [up_o (by simp)]; exact hM.a14
    | n + 15 => exact trivial
  · intro f
    have hF := hF f
    have t9 : (uT T (3) x) 9 = T 9 := uT_n (by omega)
    have t18 : (uT T (3) x) 18 = T 18 := uT_n (by omega)
    intro i
    match i with
    | 0 => exact fun k hk => by rw [t18] at hk; have := hl18 hk; exact (up_o (by simp)).trans ((hF.a0 k hk).trans (uT_n (by omega)).symm)
    | 1 => exact (up_o (by simp)).trans ((hF.a1).trans (uT_n (by omega)).symm)
    | 2 => exact (up_o (by simp)).trans ((hF.a2).trans (uT_n (by omega)).symm)
    | 3 => exact (up_o (by simp)).trans ((hF.a3).trans (uT_n (by omega)).symm)
    | 4 => exact fun k h1 h2 h3 => (up_o (by simp)).trans ((hF.a4 k h1 h2 h3).trans (uT_n (by omega)).symm)
    | 5 => intro l c hl hc'; simp only [t9] at hc' ⊢; rw [up_o (by simp), uT_n (by omega)]; exact hF.a5 l c hl hc'
    | 6 => intro l c hl hc'; simp only [t9] at hc' ⊢; rw [up_o (by simp), uT_n (by omega)]; exact hF.a6 l c hl hc'
    | n + 7 => exact trivial
theorem MR_col {F : Prop} {h0 hc : HP} {m nb : Nat} {T L A : Tr0} {x : Int32} (h : MR F h0 hc m T L A nb)    : MR F h0 (up hc (1, 0, m) 3 x) m (uT T (1) x) L A nb := by
  obtain ⟨hM, hF, hR, hnb, hw9, hw18⟩ := h
  have hl18 : ∀ {k : Nat}, k < tn (T 18) → k < 60 := fun h => by omega
  refine ⟨?_, ?_, hR.up (by unfold ofm; simp), hnb, by rw [uT_n (by omega)]; exact hw9, by rw [uT_n (by omega)]; exact hw18⟩
  · intro i
    match i with
    | 0 => exact fun k hk => (up_o (by simp)).trans ((hM.a0 k hk).trans (uT_n (by omega)).symm)
    | 1 => exact fun k hk => (up_o (by simp)).trans ((hM.a1 k hk).trans (uT_n (by omega)).symm)
    | 2 => exact (up_o (by simp)).trans ((hM.a2).trans (uT_n (by omega)).symm)
    | 3 =>
      exact up_s.trans uT_e.symm
    | 4 => exact (up_o (by simp)).trans ((hM.a4).trans (uT_n (by omega)).symm)
    | 5 => exact (up_o (by simp)).trans ((hM.a5).trans (uT_n (by omega)).symm)
    | 6 => exact (up_o (by simp)).trans ((hM.a6))
    | 7 => exact (up_o (by simp)).trans ((hM.a7).trans (uT_n (by omega)).symm)
    | 8 => exact (up_o (by simp)).trans ((hM.a8).trans (uT_n (by omega)).symm)
    | 9 => exact (up_o (by simp)).trans ((hM.a9).trans (uT_n (by omega)).symm)
    | 10 => exact fun b hk => (up_o (by simp)).trans ((hM.a10 b hk))
    | 11 => exact fun b hk => (up_o (by simp)).trans ((hM.a11 b hk))
    | 12 => exact fun b hk => (up_o (by simp)).trans ((hM.a12 b hk).trans (uT_n (by omega)).symm)
    | 13 => exact fun b hk => (up_o (by simp)).trans ((hM.a13 b hk).trans (uT_n (by omega)).symm)
    | 14 => show isB (up hc (1, 0, m) 3 x (6, 0, m) 3) = true; rw [up_o (by simp)]; exact hM.a14
    | n + 15 => exact trivial
  · intro f
    have hF := hF f
    have t9 : (uT T (1) x) 9 = T 9 := uT_n (by omega)
    have t18 : (uT T (1) x) 18 = T 18 := uT_n (by omega)
    intro i
    match i with
    | 0 => exact fun k hk => by rw [t18] at hk; have := hl18 hk; exact (up_o (by simp)).trans ((hF.a0 k hk).trans (uT_n (by omega)).symm)
    | 1 => exact (up_o (by simp)).trans ((hF.a1).trans (uT_n (by omega)).symm)
    | 2 => exact (up_o (by simp)).trans ((hF.a2).trans (uT_n (by omega)).symm)
    | 3 => exact (up_o (by simp)).trans ((hF.a3).trans (uT_n (by omega)).symm)
    | 4 => exact fun k h1 h2 h3 => (up_o (by simp)).trans ((hF.a4 k h1 h2 h3).trans (uT_n (by omega)).symm)
    | 5 => intro l c hl hc'; simp only [t9] at hc' ⊢; rw [up_o (by simp), uT_n (by omega)]; exact hF.a5 l c hl hc'
    | 6 => intro l c hl hc'; simp only [t9] at hc' ⊢; rw [up_o (by simp), uT_n (by omega)]; exact hF.a6 l c hl hc'
    | n + 7 => exact trivial
theorem MR_lin {F : Prop} {h0 hc : HP} {m nb : Nat} {T L A : Tr0} {x : Int32} (h : MR F h0 hc m T L A nb)    : MR F h0 (up hc (1, 0, m) 2 x) m (uT T (0) x) L A nb := by
  obtain ⟨hM, hF, hR, hnb, hw9, hw18⟩ := h
  have hl18 : ∀ {k : Nat}, k < tn (T 18) → k < 60 := fun h => by omega
  refine ⟨?_, ?_, hR.up (by unfold ofm; simp), hnb, by rw [uT_n (by omega)]; exact hw9, by rw [uT_n (by omega)]; exact hw18⟩
  · intro i
    match i with
    | 0 => exact fun k hk => (up_o (by simp)).trans ((hM.a0 k hk).trans (uT_n (by omega)).symm)
    | 1 => exact fun k hk => (up_o (by simp)).trans ((hM.a1 k hk).trans (uT_n (by omega)).symm)
    | 2 =>
      exact up_s.trans uT_e.symm
    | 3 => exact (up_o (by simp)).trans ((hM.a3).trans (uT_n (by omega)).symm)
    | 4 => exact (up_o (by simp)).trans ((hM.a4).trans (uT_n (by omega)).symm)
    | 5 => exact (up_o (by simp)).trans ((hM.a5).trans (uT_n (by omega)).symm)
    | 6 => exact (up_o (by simp)).trans ((hM.a6))
    | 7 => exact (up_o (by simp)).trans ((hM.a7).trans (uT_n (by omega)).symm)
    | 8 => exact (up_o (by simp)).trans ((hM.a8).trans (uT_n (by omega)).symm)
    | 9 => exact (up_o (by simp)).trans ((hM.a9).trans (uT_n (by omega)).symm)
    | 10 => exact fun b hk => (up_o (by simp)).trans ((hM.a10 b hk))
    | 11 => exact fun b hk => (up_o (by simp)).trans ((hM.a11 b hk))
    | 12 => exact fun b hk => (up_o (by simp)).trans ((hM.a12 b hk).trans (uT_n (by omega)).symm)
    | 13 => exact fun b hk => (up_o (by simp)).trans ((hM.a13 b hk).trans (uT_n (by omega)).symm)
    | 14 => show isB (up hc (1, 0, m) 2 x (6, 0, m) 3) = true; rw [up_o (by simp)]; exact hM.a14
    | n + 15 => exact trivial
  · intro f
    have hF := hF f
    have t9 : (uT T (0) x) 9 = T 9 := uT_n (by omega)
    have t18 : (uT T (0) x) 18 = T 18 := uT_n (by omega)
    intro i
    match i with
    | 0 => exact fun k hk => by rw [t18] at hk; have := hl18 hk; exact (up_o (by simp)).trans ((hF.a0 k hk).trans (uT_n (by omega)).symm)
    | 1 => exact (up_o (by simp)).trans ((hF.a1).trans (uT_n (by omega)).symm)
    | 2 => exact (up_o (by simp)).trans ((hF.a2).trans (uT_n (by omega)).symm)
    | 3 => exact (up_o (by simp)).trans ((hF.a3).trans (uT_n (by omega)).symm)
    | 4 => exact fun k h1 h2 h3 => (up_o (by simp)).trans ((hF.a4 k h1 h2 h3).trans (uT_n (by omega)).symm)
    | 5 => intro l c hl hc'; simp only [t9] at hc' ⊢; rw [up_o (by simp), uT_n (by omega)]; exact hF.a5 l c hl hc'
    | 6 => intro l c hl hc'; simp only [t9] at hc' ⊢; rw [up_o (by simp), uT_n (by omega)]; exact hF.a6 l c hl hc'
    | n + 7 => exact trivial
theorem MR_rel {F : Prop} {h0 hc : HP} {m nb : Nat} {T L A : Tr0} {x : Int32} (h : MR F h0 hc m T L A nb)    : MR F h0 (up hc (1, 0, m) 4 x) m (uT T (2) x) L A nb := by
  obtain ⟨hM, hF, hR, hnb, hw9, hw18⟩ := h
  have hl18 : ∀ {k : Nat}, k < tn (T 18) → k < 60 := fun h => by omega
  refine ⟨?_, ?_, hR.up (by unfold ofm; simp), hnb, by rw [uT_n (by omega)]; exact hw9, by rw [uT_n (by omega)]; exact hw18⟩
  · intro i
    match i with
    | 0 => exact fun k hk => (up_o (by simp)).trans ((hM.a0 k hk).trans (uT_n (by omega)).symm)
    | 1 => exact fun k hk => (up_o (by simp)).trans ((hM.a1 k hk).trans (uT_n (by omega)).symm)
    | 2 => exact (up_o (by simp)).trans ((hM.a2).trans (uT_n (by omega)).symm)
    | 3 => exact (up_o (by simp)).trans ((hM.a3).trans (uT_n (by omega)).symm)
    | 4 =>
      exact up_s.trans uT_e.symm
    | 5 => exact (up_o (by simp)).trans ((hM.a5).trans (uT_n (by omega)).symm)
    | 6 => exact (up_o (by simp)).trans ((hM.a6))
    | 7 => exact (up_o (by simp)).trans ((hM.a7).trans (uT_n (by omega)).symm)
    | 8 => exact (up_o (by simp)).trans ((hM.a8).trans (uT_n (by omega)).symm)
    | 9 => exact (up_o (by simp)).trans ((hM.a9).trans (uT_n (by omega)).symm)
    | 10 => exact fun b hk => (up_o (by simp)).trans ((hM.a10 b hk))
    | 11 => exact fun b hk => (up_o (by simp)).trans ((hM.a11 b hk))
    | 12 => exact fun b hk => (up_o (by simp)).trans ((hM.a12 b hk).trans (uT_n (by omega)).symm)
    | 13 => exact fun b hk => (up_o (by simp)).trans ((hM.a13 b hk).trans (uT_n (by omega)).symm)
    | 14 => show isB (up hc (1, 0, m) 4 x (6, 0, m) 3) = true; rw [up_o (by simp)]; exact hM.a14
    | n + 15 => exact trivial
  · intro f
    have hF := hF f
    have t9 : (uT T (2) x) 9 = T 9 := uT_n (by omega)
    have t18 : (uT T (2) x) 18 = T 18 := uT_n (by omega)
    intro i
    match i with
    | 0 => exact fun k hk => by rw [t18] at hk; have := hl18 hk; exact (up_o (by simp)).trans ((hF.a0 k hk).trans (uT_n (by omega)).symm)
    | 1 => exact (up_o (by simp)).trans ((hF.a1).trans (uT_n (by omega)).symm)
    | 2 => exact (up_o (by simp)).trans ((hF.a2).trans (uT_n (by omega)).symm)
    | 3 => exact (up_o (by simp)).trans ((hF.a3).trans (uT_n (by omega)).symm)
    | 4 => exact fun k h1 h2 h3 => (up_o (by simp)).trans ((hF.a4 k h1 h2 h3).trans (uT_n (by omega)).symm)
    | 5 => intro l c hl hc'; simp only [t9] at hc' ⊢; rw [up_o (by simp), uT_n (by omega)]; exact hF.a5 l c hl hc'
    | 6 => intro l c hl hc'; simp only [t9] at hc' ⊢; rw [up_o (by simp), uT_n (by omega)]; exact hF.a6 l c hl hc'
    | n + 7 => exact trivial
theorem MR_lat {F : Prop} {h0 hc : HP} {m nb : Nat} {T L A : Tr0} {x : Int32} (h : MR F h0 hc m T L A nb)    : MR F h0 (up hc (0, 0, m) 6 x) m (uT T (4) x) L A nb := by
  obtain ⟨hM, hF, hR, hnb, hw9, hw18⟩ := h
  have hl18 : ∀ {k : Nat}, k < tn (T 18) → k < 60 := fun h => by omega
  refine ⟨?_, ?_, hR.up (by unfold ofm; simp), hnb, by rw [uT_n (by omega)]; exact hw9, by rw [uT_n (by omega)]; exact hw18⟩
  · intro i
    match i with
    | 0 => exact fun k hk => (up_o (by simp)).trans ((hM.a0 k hk).trans (uT_n (by omega)).symm)
    | 1 => exact fun k hk => (up_o (by simp)).trans ((hM.a1 k hk).trans (uT_n (by omega)).symm)
    | 2 => exact (up_o (by simp)).trans ((hM.a2).trans (uT_n (by omega)).symm)
    | 3 => exact (up_o (by simp)).trans ((hM.a3).trans (uT_n (by omega)).symm)
    | 4 => exact (up_o (by simp)).trans ((hM.a4).trans (uT_n (by omega)).symm)
    | 5 => exact (up_o (by simp)).trans ((hM.a5).trans (uT_n (by omega)).symm)
    | 6 => exact (up_o (by simp)).trans ((hM.a6))
    | 7 =>
      exact up_s.trans uT_e.symm
    | 8 => exact (up_o (by simp)).trans ((hM.a8).trans (uT_n (by omega)).symm)
    | 9 => exact (up_o (by simp)).trans ((hM.a9).trans (uT_n (by omega)).symm)
    | 10 => exact fun b hk => (up_o (by simp)).trans ((hM.a10 b hk))
    | 11 => exact fun b hk => (up_o (by simp)).trans ((hM.a11 b hk))
    | 12 => exact fun b hk => (up_o (by simp)).trans ((hM.a12 b hk).trans (uT_n (by omega)).symm)
    | 13 => exact fun b hk => (up_o (by simp)).trans ((hM.a13 b hk).trans (uT_n (by omega)).symm)
    | 14 => show isB (up hc (0, 0, m) 6 x (6, 0, m) 3) = true; rw [up_o (by simp)]; exact hM.a14
    | n + 15 => exact trivial
  · intro f
    have hF := hF f
    have t9 : (uT T (4) x) 9 = T 9 := uT_n (by omega)
    have t18 : (uT T (4) x) 18 = T 18 := uT_n (by omega)
    intro i
    match i with
    | 0 => exact fun k hk => by rw [t18] at hk; have := hl18 hk; exact (up_o (by simp)).trans ((hF.a0 k hk).trans (uT_n (by omega)).symm)
    | 1 => exact (up_o (by simp)).trans ((hF.a1).trans (uT_n (by omega)).symm)
    | 2 => exact (up_o (by simp)).trans ((hF.a2).trans (uT_n (by omega)).symm)
    | 3 => exact (up_o (by simp)).trans ((hF.a3).trans (uT_n (by omega)).symm)
    | 4 => exact fun k h1 h2 h3 => (up_o (by simp)).trans ((hF.a4 k h1 h2 h3).trans (uT_n (by omega)).symm)
    | 5 => intro l c hl hc'; simp only [t9] at hc' ⊢; rw [up_o (by simp), uT_n (by omega)]; exact hF.a5 l c hl hc'
    | 6 => intro l c hl hc'; simp only [t9] at hc' ⊢; rw [up_o (by simp), uT_n (by omega)]; exact hF.a6 l c hl hc'
    | n + 7 => exact trivial
theorem MR_ja1 {F : Prop} {h0 hc : HP} {m nb : Nat} {T L A : Tr0} {x : Int32} (h : MR F h0 hc m T L A nb)    : MR F h0 (up hc (0, 0, m) 7 x) m (uT T (5) x) L A nb := by
  obtain ⟨hM, hF, hR, hnb, hw9, hw18⟩ := h
  have hl18 : ∀ {k : Nat}, k < tn (T 18) → k < 60 := fun h => by omega
  refine ⟨?_, ?_, hR.up (by unfold ofm; simp), hnb, by rw [uT_n (by omega)]; exact hw9, by rw [uT_n (by omega)]; exact hw18⟩
  · intro i
    match i with
    | 0 => exact fun k hk => (up_o (by simp)).trans ((hM.a0 k hk).trans (uT_n (by omega)).symm)
    | 1 => exact fun k hk => (up_o (by simp)).trans ((hM.a1 k hk).trans (uT_n (by omega)).symm)
    | 2 => exact (up_o (by simp)).trans ((hM.a2).trans (uT_n (by omega)).symm)
    | 3 => exact (up_o (by simp)).trans ((hM.a3).trans (uT_n (by omega)).symm)
    | 4 => exact (up_o (by simp)).trans ((hM.a4).trans (uT_n (by omega)).symm)
    | 5 => exact (up_o (by simp)).trans ((hM.a5).trans (uT_n (by omega)).symm)
    | 6 => exact (up_o (by simp)).trans ((hM.a6))
    | 7 => exact (up_o (by simp)).trans ((hM.a7).trans (uT_n (by omega)).symm)
    | 8 =>
      exact up_s.trans uT_e.symm
    | 9 => exact (up_o (by simp)).trans ((hM.a9).trans (uT_n (by omega)).symm)
    | 10 => exact fun b hk => (up_o (by simp)).trans ((hM.a10 b hk))
    | 11 => exact fun b hk => (up_o (by simp)).trans ((hM.a11 b hk))
    | 12 => exact fun b hk => (up_o (by simp)).trans ((hM.a12 b hk).trans (uT_n (by omega)).symm)
    | 13 => exact fun b hk => (up_o (by simp)).trans ((hM.a13 b hk).trans (uT_n (by omega)).symm)
    | 14 => show isB (up hc (0, 0, m) 7 x (6, 0, m) 3) = true; rw [up_o (by simp)]; exact hM.a14
    | n + 15 => exact trivial
  · intro f
    have hF := hF f
    have t9 : (uT T (5) x) 9 = T 9 := uT_n (by omega)
    have t18 : (uT T (5) x) 18 = T 18 := uT_n (by omega)
    intro i
    match i with
    | 0 => exact fun k hk => by rw [t18] at hk; have := hl18 hk; exact (up_o (by simp)).trans ((hF.a0 k hk).trans (uT_n (by omega)).symm)
    | 1 => exact (up_o (by simp)).trans ((hF.a1).trans (uT_n (by omega)).symm)
    | 2 => exact (up_o (by simp)).trans ((hF.a2).trans (uT_n (by omega)).symm)
    | 3 => exact (up_o (by simp)).trans ((hF.a3).trans (uT_n (by omega)).symm)
    | 4 => exact fun k h1 h2 h3 => (up_o (by simp)).trans ((hF.a4 k h1 h2 h3).trans (uT_n (by omega)).symm)
    | 5 => intro l c hl hc'; simp only [t9] at hc' ⊢; rw [up_o (by simp), uT_n (by omega)]; exact hF.a5 l c hl hc'
    | 6 => intro l c hl hc'; simp only [t9] at hc' ⊢; rw [up_o (by simp), uT_n (by omega)]; exact hF.a6 l c hl hc'
    | n + 7 => exact trivial
theorem MR_ja2 {F : Prop} {h0 hc : HP} {m nb : Nat} {T L A : Tr0} {x : Int32} (h : MR F h0 hc m T L A nb)    : MR F h0 (up hc (0, 0, m) 8 x) m (uT T (6) x) L A nb := by
  obtain ⟨hM, hF, hR, hnb, hw9, hw18⟩ := h
  have hl18 : ∀ {k : Nat}, k < tn (T 18) → k < 60 := fun h => by omega
  refine ⟨?_, ?_, hR.up (by unfold ofm; simp), hnb, by rw [uT_n (by omega)]; exact hw9, by rw [uT_n (by omega)]; exact hw18⟩
  · intro i
    match i with
    | 0 => exact fun k hk => (up_o (by simp)).trans ((hM.a0 k hk).trans (uT_n (by omega)).symm)
    | 1 => exact fun k hk => (up_o (by simp)).trans ((hM.a1 k hk).trans (uT_n (by omega)).symm)
    | 2 => exact (up_o (by simp)).trans ((hM.a2).trans (uT_n (by omega)).symm)
    | 3 => exact (up_o (by simp)).trans ((hM.a3).trans (uT_n (by omega)).symm)
    | 4 => exact (up_o (by simp)).trans ((hM.a4).trans (uT_n (by omega)).symm)
    | 5 => exact (up_o (by simp)).trans ((hM.a5).trans (uT_n (by omega)).symm)
    | 6 => exact (up_o (by simp)).trans ((hM.a6))
    | 7 => exact (up_o (by simp)).trans ((hM.a7).trans (uT_n (by omega)).symm)
    | 8 => exact (up_o (by simp)).trans ((hM.a8).trans (uT_n (by omega)).symm)
    | 9 =>
      exact up_s.trans uT_e.symm
    | 10 => exact fun b hk => (up_o (by simp)).trans ((hM.a10 b hk))
    | 11 => exact fun b hk => (up_o (by simp)).trans ((hM.a11 b hk))
    | 12 => exact fun b hk => (up_o (by simp)).trans ((hM.a12 b hk).trans (uT_n (by omega)).symm)
    | 13 => exact fun b hk => (up_o (by simp)).trans ((hM.a13 b hk).trans (uT_n (by omega)).symm)
    | 14 => show isB (up hc (0, 0, m) 8 x (6, 0, m) 3) = true; rw [up_o (by simp)]; exact hM.a14
    | n + 15 => exact trivial
  · intro f
    have hF := hF f
    have t9 : (uT T (6) x) 9 = T 9 := uT_n (by omega)
    have t18 : (uT T (6) x) 18 = T 18 := uT_n (by omega)
    intro i
    match i with
    | 0 => exact fun k hk => by rw [t18] at hk; have := hl18 hk; exact (up_o (by simp)).trans ((hF.a0 k hk).trans (uT_n (by omega)).symm)
    | 1 => exact (up_o (by simp)).trans ((hF.a1).trans (uT_n (by omega)).symm)
    | 2 => exact (up_o (by simp)).trans ((hF.a2).trans (uT_n (by omega)).symm)
    | 3 => exact (up_o (by simp)).trans ((hF.a3).trans (uT_n (by omega)).symm)
    | 4 => exact fun k h1 h2 h3 => (up_o (by simp)).trans ((hF.a4 k h1 h2 h3).trans (uT_n (by omega)).symm)
    | 5 => intro l c hl hc'; simp only [t9] at hc' ⊢; rw [up_o (by simp), uT_n (by omega)]; exact hF.a5 l c hl hc'
    | 6 => intro l c hl hc'; simp only [t9] at hc' ⊢; rw [up_o (by simp), uT_n (by omega)]; exact hF.a6 l c hl hc'
    | n + 7 => exact trivial
theorem MR_str {F : Prop} {h0 hc : HP} {m nb : Nat} {T L A : Tr0} {b0 : Nat} {x : Int32} (h : MR F h0 hc m T L A nb) (hb0 : b0 < nb)   : MR F h0 (up hc (11, 7, m) b0 x) m (uT T (38 + 2 * b0) x) L A nb := by
  obtain ⟨hM, hF, hR, hnb, hw9, hw18⟩ := h
  have hl18 : ∀ {k : Nat}, k < tn (T 18) → k < 60 := fun h => by omega
  refine ⟨?_, ?_, hR.up (by unfold ofm; simp), hnb, by rw [uT_n (by omega)]; exact hw9, by rw [uT_n (by omega)]; exact hw18⟩
  · intro i
    match i with
    | 0 => exact fun k hk => (up_o (by simp)).trans ((hM.a0 k hk).trans (uT_n (by omega)).symm)
    | 1 => exact fun k hk => (up_o (by simp)).trans ((hM.a1 k hk).trans (uT_n (by omega)).symm)
    | 2 => exact (up_o (by simp)).trans ((hM.a2).trans (uT_n (by omega)).symm)
    | 3 => exact (up_o (by simp)).trans ((hM.a3).trans (uT_n (by omega)).symm)
    | 4 => exact (up_o (by simp)).trans ((hM.a4).trans (uT_n (by omega)).symm)
    | 5 => exact (up_o (by simp)).trans ((hM.a5).trans (uT_n (by omega)).symm)
    | 6 => exact (up_o (by simp)).trans ((hM.a6))
    | 7 => exact (up_o (by simp)).trans ((hM.a7).trans (uT_n (by omega)).symm)
    | 8 => exact (up_o (by simp)).trans ((hM.a8).trans (uT_n (by omega)).symm)
    | 9 => exact (up_o (by simp)).trans ((hM.a9).trans (uT_n (by omega)).symm)
    | 10 => exact fun b hk => (up_o (by simp)).trans ((hM.a10 b hk))
    | 11 => exact fun b hk => (up_o (by simp)).trans ((hM.a11 b hk))
    | 12 =>
      intro b hb
      by_cases q : b = b0
      · rw [q, up_s, uT_e]
      · exact (up_o (by simp [q])).trans ((hM.a12 b hb).trans (uT_n (by omega)).symm)
    | 13 => exact fun b hk => (up_o (by simp)).trans ((hM.a13 b hk).trans (uT_n (by omega)).symm)
    | 14 => show isB (up hc (11, 7, m) b0 x (6, 0, m) 3) = true; rw [up_o (by simp)]; exact hM.a14
    | n + 15 => exact trivial
  · intro f
    have hF := hF f
    have t9 : (uT T (38 + 2 * b0) x) 9 = T 9 := uT_n (by omega)
    have t18 : (uT T (38 + 2 * b0) x) 18 = T 18 := uT_n (by omega)
    intro i
    match i with
    | 0 => exact fun k hk => by rw [t18] at hk; have := hl18 hk; exact (up_o (by simp)).trans ((hF.a0 k hk).trans (uT_n (by omega)).symm)
    | 1 => exact (up_o (by simp)).trans ((hF.a1).trans (uT_n (by omega)).symm)
    | 2 => exact (up_o (by simp)).trans ((hF.a2).trans (uT_n (by omega)).symm)
    | 3 => exact (up_o (by simp)).trans ((hF.a3).trans (uT_n (by omega)).symm)
    | 4 => exact fun k h1 h2 h3 => (up_o (by simp)).trans ((hF.a4 k h1 h2 h3).trans (uT_n (by omega)).symm)
    | 5 => intro l c hl hc'; simp only [t9] at hc' ⊢; rw [up_o (by simp), uT_n (by omega)]; exact hF.a5 l c hl hc'
    | 6 => intro l c hl hc'; simp only [t9] at hc' ⊢; rw [up_o (by simp), uT_n (by omega)]; exact hF.a6 l c hl hc'
    | n + 7 => exact trivial
theorem MR_ofn {F : Prop} {h0 hc : HP} {m nb : Nat} {T L A : Tr0} {b0 : Nat} {x : Int32} (h : MR F h0 hc m T L A nb) (hb0 : b0 < nb)   : MR F h0 (up hc (11, 8, m) b0 x) m (uT T (39 + 2 * b0) x) L A nb := by
  obtain ⟨hM, hF, hR, hnb, hw9, hw18⟩ := h
  have hl18 : ∀ {k : Nat}, k < tn (T 18) → k < 60 := fun h => by omega
  refine ⟨?_, ?_, hR.up (by unfold ofm; simp), hnb, by rw [uT_n (by omega)]; exact hw9, by rw [uT_n (by omega)]; exact hw18⟩
  · intro i
    match i with
    | 0 => exact fun k hk => (up_o (by simp)).trans ((hM.a0 k hk).trans (uT_n (by omega)).symm)
    | 1 => exact fun k hk => (up_o (by simp)).trans ((hM.a1 k hk).trans (uT_n (by omega)).symm)
    | 2 => exact (up_o (by simp)).trans ((hM.a2).trans (uT_n (by omega)).symm)
    | 3 => exact (up_o (by simp)).trans ((hM.a3).trans (uT_n (by omega)).symm)
    | 4 => exact (up_o (by simp)).trans ((hM.a4).trans (uT_n (by omega)).symm)
    | 5 => exact (up_o (by simp)).trans ((hM.a5).trans (uT_n (by omega)).symm)
    | 6 => exact (up_o (by simp)).trans ((hM.a6))
    | 7 => exact (up_o (by simp)).trans ((hM.a7).trans (uT_n (by omega)).symm)
    | 8 => exact (up_o (by simp)).trans ((hM.a8).trans (uT_n (by omega)).symm)
    | 9 => exact (up_o (by simp)).trans ((hM.a9).trans (uT_n (by omega)).symm)
    | 10 => exact fun b hk => (up_o (by simp)).trans ((hM.a10 b hk))
    | 11 => exact fun b hk => (up_o (by simp)).trans ((hM.a11 b hk))
    | 12 => exact fun b hk => (up_o (by simp)).trans ((hM.a12 b hk).trans (uT_n (by omega)).symm)
    | 13 =>
      intro b hb
      by_cases q : b = b0
      · rw [q, up_s, uT_e]
      · exact (up_o (by simp [q])).trans ((hM.a13 b hb).trans (uT_n (by omega)).symm)
    | 14 => show isB (up hc (11, 8, m) b0 x (6, 0, m) 3) = true; rw [up_o (by simp)]; exact hM.a14
    | n + 15 => exact trivial
  · intro f
    have hF := hF f
    have t9 : (uT T (39 + 2 * b0) x) 9 = T 9 := uT_n (by omega)
    have t18 : (uT T (39 + 2 * b0) x) 18 = T 18 := uT_n (by omega)
    intro i
    match i with
    | 0 => exact fun k hk => by rw [t18] at hk; have := hl18 hk; exact (up_o (by simp)).trans ((hF.a0 k hk).trans (uT_n (by omega)).symm)
    | 1 => exact (up_o (by simp)).trans ((hF.a1).trans (uT_n (by omega)).symm)
    | 2 => exact (up_o (by simp)).trans ((hF.a2).trans (uT_n (by omega)).symm)
    | 3 => exact (up_o (by simp)).trans ((hF.a3).trans (uT_n (by omega)).symm)
    | 4 => exact fun k h1 h2 h3 => (up_o (by simp)).trans ((hF.a4 k h1 h2 h3).trans (uT_n (by omega)).symm)
    | 5 => intro l c hl hc'; simp only [t9] at hc' ⊢; rw [up_o (by simp), uT_n (by omega)]; exact hF.a5 l c hl hc'
    | 6 => intro l c hl hc'; simp only [t9] at hc' ⊢; rw [up_o (by simp), uT_n (by omega)]; exact hF.a6 l c hl hc'
    | n + 7 => exact trivial
theorem MR_stp {F : Prop} {h0 hc : HP} {m nb : Nat} {T L A : Tr0} {c0 : Nat} {x : Int32} (h : MR F h0 hc m T L A nb) (hb0 : c0 < 40)   : MR F h0 (up hc (11, 4, m) c0 x) m (uT T (90 + c0) x) L A nb := by
  obtain ⟨hM, hF, hR, hnb, hw9, hw18⟩ := h
  have hl18 : ∀ {k : Nat}, k < tn (T 18) → k < 60 := fun h => by omega
  refine ⟨?_, ?_, hR.up (by unfold ofm; simp), hnb, by rw [uT_n (by omega)]; exact hw9, by rw [uT_n (by omega)]; exact hw18⟩
  · intro i
    match i with
    | 0 => exact fun k hk => (up_o (by simp)).trans ((hM.a0 k hk).trans (uT_n (by omega)).symm)
    | 1 =>
      intro b hb
      by_cases q : b = c0
      · rw [q, up_s, uT_e]
      · exact (up_o (by simp [q])).trans ((hM.a1 b hb).trans (uT_n (by omega)).symm)
    | 2 => exact (up_o (by simp)).trans ((hM.a2).trans (uT_n (by omega)).symm)
    | 3 => exact (up_o (by simp)).trans ((hM.a3).trans (uT_n (by omega)).symm)
    | 4 => exact (up_o (by simp)).trans ((hM.a4).trans (uT_n (by omega)).symm)
    | 5 => exact (up_o (by simp)).trans ((hM.a5).trans (uT_n (by omega)).symm)
    | 6 => exact (up_o (by simp)).trans ((hM.a6))
    | 7 => exact (up_o (by simp)).trans ((hM.a7).trans (uT_n (by omega)).symm)
    | 8 => exact (up_o (by simp)).trans ((hM.a8).trans (uT_n (by omega)).symm)
    | 9 => exact (up_o (by simp)).trans ((hM.a9).trans (uT_n (by omega)).symm)
    | 10 => exact fun b hk => (up_o (by simp)).trans ((hM.a10 b hk))
    | 11 => exact fun b hk => (up_o (by simp)).trans ((hM.a11 b hk))
    | 12 => exact fun b hk => (up_o (by simp)).trans ((hM.a12 b hk).trans (uT_n (by omega)).symm)
    | 13 => exact fun b hk => (up_o (by simp)).trans ((hM.a13 b hk).trans (uT_n (by omega)).symm)
    | 14 => show isB (up hc (11, 4, m) c0 x (6, 0, m) 3) = true; rw [up_o (by simp)]; exact hM.a14
    | n + 15 => exact trivial
  · intro f
    have hF := hF f
    have t9 : (uT T (90 + c0) x) 9 = T 9 := uT_n (by omega)
    have t18 : (uT T (90 + c0) x) 18 = T 18 := uT_n (by omega)
    intro i
    match i with
    | 0 => exact fun k hk => by rw [t18] at hk; have := hl18 hk; exact (up_o (by simp)).trans ((hF.a0 k hk).trans (uT_n (by omega)).symm)
    | 1 => exact (up_o (by simp)).trans ((hF.a1).trans (uT_n (by omega)).symm)
    | 2 => exact (up_o (by simp)).trans ((hF.a2).trans (uT_n (by omega)).symm)
    | 3 => exact (up_o (by simp)).trans ((hF.a3).trans (uT_n (by omega)).symm)
    | 4 => exact fun k h1 h2 h3 => (up_o (by simp)).trans ((hF.a4 k h1 h2 h3).trans (uT_n (by omega)).symm)
    | 5 => intro l c hl hc'; simp only [t9] at hc' ⊢; rw [up_o (by simp), uT_n (by omega)]; exact hF.a5 l c hl hc'
    | 6 => intro l c hl hc'; simp only [t9] at hc' ⊢; rw [up_o (by simp), uT_n (by omega)]; exact hF.a6 l c hl hc'
    | n + 7 => exact trivial
theorem MR_hea {F : Prop} {h0 hc : HP} {m nb : Nat} {T L A : Tr0} {x y : Int32} (h : MR F h0 hc m T L A nb)  (hxy : F → x = y)   : MR F h0 (up hc (6, 0, m) 2 x) m (uT T (7) y) L A nb := by
  obtain ⟨hM, hF, hR, hnb, hw9, hw18⟩ := h
  have hl18 : ∀ {k : Nat}, k < tn (T 18) → k < 60 := fun h => by omega
  refine ⟨?_, ?_, hR.up (by unfold ofm; simp), hnb, by rw [uT_n (by omega)]; exact hw9, by rw [uT_n (by omega)]; exact hw18⟩
  · intro i
    match i with
    | 0 => exact fun k hk => (up_o (by simp)).trans ((hM.a0 k hk).trans (uT_n (by omega)).symm)
    | 1 => exact fun k hk => (up_o (by simp)).trans ((hM.a1 k hk).trans (uT_n (by omega)).symm)
    | 2 => exact (up_o (by simp)).trans ((hM.a2).trans (uT_n (by omega)).symm)
    | 3 => exact (up_o (by simp)).trans ((hM.a3).trans (uT_n (by omega)).symm)
    | 4 => exact (up_o (by simp)).trans ((hM.a4).trans (uT_n (by omega)).symm)
    | 5 => exact (up_o (by simp)).trans ((hM.a5).trans (uT_n (by omega)).symm)
    | 6 => exact (up_o (by simp)).trans ((hM.a6))
    | 7 => exact (up_o (by simp)).trans ((hM.a7).trans (uT_n (by omega)).symm)
    | 8 => exact (up_o (by simp)).trans ((hM.a8).trans (uT_n (by omega)).symm)
    | 9 => exact (up_o (by simp)).trans ((hM.a9).trans (uT_n (by omega)).symm)
    | 10 => exact fun b hk => (up_o (by simp)).trans ((hM.a10 b hk))
    | 11 => exact fun b hk => (up_o (by simp)).trans ((hM.a11 b hk))
    | 12 => exact fun b hk => (up_o (by simp)).trans ((hM.a12 b hk).trans (uT_n (by omega)).symm)
    | 13 => exact fun b hk => (up_o (by simp)).trans ((hM.a13 b hk).trans (uT_n (by omega)).symm)
    | 14 => show isB (up hc (6, 0, m) 2 x (6, 0, m) 3) = true; rw [up_o (by simp)]; exact hM.a14
    | n + 15 => exact trivial
  · intro f
    have hF := hF f
    have hxy := hxy f
    have t9 : (uT T (7) y) 9 = T 9 := uT_n (by omega)
    have t18 : (uT T (7) y) 18 = T 18 := uT_n (by omega)
    intro i
    match i with
    | 0 => exact fun k hk => by rw [t18] at hk; have := hl18 hk; exact (up_o (by simp)).trans ((hF.a0 k hk).trans (uT_n (by omega)).symm)
    | 1 =>
      exact up_s.trans (hxy.trans uT_e.symm)
    | 2 => exact (up_o (by simp)).trans ((hF.a2).trans (uT_n (by omega)).symm)
    | 3 => exact (up_o (by simp)).trans ((hF.a3).trans (uT_n (by omega)).symm)
    | 4 => exact fun k h1 h2 h3 => (up_o (by simp)).trans ((hF.a4 k h1 h2 h3).trans (uT_n (by omega)).symm)
    | 5 => intro l c hl hc'; simp only [t9] at hc' ⊢; rw [up_o (by simp), uT_n (by omega)]; exact hF.a5 l c hl hc'
    | 6 => intro l c hl hc'; simp only [t9] at hc' ⊢; rw [up_o (by simp), uT_n (by omega)]; exact hF.a6 l c hl hc'
    | n + 7 => exact trivial
theorem MR_fwd {F : Prop} {h0 hc : HP} {m nb : Nat} {T L A : Tr0} {x y : Int32} (h : MR F h0 hc m T L A nb) (hxb : isB x = true) (hxy : F → x = y)   : MR F h0 (up hc (6, 0, m) 3 x) m (uT T (8) y) L A nb := by
  obtain ⟨hM, hF, hR, hnb, hw9, hw18⟩ := h
  have hl18 : ∀ {k : Nat}, k < tn (T 18) → k < 60 := fun h => by omega
  refine ⟨?_, ?_, hR.up (by unfold ofm; simp), hnb, by rw [uT_n (by omega)]; exact hw9, by rw [uT_n (by omega)]; exact hw18⟩
  · intro i
    match i with
    | 0 => exact fun k hk => (up_o (by simp)).trans ((hM.a0 k hk).trans (uT_n (by omega)).symm)
    | 1 => exact fun k hk => (up_o (by simp)).trans ((hM.a1 k hk).trans (uT_n (by omega)).symm)
    | 2 => exact (up_o (by simp)).trans ((hM.a2).trans (uT_n (by omega)).symm)
    | 3 => exact (up_o (by simp)).trans ((hM.a3).trans (uT_n (by omega)).symm)
    | 4 => exact (up_o (by simp)).trans ((hM.a4).trans (uT_n (by omega)).symm)
    | 5 => exact (up_o (by simp)).trans ((hM.a5).trans (uT_n (by omega)).symm)
    | 6 => exact (up_o (by simp)).trans ((hM.a6))
    | 7 => exact (up_o (by simp)).trans ((hM.a7).trans (uT_n (by omega)).symm)
    | 8 => exact (up_o (by simp)).trans ((hM.a8).trans (uT_n (by omega)).symm)
    | 9 => exact (up_o (by simp)).trans ((hM.a9).trans (uT_n (by omega)).symm)
    | 10 => exact fun b hk => (up_o (by simp)).trans ((hM.a10 b hk))
    | 11 => exact fun b hk => (up_o (by simp)).trans ((hM.a11 b hk))
    | 12 => exact fun b hk => (up_o (by simp)).trans ((hM.a12 b hk).trans (uT_n (by omega)).symm)
    | 13 => exact fun b hk => (up_o (by simp)).trans ((hM.a13 b hk).trans (uT_n (by omega)).symm)
    | 14 => show isB (up hc (6, 0, m) 3 x (6, 0, m) 3) = true; rw [up_s]; exact hxb
    | n + 15 => exact trivial
  · intro f
    have hF := hF f
    have hxy := hxy f
    have t9 : (uT T (8) y) 9 = T 9 := uT_n (by omega)
    have t18 : (uT T (8) y) 18 = T 18 := uT_n (by omega)
    intro i
    match i with
    | 0 => exact fun k hk => by rw [t18] at hk; have := hl18 hk; exact (up_o (by simp)).trans ((hF.a0 k hk).trans (uT_n (by omega)).symm)
    | 1 => exact (up_o (by simp)).trans ((hF.a1).trans (uT_n (by omega)).symm)
    | 2 =>
      exact up_s.trans (hxy.trans uT_e.symm)
    | 3 => exact (up_o (by simp)).trans ((hF.a3).trans (uT_n (by omega)).symm)
    | 4 => exact fun k h1 h2 h3 => (up_o (by simp)).trans ((hF.a4 k h1 h2 h3).trans (uT_n (by omega)).symm)
    | 5 => intro l c hl hc'; simp only [t9] at hc' ⊢; rw [up_o (by simp), uT_n (by omega)]; exact hF.a5 l c hl hc'
    | 6 => intro l c hl hc'; simp only [t9] at hc' ⊢; rw [up_o (by simp), uT_n (by omega)]; exact hF.a6 l c hl hc'
    | n + 7 => exact trivial
theorem MR_trn {F : Prop} {h0 hc : HP} {m nb : Nat} {T L A : Tr0} {x y : Int32} (h : MR F h0 hc m T L A nb)  (hxy : F → x = y)   : MR F h0 (up hc (6, 0, m) 4 x) m (uT T (33) y) L A nb := by
  obtain ⟨hM, hF, hR, hnb, hw9, hw18⟩ := h
  have hl18 : ∀ {k : Nat}, k < tn (T 18) → k < 60 := fun h => by omega
  refine ⟨?_, ?_, hR.up (by unfold ofm; simp), hnb, by rw [uT_n (by omega)]; exact hw9, by rw [uT_n (by omega)]; exact hw18⟩
  · intro i
    match i with
    | 0 => exact fun k hk => (up_o (by simp)).trans ((hM.a0 k hk).trans (uT_n (by omega)).symm)
    | 1 => exact fun k hk => (up_o (by simp)).trans ((hM.a1 k hk).trans (uT_n (by omega)).symm)
    | 2 => exact (up_o (by simp)).trans ((hM.a2).trans (uT_n (by omega)).symm)
    | 3 => exact (up_o (by simp)).trans ((hM.a3).trans (uT_n (by omega)).symm)
    | 4 => exact (up_o (by simp)).trans ((hM.a4).trans (uT_n (by omega)).symm)
    | 5 => exact (up_o (by simp)).trans ((hM.a5).trans (uT_n (by omega)).symm)
    | 6 => exact (up_o (by simp)).trans ((hM.a6))
    | 7 => exact (up_o (by simp)).trans ((hM.a7).trans (uT_n (by omega)).symm)
    | 8 => exact (up_o (by simp)).trans ((hM.a8).trans (uT_n (by omega)).symm)
    | 9 => exact (up_o (by simp)).trans ((hM.a9).trans (uT_n (by omega)).symm)
    | 10 => exact fun b hk => (up_o (by simp)).trans ((hM.a10 b hk))
    | 11 => exact fun b hk => (up_o (by simp)).trans ((hM.a11 b hk))
    | 12 => exact fun b hk => (up_o (by simp)).trans ((hM.a12 b hk).trans (uT_n (by omega)).symm)
    | 13 => exact fun b hk => (up_o (by simp)).trans ((hM.a13 b hk).trans (uT_n (by omega)).symm)
    | 14 => show isB (up hc (6, 0, m) 4 x (6, 0, m) 3) = true; rw [up_o (by simp)]; exact hM.a14
    | n + 15 => exact trivial
  · intro f
    have hF := hF f
    have hxy := hxy f
    have t9 : (uT T (33) y) 9 = T 9 := uT_n (by omega)
    have t18 : (uT T (33) y) 18 = T 18 := uT_n (by omega)
    intro i
    match i with
    | 0 => exact fun k hk => by rw [t18] at hk; have := hl18 hk; exact (up_o (by simp)).trans ((hF.a0 k hk).trans (uT_n (by omega)).symm)
    | 1 => exact (up_o (by simp)).trans ((hF.a1).trans (uT_n (by omega)).symm)
    | 2 => exact (up_o (by simp)).trans ((hF.a2).trans (uT_n (by omega)).symm)
    | 3 =>
      exact up_s.trans (hxy.trans uT_e.symm)
    | 4 => exact fun k h1 h2 h3 => (up_o (by simp)).trans ((hF.a4 k h1 h2 h3).trans (uT_n (by omega)).symm)
    | 5 => intro l c hl hc'; simp only [t9] at hc' ⊢; rw [up_o (by simp), uT_n (by omega)]; exact hF.a5 l c hl hc'
    | 6 => intro l c hl hc'; simp only [t9] at hc' ⊢; rw [up_o (by simp), uT_n (by omega)]; exact hF.a6 l c hl hc'
    | n + 7 => exact trivial
theorem MR_tal {F : Prop} {h0 hc : HP} {m nb : Nat} {T L A : Tr0} {k0 : Nat} {x y : Int32} (h : MR F h0 hc m T L A nb) (hk0 : k0 < 14) (hk1 : k0 ≠ 11) (hxy : F → x = y)   : MR F h0 (up hc (11, 9, m) k0 x) m (uT T (22 + k0) y) L A nb := by
  obtain ⟨hM, hF, hR, hnb, hw9, hw18⟩ := h
  have hl18 : ∀ {k : Nat}, k < tn (T 18) → k < 60 := fun h => by omega
  refine ⟨?_, ?_, hR.up (by unfold ofm; simp), hnb, by rw [uT_n (by omega)]; exact hw9, by rw [uT_n (by omega)]; exact hw18⟩
  · intro i
    match i with
    | 0 => exact fun k hk => (up_o (by simp)).trans ((hM.a0 k hk).trans (uT_n (by omega)).symm)
    | 1 => exact fun k hk => (up_o (by simp)).trans ((hM.a1 k hk).trans (uT_n (by omega)).symm)
    | 2 => exact (up_o (by simp)).trans ((hM.a2).trans (uT_n (by omega)).symm)
    | 3 => exact (up_o (by simp)).trans ((hM.a3).trans (uT_n (by omega)).symm)
    | 4 => exact (up_o (by simp)).trans ((hM.a4).trans (uT_n (by omega)).symm)
    | 5 => exact (up_o (by simp)).trans ((hM.a5).trans (uT_n (by omega)).symm)
    | 6 => exact (up_o (by simp)).trans ((hM.a6))
    | 7 => exact (up_o (by simp)).trans ((hM.a7).trans (uT_n (by omega)).symm)
    | 8 => exact (up_o (by simp)).trans ((hM.a8).trans (uT_n (by omega)).symm)
    | 9 => exact (up_o (by simp)).trans ((hM.a9).trans (uT_n (by omega)).symm)
    | 10 => exact fun b hk => (up_o (by simp)).trans ((hM.a10 b hk))
    | 11 => exact fun b hk => (up_o (by simp)).trans ((hM.a11 b hk))
    | 12 => exact fun b hk => (up_o (by simp)).trans ((hM.a12 b hk).trans (uT_n (by omega)).symm)
    | 13 => exact fun b hk => (up_o (by simp)).trans ((hM.a13 b hk).trans (uT_n (by omega)).symm)
    | 14 => show isB (up hc (11, 9, m) k0 x (6, 0, m) 3) = true; rw [up_o (by simp)]; exact hM.a14
    | n + 15 => exact trivial
  · intro f
    have hF := hF f
    have hxy := hxy f
    have t9 : (uT T (22 + k0) y) 9 = T 9 := uT_n (by omega)
    have t18 : (uT T (22 + k0) y) 18 = T 18 := uT_n (by omega)
    intro i
    match i with
    | 0 => exact fun k hk => by rw [t18] at hk; have := hl18 hk; exact (up_o (by simp)).trans ((hF.a0 k hk).trans (uT_n (by omega)).symm)
    | 1 => exact (up_o (by simp)).trans ((hF.a1).trans (uT_n (by omega)).symm)
    | 2 => exact (up_o (by simp)).trans ((hF.a2).trans (uT_n (by omega)).symm)
    | 3 => exact (up_o (by simp)).trans ((hF.a3).trans (uT_n (by omega)).symm)
    | 4 =>
      intro k h1 h2 h3
      by_cases q : k = k0
      · rw [q, up_s, uT_e]; exact hxy
      · exact (up_o (by simp [q])).trans ((hF.a4 k h1 h2 h3).trans (uT_n (by omega)).symm)
    | 5 => intro l c hl hc'; simp only [t9] at hc' ⊢; rw [up_o (by simp), uT_n (by omega)]; exact hF.a5 l c hl hc'
    | 6 => intro l c hl hc'; simp only [t9] at hc' ⊢; rw [up_o (by simp), uT_n (by omega)]; exact hF.a6 l c hl hc'
    | n + 7 => exact trivial
theorem MR_ink {F : Prop} {h0 hc : HP} {m nb : Nat} {T L A : Tr0} {k0 : Nat} {x y : Int32} (h : MR F h0 hc m T L A nb) (hk0 : k0 < 60) (hxy : F → x = y)   : MR F h0 (up hc (11, 1, m) k0 x) m (uT T (130 + k0) y) L A nb := by
  obtain ⟨hM, hF, hR, hnb, hw9, hw18⟩ := h
  have hl18 : ∀ {k : Nat}, k < tn (T 18) → k < 60 := fun h => by omega
  refine ⟨?_, ?_, hR.up (by unfold ofm; simp), hnb, by rw [uT_n (by omega)]; exact hw9, by rw [uT_n (by omega)]; exact hw18⟩
  · intro i
    match i with
    | 0 => exact fun k hk => (up_o (by simp)).trans ((hM.a0 k hk).trans (uT_n (by omega)).symm)
    | 1 => exact fun k hk => (up_o (by simp)).trans ((hM.a1 k hk).trans (uT_n (by omega)).symm)
    | 2 => exact (up_o (by simp)).trans ((hM.a2).trans (uT_n (by omega)).symm)
    | 3 => exact (up_o (by simp)).trans ((hM.a3).trans (uT_n (by omega)).symm)
    | 4 => exact (up_o (by simp)).trans ((hM.a4).trans (uT_n (by omega)).symm)
    | 5 => exact (up_o (by simp)).trans ((hM.a5).trans (uT_n (by omega)).symm)
    | 6 => exact (up_o (by simp)).trans ((hM.a6))
    | 7 => exact (up_o (by simp)).trans ((hM.a7).trans (uT_n (by omega)).symm)
    | 8 => exact (up_o (by simp)).trans ((hM.a8).trans (uT_n (by omega)).symm)
    | 9 => exact (up_o (by simp)).trans ((hM.a9).trans (uT_n (by omega)).symm)
    | 10 => exact fun b hk => (up_o (by simp)).trans ((hM.a10 b hk))
    | 11 => exact fun b hk => (up_o (by simp)).trans ((hM.a11 b hk))
    | 12 => exact fun b hk => (up_o (by simp)).trans ((hM.a12 b hk).trans (uT_n (by omega)).symm)
    | 13 => exact fun b hk => (up_o (by simp)).trans ((hM.a13 b hk).trans (uT_n (by omega)).symm)
    | 14 => show isB (up hc (11, 1, m) k0 x (6, 0, m) 3) = true; rw [up_o (by simp)]; exact hM.a14
    | n + 15 => exact trivial
  · intro f
    have hF := hF f
    have hxy := hxy f
    have t9 : (uT T (130 + k0) y) 9 = T 9 := uT_n (by omega)
    have t18 : (uT T (130 + k0) y) 18 = T 18 := uT_n (by omega)
    intro i
    match i with
    | 0 =>
      intro k hk
      rw [t18] at hk
      by_cases q : k = k0
      · rw [q, up_s, uT_e]; exact hxy
      · exact (up_o (by simp [q])).trans ((hF.a0 k hk).trans (uT_n (by omega)).symm)
    | 1 => exact (up_o (by simp)).trans ((hF.a1).trans (uT_n (by omega)).symm)
    | 2 => exact (up_o (by simp)).trans ((hF.a2).trans (uT_n (by omega)).symm)
    | 3 => exact (up_o (by simp)).trans ((hF.a3).trans (uT_n (by omega)).symm)
    | 4 => exact fun k h1 h2 h3 => (up_o (by simp)).trans ((hF.a4 k h1 h2 h3).trans (uT_n (by omega)).symm)
    | 5 => intro l c hl hc'; simp only [t9] at hc' ⊢; rw [up_o (by simp), uT_n (by omega)]; exact hF.a5 l c hl hc'
    | 6 => intro l c hl hc'; simp only [t9] at hc' ⊢; rw [up_o (by simp), uT_n (by omega)]; exact hF.a6 l c hl hc'
    | n + 7 => exact trivial
theorem plc_inj {w l c l0 c0 : Nat} (h : c < w) (h0 : c0 < w) (e : l * w + c = l0 * w + c0) : l = l0 ∧ c = c0 := by
  have e1 : (l * w + c) / w = l := by rw [Nat.mul_comm, Nat.mul_add_div (by omega), Nat.div_eq_of_lt h, Nat.add_zero]
  have e2 : (l0 * w + c0) / w = l0 := by rw [Nat.mul_comm, Nat.mul_add_div (by omega), Nat.div_eq_of_lt h0, Nat.add_zero]
  have e3 : l = l0 := by rw [← e1, e, e2]
  subst e3
  exact ⟨rfl, by omega⟩
theorem MR_sgn {F : Prop} {h0 hc : HP} {m nb : Nat} {T L A : Tr0} {l0 c0 : Nat} {x y : Int32} (h : MR F h0 hc m T L A nb) (hl0 : l0 < 12) (hc0 : c0 < tn (T 9)) (hxy : F → x = sg y)   : MR F h0 (up hc (11, 2, m) (l0 * tn (T 9) + c0) x) m (uT T (190 + 40 * l0 + c0) y) L A nb := by
  obtain ⟨hM, hF, hR, hnb, hw9, hw18⟩ := h
  have hl18 : ∀ {k : Nat}, k < tn (T 18) → k < 60 := fun h => by omega
  refine ⟨?_, ?_, hR.up (by unfold ofm; simp), hnb, by rw [uT_n (by omega)]; exact hw9, by rw [uT_n (by omega)]; exact hw18⟩
  · intro i
    match i with
    | 0 => exact fun k hk => (up_o (by simp)).trans ((hM.a0 k hk).trans (uT_n (by omega)).symm)
    | 1 => exact fun k hk => (up_o (by simp)).trans ((hM.a1 k hk).trans (uT_n (by omega)).symm)
    | 2 => exact (up_o (by simp)).trans ((hM.a2).trans (uT_n (by omega)).symm)
    | 3 => exact (up_o (by simp)).trans ((hM.a3).trans (uT_n (by omega)).symm)
    | 4 => exact (up_o (by simp)).trans ((hM.a4).trans (uT_n (by omega)).symm)
    | 5 => exact (up_o (by simp)).trans ((hM.a5).trans (uT_n (by omega)).symm)
    | 6 => exact (up_o (by simp)).trans ((hM.a6))
    | 7 => exact (up_o (by simp)).trans ((hM.a7).trans (uT_n (by omega)).symm)
    | 8 => exact (up_o (by simp)).trans ((hM.a8).trans (uT_n (by omega)).symm)
    | 9 => exact (up_o (by simp)).trans ((hM.a9).trans (uT_n (by omega)).symm)
    | 10 => exact fun b hk => (up_o (by simp)).trans ((hM.a10 b hk))
    | 11 => exact fun b hk => (up_o (by simp)).trans ((hM.a11 b hk))
    | 12 => exact fun b hk => (up_o (by simp)).trans ((hM.a12 b hk).trans (uT_n (by omega)).symm)
    | 13 => exact fun b hk => (up_o (by simp)).trans ((hM.a13 b hk).trans (uT_n (by omega)).symm)
    | 14 => show isB (up hc (11, 2, m) (l0 * tn (T 9) + c0) x (6, 0, m) 3) = true; rw [up_o (by simp)]; exact hM.a14
    | n + 15 => exact trivial
  · intro f
    have hF := hF f
    have hxy := hxy f
    have t9 : (uT T (190 + 40 * l0 + c0) y) 9 = T 9 := uT_n (by omega)
    have t18 : (uT T (190 + 40 * l0 + c0) y) 18 = T 18 := uT_n (by omega)
    intro i
    match i with
    | 0 => exact fun k hk => by rw [t18] at hk; have := hl18 hk; exact (up_o (by simp)).trans ((hF.a0 k hk).trans (uT_n (by omega)).symm)
    | 1 => exact (up_o (by simp)).trans ((hF.a1).trans (uT_n (by omega)).symm)
    | 2 => exact (up_o (by simp)).trans ((hF.a2).trans (uT_n (by omega)).symm)
    | 3 => exact (up_o (by simp)).trans ((hF.a3).trans (uT_n (by omega)).symm)
    | 4 => exact fun k h1 h2 h3 => (up_o (by simp)).trans ((hF.a4 k h1 h2 h3).trans (uT_n (by omega)).symm)
    | 5 =>
      intro l c hl hc'; simp only [t9] at hc' ⊢
      by_cases q : l = l0 ∧ c = c0
      · rw [q.1, q.2, up_s, uT_e]; exact hxy
      · have q2 : l * tn (T 9) + c ≠ l0 * tn (T 9) + c0 := fun e => q (plc_inj hc' hc0 e)
        rw [up_o (fun e => q2 e.2), uT_n (by omega)]; exact hF.a5 l c hl hc'
    | 6 => intro l c hl hc'; simp only [t9] at hc' ⊢; rw [up_o (by simp), uT_n (by omega)]; exact hF.a6 l c hl hc'
    | n + 7 => exact trivial
theorem MR_drk {F : Prop} {h0 hc : HP} {m nb : Nat} {T L A : Tr0} {l0 c0 : Nat} {x y : Int32} (h : MR F h0 hc m T L A nb) (hl0 : l0 < 12) (hc0 : c0 < tn (T 9)) (hxy : F → x = y)   : MR F h0 (up hc (11, 3, m) (l0 * tn (T 9) + c0) x) m (uT T (670 + 40 * l0 + c0) y) L A nb := by
  obtain ⟨hM, hF, hR, hnb, hw9, hw18⟩ := h
  have hl18 : ∀ {k : Nat}, k < tn (T 18) → k < 60 := fun h => by omega
  refine ⟨?_, ?_, hR.up (by unfold ofm; simp), hnb, by rw [uT_n (by omega)]; exact hw9, by rw [uT_n (by omega)]; exact hw18⟩
  · intro i
    match i with
    | 0 => exact fun k hk => (up_o (by simp)).trans ((hM.a0 k hk).trans (uT_n (by omega)).symm)
    | 1 => exact fun k hk => (up_o (by simp)).trans ((hM.a1 k hk).trans (uT_n (by omega)).symm)
    | 2 => exact (up_o (by simp)).trans ((hM.a2).trans (uT_n (by omega)).symm)
    | 3 => exact (up_o (by simp)).trans ((hM.a3).trans (uT_n (by omega)).symm)
    | 4 => exact (up_o (by simp)).trans ((hM.a4).trans (uT_n (by omega)).symm)
    | 5 => exact (up_o (by simp)).trans ((hM.a5).trans (uT_n (by omega)).symm)
    | 6 => exact (up_o (by simp)).trans ((hM.a6))
    | 7 => exact (up_o (by simp)).trans ((hM.a7).trans (uT_n (by omega)).symm)
    | 8 => exact (up_o (by simp)).trans ((hM.a8).trans (uT_n (by omega)).symm)
    | 9 => exact (up_o (by simp)).trans ((hM.a9).trans (uT_n (by omega)).symm)
    | 10 => exact fun b hk => (up_o (by simp)).trans ((hM.a10 b hk))
    | 11 => exact fun b hk => (up_o (by simp)).trans ((hM.a11 b hk))
    | 12 => exact fun b hk => (up_o (by simp)).trans ((hM.a12 b hk).trans (uT_n (by omega)).symm)
    | 13 => exact fun b hk => (up_o (by simp)).trans ((hM.a13 b hk).trans (uT_n (by omega)).symm)
    | 14 => show isB (up hc (11, 3, m) (l0 * tn (T 9) + c0) x (6, 0, m) 3) = true; rw [up_o (by simp)]; exact hM.a14
    | n + 15 => exact trivial
  · intro f
    have hF := hF f
    have hxy := hxy f
    have t9 : (uT T (670 + 40 * l0 + c0) y) 9 = T 9 := uT_n (by omega)
    have t18 : (uT T (670 + 40 * l0 + c0) y) 18 = T 18 := uT_n (by omega)
    intro i
    match i with
    | 0 => exact fun k hk => by rw [t18] at hk; have := hl18 hk; exact (up_o (by simp)).trans ((hF.a0 k hk).trans (uT_n (by omega)).symm)
    | 1 => exact (up_o (by simp)).trans ((hF.a1).trans (uT_n (by omega)).symm)
    | 2 => exact (up_o (by simp)).trans ((hF.a2).trans (uT_n (by omega)).symm)
    | 3 => exact (up_o (by simp)).trans ((hF.a3).trans (uT_n (by omega)).symm)
    | 4 => exact fun k h1 h2 h3 => (up_o (by simp)).trans ((hF.a4 k h1 h2 h3).trans (uT_n (by omega)).symm)
    | 5 => intro l c hl hc'; simp only [t9] at hc' ⊢; rw [up_o (by simp), uT_n (by omega)]; exact hF.a5 l c hl hc'
    | 6 =>
      intro l c hl hc'; simp only [t9] at hc' ⊢
      by_cases q : l = l0 ∧ c = c0
      · rw [q.1, q.2, up_s, uT_e]; exact hxy
      · have q2 : l * tn (T 9) + c ≠ l0 * tn (T 9) + c0 := fun e => q (plc_inj hc' hc0 e)
        rw [up_o (fun e => q2 e.2), uT_n (by omega)]; exact hF.a6 l c hl hc'
    | n + 7 => exact trivial
theorem MR_r7 {F : Prop} {h0 hc : HP} {m nb : Nat} {T L A : Tr0} {x : Int32} (h : MR F h0 hc m T L A nb)    : MR F h0 (up hc (3, 0, m) 7 x) m T L A nb := by
  obtain ⟨hM, hF, hR, hnb, hw9, hw18⟩ := h
  refine ⟨?_, ?_, hR.up (by unfold ofm; simp), hnb, hw9, hw18⟩
  · intro i
    match i with
    | 0 => exact fun k hk => (up_o (by simp)).trans ((hM.a0 k hk))
    | 1 => exact fun k hk => (up_o (by simp)).trans ((hM.a1 k hk))
    | 2 => exact (up_o (by simp)).trans ((hM.a2))
    | 3 => exact (up_o (by simp)).trans ((hM.a3))
    | 4 => exact (up_o (by simp)).trans ((hM.a4))
    | 5 => exact (up_o (by simp)).trans ((hM.a5))
    | 6 => exact (up_o (by simp)).trans ((hM.a6))
    | 7 => exact (up_o (by simp)).trans ((hM.a7))
    | 8 => exact (up_o (by simp)).trans ((hM.a8))
    | 9 => exact (up_o (by simp)).trans ((hM.a9))
    | 10 => exact fun b hk => (up_o (by simp)).trans ((hM.a10 b hk))
    | 11 => exact fun b hk => (up_o (by simp)).trans ((hM.a11 b hk))
    | 12 => exact fun b hk => (up_o (by simp)).trans ((hM.a12 b hk))
    | 13 => exact fun b hk => (up_o (by simp)).trans ((hM.a13 b hk))
    | 14 => show isB (up hc (3, 0, m) 7 x (6, 0, m) 3) = true; rw [up_o (by simp)]; exact hM.a14
    | n + 15 => exact trivial
  · intro f
    have hF := hF f
    intro i
    match i with
    | 0 => exact fun k hk => (up_o (by simp)).trans (hF.a0 k hk)
    | 1 => exact (up_o (by simp)).trans ((hF.a1))
    | 2 => exact (up_o (by simp)).trans ((hF.a2))
    | 3 => exact (up_o (by simp)).trans ((hF.a3))
    | 4 => exact fun k h1 h2 h3 => (up_o (by simp)).trans ((hF.a4 k h1 h2 h3))
    | 5 => exact fun l c hl hc' => (up_o (by simp)).trans (hF.a5 l c hl hc')
    | 6 => exact fun l c hl hc' => (up_o (by simp)).trans (hF.a6 l c hl hc')
    | n + 7 => exact trivial
theorem MR_r8 {F : Prop} {h0 hc : HP} {m nb : Nat} {T L A : Tr0} {x : Int32} (h : MR F h0 hc m T L A nb)    : MR F h0 (up hc (3, 0, m) 8 x) m T L A nb := by
  obtain ⟨hM, hF, hR, hnb, hw9, hw18⟩ := h
  refine ⟨?_, ?_, hR.up (by unfold ofm; simp), hnb, hw9, hw18⟩
  · intro i
    match i with
    | 0 => exact fun k hk => (up_o (by simp)).trans ((hM.a0 k hk))
    | 1 => exact fun k hk => (up_o (by simp)).trans ((hM.a1 k hk))
    | 2 => exact (up_o (by simp)).trans ((hM.a2))
    | 3 => exact (up_o (by simp)).trans ((hM.a3))
    | 4 => exact (up_o (by simp)).trans ((hM.a4))
    | 5 => exact (up_o (by simp)).trans ((hM.a5))
    | 6 => exact (up_o (by simp)).trans ((hM.a6))
    | 7 => exact (up_o (by simp)).trans ((hM.a7))
    | 8 => exact (up_o (by simp)).trans ((hM.a8))
    | 9 => exact (up_o (by simp)).trans ((hM.a9))
    | 10 => exact fun b hk => (up_o (by simp)).trans ((hM.a10 b hk))
    | 11 => exact fun b hk => (up_o (by simp)).trans ((hM.a11 b hk))
    | 12 => exact fun b hk => (up_o (by simp)).trans ((hM.a12 b hk))
    | 13 => exact fun b hk => (up_o (by simp)).trans ((hM.a13 b hk))
    | 14 => show isB (up hc (3, 0, m) 8 x (6, 0, m) 3) = true; rw [up_o (by simp)]; exact hM.a14
    | n + 15 => exact trivial
  · intro f
    have hF := hF f
    intro i
    match i with
    | 0 => exact fun k hk => (up_o (by simp)).trans (hF.a0 k hk)
    | 1 => exact (up_o (by simp)).trans ((hF.a1))
    | 2 => exact (up_o (by simp)).trans ((hF.a2))
    | 3 => exact (up_o (by simp)).trans ((hF.a3))
    | 4 => exact fun k h1 h2 h3 => (up_o (by simp)).trans ((hF.a4 k h1 h2 h3))
    | 5 => exact fun l c hl hc' => (up_o (by simp)).trans (hF.a5 l c hl hc')
    | 6 => exact fun l c hl hc' => (up_o (by simp)).trans (hF.a6 l c hl hc')
    | n + 7 => exact trivial
theorem MR_r9 {F : Prop} {h0 hc : HP} {m nb : Nat} {T L A : Tr0} {x : Int32} (h : MR F h0 hc m T L A nb)    : MR F h0 (up hc (3, 0, m) 9 x) m T L A nb := by
  obtain ⟨hM, hF, hR, hnb, hw9, hw18⟩ := h
  refine ⟨?_, ?_, hR.up (by unfold ofm; simp), hnb, hw9, hw18⟩
  · intro i
    match i with
    | 0 => exact fun k hk => (up_o (by simp)).trans ((hM.a0 k hk))
    | 1 => exact fun k hk => (up_o (by simp)).trans ((hM.a1 k hk))
    | 2 => exact (up_o (by simp)).trans ((hM.a2))
    | 3 => exact (up_o (by simp)).trans ((hM.a3))
    | 4 => exact (up_o (by simp)).trans ((hM.a4))
    | 5 => exact (up_o (by simp)).trans ((hM.a5))
    | 6 => exact (up_o (by simp)).trans ((hM.a6))
    | 7 => exact (up_o (by simp)).trans ((hM.a7))
    | 8 => exact (up_o (by simp)).trans ((hM.a8))
    | 9 => exact (up_o (by simp)).trans ((hM.a9))
    | 10 => exact fun b hk => (up_o (by simp)).trans ((hM.a10 b hk))
    | 11 => exact fun b hk => (up_o (by simp)).trans ((hM.a11 b hk))
    | 12 => exact fun b hk => (up_o (by simp)).trans ((hM.a12 b hk))
    | 13 => exact fun b hk => (up_o (by simp)).trans ((hM.a13 b hk))
    | 14 => show isB (up hc (3, 0, m) 9 x (6, 0, m) 3) = true; rw [up_o (by simp)]; exact hM.a14
    | n + 15 => exact trivial
  · intro f
    have hF := hF f
    intro i
    match i with
    | 0 => exact fun k hk => (up_o (by simp)).trans (hF.a0 k hk)
    | 1 => exact (up_o (by simp)).trans ((hF.a1))
    | 2 => exact (up_o (by simp)).trans ((hF.a2))
    | 3 => exact (up_o (by simp)).trans ((hF.a3))
    | 4 => exact fun k h1 h2 h3 => (up_o (by simp)).trans ((hF.a4 k h1 h2 h3))
    | 5 => exact fun l c hl hc' => (up_o (by simp)).trans (hF.a5 l c hl hc')
    | 6 => exact fun l c hl hc' => (up_o (by simp)).trans (hF.a6 l c hl hc')
    | n + 7 => exact trivial
theorem MR_row {F : Prop} {h0 hc : HP} {m nb : Nat} {T L A : Tr0} (h : MR F h0 hc m T L A nb) {k : Nat} {y : Int32} (hk : k = 36 ∨ k = 37) : MR F h0 hc m (uT T k y) L A nb := by
  obtain ⟨hM, hF, hR, hnb, hw9, hw18⟩ := h
  have hl18 : ∀ {k : Nat}, k < tn (T 18) → k < 60 := fun h => by omega
  refine ⟨?_, ?_, hR, hnb, by rw [uT_n (by omega)]; exact hw9, by rw [uT_n (by omega)]; exact hw18⟩
  · intro i
    match i with
    | 0 => exact fun k hk' => (hM.a0 k hk').trans (uT_n (by omega)).symm
    | 1 => exact fun k hk' => (hM.a1 k hk').trans (uT_n (by omega)).symm
    | 2 => exact (hM.a2).trans (uT_n (by omega)).symm
    | 3 => exact (hM.a3).trans (uT_n (by omega)).symm
    | 4 => exact (hM.a4).trans (uT_n (by omega)).symm
    | 5 => exact (hM.a5).trans (uT_n (by omega)).symm
    | 6 => exact (hM.a6)
    | 7 => exact (hM.a7).trans (uT_n (by omega)).symm
    | 8 => exact (hM.a8).trans (uT_n (by omega)).symm
    | 9 => exact (hM.a9).trans (uT_n (by omega)).symm
    | 10 => exact fun b hk' => (hM.a10 b hk')
    | 11 => exact fun b hk' => (hM.a11 b hk')
    | 12 => exact fun b hk' => (hM.a12 b hk').trans (uT_n (by omega)).symm
    | 13 => exact fun b hk' => (hM.a13 b hk').trans (uT_n (by omega)).symm
    | 14 => exact hM.a14
    | n + 15 => exact trivial
  · intro f
    have hF := hF f
    have t9 : (uT T k y) 9 = T 9 := uT_n (by omega)
    have t18 : (uT T k y) 18 = T 18 := uT_n (by omega)
    intro i
    match i with
    | 0 => exact fun k hk => by rw [t18] at hk; have := hl18 hk; exact (hF.a0 k hk).trans (uT_n (by omega)).symm
    | 1 => exact hF.a1.trans (uT_n (by omega)).symm
    | 2 => exact hF.a2.trans (uT_n (by omega)).symm
    | 3 => exact hF.a3.trans (uT_n (by omega)).symm
    | 4 => exact fun k h1 h2 h3 => (hF.a4 k h1 h2 h3).trans (uT_n (by omega)).symm
    | 5 => intro l c hl hc'; simp only [t9] at hc' ⊢; rw [uT_n (by omega)]; exact hF.a5 l c hl hc'
    | 6 => intro l c hl hc'; simp only [t9] at hc' ⊢; rw [uT_n (by omega)]; exact hF.a6 l c hl hc'
    | n + 7 => exact trivial
end
