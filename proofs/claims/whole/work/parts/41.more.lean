/-! ===== stops, margins, settings, rests, ribbons, pages ===== -/
section
theorem MR_set {F : Prop} {h0 hc : HP} {m nb : Nat} {T L A : Tr0} {k0 : Nat} {x : Int32} (h : MR F h0 hc m T L A nb) (hk0 : 2 ≤ k0 ∧ k0 < 13 ∧ k0 ≠ 9)   : MR F h0 (up hc (11, 0, m) k0 x) m (uT T (9 + k0) x) L A nb := by
  obtain ⟨hM, hF, hR, hnb, hw9, hw18⟩ := h
  have hl18 : ∀ {k : Nat}, k < tn (T 18) → k < 60 := fun h => by omega
  refine ⟨?_, ?_, hR.up (by unfold ofm; simp), hnb, by rw [uT_n (by omega)]; exact hw9, by rw [uT_n (by omega)]; exact hw18⟩
  · intro i
    match i with
    | 0 =>
      intro k hk
      by_cases q : k = k0
      · rw [q, up_s, uT_e]
      · exact (up_o (by simp [q])).trans ((hM.a0 k hk).trans (uT_n (by omega)).symm)
    | 1 => exact fun k hk => (up_o (by simp)).trans ((hM.a1 k hk).trans (uT_n (by omega)).symm)
    | 2 => exact (up_o (by simp)).trans ((hM.a2).trans (uT_n (by omega)).symm)
    | 3 => exact (up_o (by simp)).trans ((hM.a3).trans (uT_n (by omega)).symm)
    | 4 => exact (up_o (by simp)).trans ((hM.a4).trans (uT_n (by omega)).symm)
    | 5 => exact (up_o (by simp)).trans ((hM.a5).trans (uT_n (by omega)).symm)
    | 6 => exact (up_o (by simp)).trans ((hM.a6))
    | 7 => exact (up_o (by simp)).trans ((hM.a7).trans (uT_n (by omega)).symm)
    | 8 => exact (up_o (by simp)).trans ((hM.a8).trans (uT_n (by omega)).symm)
    | 9 => exact (up_o (by simp)).trans ((hM.a9).trans (uT_n (by omega)).symm)
    | 10 => exact fun b hk => (up_o (by simp)).trans ((hM.a10 b hk))
    | 11 => exact fun b hk => (up_o (by simp)).trans ((hM.a11 b hk))
    | 12 => exact fun b hk => (up_o (by simp)).trans ((hM.a12 b hk).trans (uT_n (by omega)).symm)
    | 13 => exact fun b hk => (up_o (by simp)).trans ((hM.a13 b hk).trans (uT_n (by omega)).symm)
    | 14 => show isB (up hc (11, 0, m) k0 x (6, 0, m) 3) = true; rw [up_o (by simp)]; exact hM.a14
    | n + 15 => exact trivial
  · intro f
    have hF := hF f
    have t9 : (uT T (9 + k0) x) 9 = T 9 := uT_n (by omega)
    have t18 : (uT T (9 + k0) x) 18 = T 18 := uT_n (by omega)
    intro i
    match i with
    | 0 => exact fun k hk => by rw [t18] at hk; have := hl18 hk; exact (up_o (by simp)).trans ((hF.a0 k hk).trans (uT_n (by omega)).symm)
    | 1 => exact (up_o (by simp)).trans ((hF.a1).trans (uT_n (by omega)).symm)
    | 2 => exact (up_o (by simp)).trans ((hF.a2).trans (uT_n (by omega)).symm)
    | 3 => exact (up_o (by simp)).trans ((hF.a3).trans (uT_n (by omega)).symm)
    | 4 => exact fun k h1 h2 h3 => (up_o (by simp)).trans ((hF.a4 k h1 h2 h3).trans (uT_n (by omega)).symm)
    | 5 => intro l c hl hc'; simp only [t9] at hc' ⊢; rw [up_o (by simp), uT_n (by omega)]; exact hF.a5 l c hl hc'
    | 6 => intro l c hl hc'; simp only [t9] at hc' ⊢; rw [up_o (by simp), uT_n (by omega)]; exact hF.a6 l c hl hc'
    | n + 7 => exact trivial
theorem WF_s11 {T L A : Tr0} {tb nb : Nat} (hW : WF tb T L A nb) {x : Int32} (h1 : isN x) (h2 : tn x + max 1 (tn (T 13)) ≤ tn (T 12)) : WF tb (uT T 11 x) L A nb := by
  have e : ∀ j, j ≠ 11 → uT T 11 x j = T j := fun j h => uT_n h
  intro i
  match i with
  | 0 => have h := hW 0; simp only [wfp] at h ⊢; rw [e 9 (by omega)]; exact h
  | 1 => have h := hW 1; simp only [wfp] at h ⊢; rw [e 10 (by omega)]; exact h
  | 2 => simp only [wfp]; have h := hW.mg; rw [uT_e]; rw [e 12 (by omega)]; rw [e 13 (by omega)]; rw [e 9 (by omega)]; exact ⟨h1, h.2.1, h.2.2.1, by omega, by omega, by omega⟩
  | 3 => have h := hW 3; simp only [wfp] at h ⊢; rw [e 14 (by omega)]; exact h
  | 4 => have h := hW 4; simp only [wfp] at h ⊢; rw [e 15 (by omega)]; exact h
  | 5 => have h := hW 5; simp only [wfp] at h ⊢; rw [e 16 (by omega)]; rw [e 17 (by omega)]; exact h
  | 6 => have h := hW 6; simp only [wfp] at h ⊢; rw [e 18 (by omega)]; exact h
  | 7 => have h := hW 7; simp only [wfp] at h ⊢; rw [e 19 (by omega)]; exact h
  | 8 => have h := hW 8; simp only [wfp] at h ⊢; rw [e 20 (by omega)]; rw [e 21 (by omega)]; exact h
  | 9 => have h := hW 9; simp only [wfp] at h ⊢; rw [e 0 (by omega)]; rw [e 10 (by omega)]; exact h
  | 10 => have h := hW 10; simp only [wfp] at h ⊢; rw [e 1 (by omega)]; rw [e 9 (by omega)]; exact h
  | 11 => have h := hW 11; simp only [wfp] at h ⊢; rw [e 2 (by omega)]; exact h
  | 12 => have h := hW 12; simp only [wfp] at h ⊢; rw [e 3 (by omega)]; exact h
  | 13 => have h := hW 13; simp only [wfp] at h ⊢; rw [e 4 (by omega)]; exact h
  | 14 => have h := hW 14; simp only [wfp] at h ⊢; rw [e 5 (by omega)]; rw [e 6 (by omega)]; exact h
  | 15 => have h := hW 15; simp only [wfp] at h ⊢; rw [e 7 (by omega)]; rw [e 18 (by omega)]; exact h
  | 16 => have h := hW 16; simp only [wfp] at h ⊢; rw [e 8 (by omega)]; exact h
  | 17 => exact hW.nb
  | 18 =>
    intro b hb; have hnb := hW.nb; rw [e (38 + 2 * b) (by omega), e 3 (by omega)]; exact hW.st b hb
  | 19 =>
    exact hW.le
  | 20 =>
    exact hW.an
  | 21 =>
    intro c hc; rw [e (90 + c) (by omega)]; exact hW.sp c hc
  | 22 =>
    intro c hc; rw [e (130 + c) (by omega)]; exact hW.ii c hc
  | 23 =>
    intro l c hl hc; rw [e (190 + 40 * l + c) (by omega)]; exact hW.sn l c hl hc
  | 24 =>
    intro l c hl hc h; rw [e (190 + 40 * l + c) (by omega), e (670 + 40 * l + c) (by omega)]; rw [e 10 (by omega), e 9 (by omega)] at h; exact hW.em l c hl hc h
  | 25 =>
    intro l c hl hc; rw [e (670 + 40 * l + c) (by omega)]; exact hW.dk l c hl hc
  | n + 26 => exact trivial
theorem WF_s12 {T L A : Tr0} {tb nb : Nat} (hW : WF tb T L A nb) {x : Int32} (h1 : isN x) (h2 : tn (T 11) + max 1 (tn (T 13)) ≤ tn x) (h3 : tn x + 1 ≤ tn (T 9)) : WF tb (uT T 12 x) L A nb := by
  have e : ∀ j, j ≠ 12 → uT T 12 x j = T j := fun j h => uT_n h
  intro i
  match i with
  | 0 => have h := hW 0; simp only [wfp] at h ⊢; rw [e 9 (by omega)]; exact h
  | 1 => have h := hW 1; simp only [wfp] at h ⊢; rw [e 10 (by omega)]; exact h
  | 2 => simp only [wfp]; have h := hW.mg; rw [uT_e]; rw [e 11 (by omega)]; rw [e 13 (by omega)]; rw [e 9 (by omega)]; exact ⟨h.1, h1, h.2.2.1, by omega, by omega, by omega⟩
  | 3 => have h := hW 3; simp only [wfp] at h ⊢; rw [e 14 (by omega)]; exact h
  | 4 => have h := hW 4; simp only [wfp] at h ⊢; rw [e 15 (by omega)]; exact h
  | 5 => have h := hW 5; simp only [wfp] at h ⊢; rw [e 16 (by omega)]; rw [e 17 (by omega)]; exact h
  | 6 => have h := hW 6; simp only [wfp] at h ⊢; rw [e 18 (by omega)]; exact h
  | 7 => have h := hW 7; simp only [wfp] at h ⊢; rw [e 19 (by omega)]; exact h
  | 8 => have h := hW 8; simp only [wfp] at h ⊢; rw [e 20 (by omega)]; rw [e 21 (by omega)]; exact h
  | 9 => have h := hW 9; simp only [wfp] at h ⊢; rw [e 0 (by omega)]; rw [e 10 (by omega)]; exact h
  | 10 => have h := hW 10; simp only [wfp] at h ⊢; rw [e 1 (by omega)]; rw [e 9 (by omega)]; exact h
  | 11 => have h := hW 11; simp only [wfp] at h ⊢; rw [e 2 (by omega)]; exact h
  | 12 => have h := hW 12; simp only [wfp] at h ⊢; rw [e 3 (by omega)]; exact h
  | 13 => have h := hW 13; simp only [wfp] at h ⊢; rw [e 4 (by omega)]; exact h
  | 14 => have h := hW 14; simp only [wfp] at h ⊢; rw [e 5 (by omega)]; rw [e 6 (by omega)]; exact h
  | 15 => have h := hW 15; simp only [wfp] at h ⊢; rw [e 7 (by omega)]; rw [e 18 (by omega)]; exact h
  | 16 => have h := hW 16; simp only [wfp] at h ⊢; rw [e 8 (by omega)]; exact h
  | 17 => exact hW.nb
  | 18 =>
    intro b hb; have hnb := hW.nb; rw [e (38 + 2 * b) (by omega), e 3 (by omega)]; exact hW.st b hb
  | 19 =>
    exact hW.le
  | 20 =>
    exact hW.an
  | 21 =>
    intro c hc; rw [e (90 + c) (by omega)]; exact hW.sp c hc
  | 22 =>
    intro c hc; rw [e (130 + c) (by omega)]; exact hW.ii c hc
  | 23 =>
    intro l c hl hc; rw [e (190 + 40 * l + c) (by omega)]; exact hW.sn l c hl hc
  | 24 =>
    intro l c hl hc h; rw [e (190 + 40 * l + c) (by omega), e (670 + 40 * l + c) (by omega)]; rw [e 10 (by omega), e 9 (by omega)] at h; exact hW.em l c hl hc h
  | 25 =>
    intro l c hl hc; rw [e (670 + 40 * l + c) (by omega)]; exact hW.dk l c hl hc
  | n + 26 => exact trivial
theorem WF_s13 {T L A : Tr0} {tb nb : Nat} (hW : WF tb T L A nb) {x : Int32} (h1 : isN x) (h2 : tn x + tn (T 11) ≤ tn (T 12)) : WF tb (uT T 13 x) L A nb := by
  have e : ∀ j, j ≠ 13 → uT T 13 x j = T j := fun j h => uT_n h
  intro i
  match i with
  | 0 => have h := hW 0; simp only [wfp] at h ⊢; rw [e 9 (by omega)]; exact h
  | 1 => have h := hW 1; simp only [wfp] at h ⊢; rw [e 10 (by omega)]; exact h
  | 2 => simp only [wfp]; have h := hW.mg; rw [uT_e]; rw [e 11 (by omega)]; rw [e 12 (by omega)]; rw [e 9 (by omega)]; exact ⟨h.1, h.2.1, h1, by omega, by omega, by omega⟩
  | 3 => have h := hW 3; simp only [wfp] at h ⊢; rw [e 14 (by omega)]; exact h
  | 4 => have h := hW 4; simp only [wfp] at h ⊢; rw [e 15 (by omega)]; exact h
  | 5 => have h := hW 5; simp only [wfp] at h ⊢; rw [e 16 (by omega)]; rw [e 17 (by omega)]; exact h
  | 6 => have h := hW 6; simp only [wfp] at h ⊢; rw [e 18 (by omega)]; exact h
  | 7 => have h := hW 7; simp only [wfp] at h ⊢; rw [e 19 (by omega)]; exact h
  | 8 => have h := hW 8; simp only [wfp] at h ⊢; rw [e 20 (by omega)]; rw [e 21 (by omega)]; exact h
  | 9 => have h := hW 9; simp only [wfp] at h ⊢; rw [e 0 (by omega)]; rw [e 10 (by omega)]; exact h
  | 10 => have h := hW 10; simp only [wfp] at h ⊢; rw [e 1 (by omega)]; rw [e 9 (by omega)]; exact h
  | 11 => have h := hW 11; simp only [wfp] at h ⊢; rw [e 2 (by omega)]; exact h
  | 12 => have h := hW 12; simp only [wfp] at h ⊢; rw [e 3 (by omega)]; exact h
  | 13 => have h := hW 13; simp only [wfp] at h ⊢; rw [e 4 (by omega)]; exact h
  | 14 => have h := hW 14; simp only [wfp] at h ⊢; rw [e 5 (by omega)]; rw [e 6 (by omega)]; exact h
  | 15 => have h := hW 15; simp only [wfp] at h ⊢; rw [e 7 (by omega)]; rw [e 18 (by omega)]; exact h
  | 16 => have h := hW 16; simp only [wfp] at h ⊢; rw [e 8 (by omega)]; exact h
  | 17 => exact hW.nb
  | 18 =>
    intro b hb; have hnb := hW.nb; rw [e (38 + 2 * b) (by omega), e 3 (by omega)]; exact hW.st b hb
  | 19 =>
    exact hW.le
  | 20 =>
    exact hW.an
  | 21 =>
    intro c hc; rw [e (90 + c) (by omega)]; exact hW.sp c hc
  | 22 =>
    intro c hc; rw [e (130 + c) (by omega)]; exact hW.ii c hc
  | 23 =>
    intro l c hl hc; rw [e (190 + 40 * l + c) (by omega)]; exact hW.sn l c hl hc
  | 24 =>
    intro l c hl hc h; rw [e (190 + 40 * l + c) (by omega), e (670 + 40 * l + c) (by omega)]; rw [e 10 (by omega), e 9 (by omega)] at h; exact hW.em l c hl hc h
  | 25 =>
    intro l c hl hc; rw [e (670 + 40 * l + c) (by omega)]; exact hW.dk l c hl hc
  | n + 26 => exact trivial
theorem WF_s14 {T L A : Tr0} {tb nb : Nat} (hW : WF tb T L A nb) {x : Int32} (h1 : isN x) (h2 : 1 ≤ tn x ∧ tn x ≤ 999) : WF tb (uT T 14 x) L A nb := by
  have e : ∀ j, j ≠ 14 → uT T 14 x j = T j := fun j h => uT_n h
  intro i
  match i with
  | 0 => have h := hW 0; simp only [wfp] at h ⊢; rw [e 9 (by omega)]; exact h
  | 1 => have h := hW 1; simp only [wfp] at h ⊢; rw [e 10 (by omega)]; exact h
  | 2 => have h := hW 2; simp only [wfp] at h ⊢; rw [e 11 (by omega)]; rw [e 12 (by omega)]; rw [e 13 (by omega)]; rw [e 9 (by omega)]; exact h
  | 3 => simp only [wfp]; rw [uT_e]; exact ⟨h1, h2.1, h2.2⟩
  | 4 => have h := hW 4; simp only [wfp] at h ⊢; rw [e 15 (by omega)]; exact h
  | 5 => have h := hW 5; simp only [wfp] at h ⊢; rw [e 16 (by omega)]; rw [e 17 (by omega)]; exact h
  | 6 => have h := hW 6; simp only [wfp] at h ⊢; rw [e 18 (by omega)]; exact h
  | 7 => have h := hW 7; simp only [wfp] at h ⊢; rw [e 19 (by omega)]; exact h
  | 8 => have h := hW 8; simp only [wfp] at h ⊢; rw [e 20 (by omega)]; rw [e 21 (by omega)]; exact h
  | 9 => have h := hW 9; simp only [wfp] at h ⊢; rw [e 0 (by omega)]; rw [e 10 (by omega)]; exact h
  | 10 => have h := hW 10; simp only [wfp] at h ⊢; rw [e 1 (by omega)]; rw [e 9 (by omega)]; exact h
  | 11 => have h := hW 11; simp only [wfp] at h ⊢; rw [e 2 (by omega)]; exact h
  | 12 => have h := hW 12; simp only [wfp] at h ⊢; rw [e 3 (by omega)]; exact h
  | 13 => have h := hW 13; simp only [wfp] at h ⊢; rw [e 4 (by omega)]; exact h
  | 14 => have h := hW 14; simp only [wfp] at h ⊢; rw [e 5 (by omega)]; rw [e 6 (by omega)]; exact h
  | 15 => have h := hW 15; simp only [wfp] at h ⊢; rw [e 7 (by omega)]; rw [e 18 (by omega)]; exact h
  | 16 => have h := hW 16; simp only [wfp] at h ⊢; rw [e 8 (by omega)]; exact h
  | 17 => exact hW.nb
  | 18 =>
    intro b hb; have hnb := hW.nb; rw [e (38 + 2 * b) (by omega), e 3 (by omega)]; exact hW.st b hb
  | 19 =>
    exact hW.le
  | 20 =>
    exact hW.an
  | 21 =>
    intro c hc; rw [e (90 + c) (by omega)]; exact hW.sp c hc
  | 22 =>
    intro c hc; rw [e (130 + c) (by omega)]; exact hW.ii c hc
  | 23 =>
    intro l c hl hc; rw [e (190 + 40 * l + c) (by omega)]; exact hW.sn l c hl hc
  | 24 =>
    intro l c hl hc h; rw [e (190 + 40 * l + c) (by omega), e (670 + 40 * l + c) (by omega)]; rw [e 10 (by omega), e 9 (by omega)] at h; exact hW.em l c hl hc h
  | 25 =>
    intro l c hl hc; rw [e (670 + 40 * l + c) (by omega)]; exact hW.dk l c hl hc
  | n + 26 => exact trivial
theorem WF_s15 {T L A : Tr0} {tb nb : Nat} (hW : WF tb T L A nb) {x : Int32} (h1 : isN x) (h2 : 1 ≤ tn x ∧ tn x ≤ 99) : WF tb (uT T 15 x) L A nb := by
  have e : ∀ j, j ≠ 15 → uT T 15 x j = T j := fun j h => uT_n h
  intro i
  match i with
  | 0 => have h := hW 0; simp only [wfp] at h ⊢; rw [e 9 (by omega)]; exact h
  | 1 => have h := hW 1; simp only [wfp] at h ⊢; rw [e 10 (by omega)]; exact h
  | 2 => have h := hW 2; simp only [wfp] at h ⊢; rw [e 11 (by omega)]; rw [e 12 (by omega)]; rw [e 13 (by omega)]; rw [e 9 (by omega)]; exact h
  | 3 => have h := hW 3; simp only [wfp] at h ⊢; rw [e 14 (by omega)]; exact h
  | 4 => simp only [wfp]; rw [uT_e]; exact ⟨h1, h2.1, h2.2⟩
  | 5 => have h := hW 5; simp only [wfp] at h ⊢; rw [e 16 (by omega)]; rw [e 17 (by omega)]; exact h
  | 6 => have h := hW 6; simp only [wfp] at h ⊢; rw [e 18 (by omega)]; exact h
  | 7 => have h := hW 7; simp only [wfp] at h ⊢; rw [e 19 (by omega)]; exact h
  | 8 => have h := hW 8; simp only [wfp] at h ⊢; rw [e 20 (by omega)]; rw [e 21 (by omega)]; exact h
  | 9 => have h := hW 9; simp only [wfp] at h ⊢; rw [e 0 (by omega)]; rw [e 10 (by omega)]; exact h
  | 10 => have h := hW 10; simp only [wfp] at h ⊢; rw [e 1 (by omega)]; rw [e 9 (by omega)]; exact h
  | 11 => have h := hW 11; simp only [wfp] at h ⊢; rw [e 2 (by omega)]; exact h
  | 12 => have h := hW 12; simp only [wfp] at h ⊢; rw [e 3 (by omega)]; exact h
  | 13 => have h := hW 13; simp only [wfp] at h ⊢; rw [e 4 (by omega)]; exact h
  | 14 => have h := hW 14; simp only [wfp] at h ⊢; rw [e 5 (by omega)]; rw [e 6 (by omega)]; exact h
  | 15 => have h := hW 15; simp only [wfp] at h ⊢; rw [e 7 (by omega)]; rw [e 18 (by omega)]; exact h
  | 16 => have h := hW 16; simp only [wfp] at h ⊢; rw [e 8 (by omega)]; exact h
  | 17 => exact hW.nb
  | 18 =>
    intro b hb; have hnb := hW.nb; rw [e (38 + 2 * b) (by omega), e 3 (by omega)]; exact hW.st b hb
  | 19 =>
    exact hW.le
  | 20 =>
    exact hW.an
  | 21 =>
    intro c hc; rw [e (90 + c) (by omega)]; exact hW.sp c hc
  | 22 =>
    intro c hc; rw [e (130 + c) (by omega)]; exact hW.ii c hc
  | 23 =>
    intro l c hl hc; rw [e (190 + 40 * l + c) (by omega)]; exact hW.sn l c hl hc
  | 24 =>
    intro l c hl hc h; rw [e (190 + 40 * l + c) (by omega), e (670 + 40 * l + c) (by omega)]; rw [e 10 (by omega), e 9 (by omega)] at h; exact hW.em l c hl hc h
  | 25 =>
    intro l c hl hc; rw [e (670 + 40 * l + c) (by omega)]; exact hW.dk l c hl hc
  | n + 26 => exact trivial
theorem WF_s16 {T L A : Tr0} {tb nb : Nat} (hW : WF tb T L A nb) {x : Int32} (h1 : isN x) (h2 : tn x ≤ 99) : WF tb (uT T 16 x) L A nb := by
  have e : ∀ j, j ≠ 16 → uT T 16 x j = T j := fun j h => uT_n h
  intro i
  match i with
  | 0 => have h := hW 0; simp only [wfp] at h ⊢; rw [e 9 (by omega)]; exact h
  | 1 => have h := hW 1; simp only [wfp] at h ⊢; rw [e 10 (by omega)]; exact h
  | 2 => have h := hW 2; simp only [wfp] at h ⊢; rw [e 11 (by omega)]; rw [e 12 (by omega)]; rw [e 13 (by omega)]; rw [e 9 (by omega)]; exact h
  | 3 => have h := hW 3; simp only [wfp] at h ⊢; rw [e 14 (by omega)]; exact h
  | 4 => have h := hW 4; simp only [wfp] at h ⊢; rw [e 15 (by omega)]; exact h
  | 5 => simp only [wfp]; have h := hW.cn; rw [uT_e]; rw [e 17 (by omega)]; exact ⟨h1, h.2.1, h2, h.2.2.2⟩
  | 6 => have h := hW 6; simp only [wfp] at h ⊢; rw [e 18 (by omega)]; exact h
  | 7 => have h := hW 7; simp only [wfp] at h ⊢; rw [e 19 (by omega)]; exact h
  | 8 => have h := hW 8; simp only [wfp] at h ⊢; rw [e 20 (by omega)]; rw [e 21 (by omega)]; exact h
  | 9 => have h := hW 9; simp only [wfp] at h ⊢; rw [e 0 (by omega)]; rw [e 10 (by omega)]; exact h
  | 10 => have h := hW 10; simp only [wfp] at h ⊢; rw [e 1 (by omega)]; rw [e 9 (by omega)]; exact h
  | 11 => have h := hW 11; simp only [wfp] at h ⊢; rw [e 2 (by omega)]; exact h
  | 12 => have h := hW 12; simp only [wfp] at h ⊢; rw [e 3 (by omega)]; exact h
  | 13 => have h := hW 13; simp only [wfp] at h ⊢; rw [e 4 (by omega)]; exact h
  | 14 => have h := hW 14; simp only [wfp] at h ⊢; rw [e 5 (by omega)]; rw [e 6 (by omega)]; exact h
  | 15 => have h := hW 15; simp only [wfp] at h ⊢; rw [e 7 (by omega)]; rw [e 18 (by omega)]; exact h
  | 16 => have h := hW 16; simp only [wfp] at h ⊢; rw [e 8 (by omega)]; exact h
  | 17 => exact hW.nb
  | 18 =>
    intro b hb; have hnb := hW.nb; rw [e (38 + 2 * b) (by omega), e 3 (by omega)]; exact hW.st b hb
  | 19 =>
    exact hW.le
  | 20 =>
    exact hW.an
  | 21 =>
    intro c hc; rw [e (90 + c) (by omega)]; exact hW.sp c hc
  | 22 =>
    intro c hc; rw [e (130 + c) (by omega)]; exact hW.ii c hc
  | 23 =>
    intro l c hl hc; rw [e (190 + 40 * l + c) (by omega)]; exact hW.sn l c hl hc
  | 24 =>
    intro l c hl hc h; rw [e (190 + 40 * l + c) (by omega), e (670 + 40 * l + c) (by omega)]; rw [e 10 (by omega), e 9 (by omega)] at h; exact hW.em l c hl hc h
  | 25 =>
    intro l c hl hc; rw [e (670 + 40 * l + c) (by omega)]; exact hW.dk l c hl hc
  | n + 26 => exact trivial
theorem WF_s17 {T L A : Tr0} {tb nb : Nat} (hW : WF tb T L A nb) {x : Int32} (h1 : isN x) (h2 : tn x ≤ 99) : WF tb (uT T 17 x) L A nb := by
  have e : ∀ j, j ≠ 17 → uT T 17 x j = T j := fun j h => uT_n h
  intro i
  match i with
  | 0 => have h := hW 0; simp only [wfp] at h ⊢; rw [e 9 (by omega)]; exact h
  | 1 => have h := hW 1; simp only [wfp] at h ⊢; rw [e 10 (by omega)]; exact h
  | 2 => have h := hW 2; simp only [wfp] at h ⊢; rw [e 11 (by omega)]; rw [e 12 (by omega)]; rw [e 13 (by omega)]; rw [e 9 (by omega)]; exact h
  | 3 => have h := hW 3; simp only [wfp] at h ⊢; rw [e 14 (by omega)]; exact h
  | 4 => have h := hW 4; simp only [wfp] at h ⊢; rw [e 15 (by omega)]; exact h
  | 5 => simp only [wfp]; have h := hW.cn; rw [uT_e]; rw [e 16 (by omega)]; exact ⟨h.1, h1, h.2.2.1, h2⟩
  | 6 => have h := hW 6; simp only [wfp] at h ⊢; rw [e 18 (by omega)]; exact h
  | 7 => have h := hW 7; simp only [wfp] at h ⊢; rw [e 19 (by omega)]; exact h
  | 8 => have h := hW 8; simp only [wfp] at h ⊢; rw [e 20 (by omega)]; rw [e 21 (by omega)]; exact h
  | 9 => have h := hW 9; simp only [wfp] at h ⊢; rw [e 0 (by omega)]; rw [e 10 (by omega)]; exact h
  | 10 => have h := hW 10; simp only [wfp] at h ⊢; rw [e 1 (by omega)]; rw [e 9 (by omega)]; exact h
  | 11 => have h := hW 11; simp only [wfp] at h ⊢; rw [e 2 (by omega)]; exact h
  | 12 => have h := hW 12; simp only [wfp] at h ⊢; rw [e 3 (by omega)]; exact h
  | 13 => have h := hW 13; simp only [wfp] at h ⊢; rw [e 4 (by omega)]; exact h
  | 14 => have h := hW 14; simp only [wfp] at h ⊢; rw [e 5 (by omega)]; rw [e 6 (by omega)]; exact h
  | 15 => have h := hW 15; simp only [wfp] at h ⊢; rw [e 7 (by omega)]; rw [e 18 (by omega)]; exact h
  | 16 => have h := hW 16; simp only [wfp] at h ⊢; rw [e 8 (by omega)]; exact h
  | 17 => exact hW.nb
  | 18 =>
    intro b hb; have hnb := hW.nb; rw [e (38 + 2 * b) (by omega), e 3 (by omega)]; exact hW.st b hb
  | 19 =>
    exact hW.le
  | 20 =>
    exact hW.an
  | 21 =>
    intro c hc; rw [e (90 + c) (by omega)]; exact hW.sp c hc
  | 22 =>
    intro c hc; rw [e (130 + c) (by omega)]; exact hW.ii c hc
  | 23 =>
    intro l c hl hc; rw [e (190 + 40 * l + c) (by omega)]; exact hW.sn l c hl hc
  | 24 =>
    intro l c hl hc h; rw [e (190 + 40 * l + c) (by omega), e (670 + 40 * l + c) (by omega)]; rw [e 10 (by omega), e 9 (by omega)] at h; exact hW.em l c hl hc h
  | 25 =>
    intro l c hl hc; rw [e (670 + 40 * l + c) (by omega)]; exact hW.dk l c hl hc
  | n + 26 => exact trivial
theorem WF_s20 {T L A : Tr0} {tb nb : Nat} (hW : WF tb T L A nb) {x : Int32} (h1 : isN x) (h2 : tn x ≤ 3) : WF tb (uT T 20 x) L A nb := by
  have e : ∀ j, j ≠ 20 → uT T 20 x j = T j := fun j h => uT_n h
  intro i
  match i with
  | 0 => have h := hW 0; simp only [wfp] at h ⊢; rw [e 9 (by omega)]; exact h
  | 1 => have h := hW 1; simp only [wfp] at h ⊢; rw [e 10 (by omega)]; exact h
  | 2 => have h := hW 2; simp only [wfp] at h ⊢; rw [e 11 (by omega)]; rw [e 12 (by omega)]; rw [e 13 (by omega)]; rw [e 9 (by omega)]; exact h
  | 3 => have h := hW 3; simp only [wfp] at h ⊢; rw [e 14 (by omega)]; exact h
  | 4 => have h := hW 4; simp only [wfp] at h ⊢; rw [e 15 (by omega)]; exact h
  | 5 => have h := hW 5; simp only [wfp] at h ⊢; rw [e 16 (by omega)]; rw [e 17 (by omega)]; exact h
  | 6 => have h := hW 6; simp only [wfp] at h ⊢; rw [e 18 (by omega)]; exact h
  | 7 => have h := hW 7; simp only [wfp] at h ⊢; rw [e 19 (by omega)]; exact h
  | 8 => simp only [wfp]; have h := hW.ws; rw [uT_e]; rw [e 21 (by omega)]; exact ⟨h1, h.2.1, h2, h.2.2.2.1, h.2.2.2.2⟩
  | 9 => have h := hW 9; simp only [wfp] at h ⊢; rw [e 0 (by omega)]; rw [e 10 (by omega)]; exact h
  | 10 => have h := hW 10; simp only [wfp] at h ⊢; rw [e 1 (by omega)]; rw [e 9 (by omega)]; exact h
  | 11 => have h := hW 11; simp only [wfp] at h ⊢; rw [e 2 (by omega)]; exact h
  | 12 => have h := hW 12; simp only [wfp] at h ⊢; rw [e 3 (by omega)]; exact h
  | 13 => have h := hW 13; simp only [wfp] at h ⊢; rw [e 4 (by omega)]; exact h
  | 14 => have h := hW 14; simp only [wfp] at h ⊢; rw [e 5 (by omega)]; rw [e 6 (by omega)]; exact h
  | 15 => have h := hW 15; simp only [wfp] at h ⊢; rw [e 7 (by omega)]; rw [e 18 (by omega)]; exact h
  | 16 => have h := hW 16; simp only [wfp] at h ⊢; rw [e 8 (by omega)]; exact h
  | 17 => exact hW.nb
  | 18 =>
    intro b hb; have hnb := hW.nb; rw [e (38 + 2 * b) (by omega), e 3 (by omega)]; exact hW.st b hb
  | 19 =>
    exact hW.le
  | 20 =>
    exact hW.an
  | 21 =>
    intro c hc; rw [e (90 + c) (by omega)]; exact hW.sp c hc
  | 22 =>
    intro c hc; rw [e (130 + c) (by omega)]; exact hW.ii c hc
  | 23 =>
    intro l c hl hc; rw [e (190 + 40 * l + c) (by omega)]; exact hW.sn l c hl hc
  | 24 =>
    intro l c hl hc h; rw [e (190 + 40 * l + c) (by omega), e (670 + 40 * l + c) (by omega)]; rw [e 10 (by omega), e 9 (by omega)] at h; exact hW.em l c hl hc h
  | 25 =>
    intro l c hl hc; rw [e (670 + 40 * l + c) (by omega)]; exact hW.dk l c hl hc
  | n + 26 => exact trivial
theorem WF_s21 {T L A : Tr0} {tb nb : Nat} (hW : WF tb T L A nb) {x : Int32} (h1 : isN x) (h2 : 1 ≤ tn x ∧ tn x ≤ 3) : WF tb (uT T 21 x) L A nb := by
  have e : ∀ j, j ≠ 21 → uT T 21 x j = T j := fun j h => uT_n h
  intro i
  match i with
  | 0 => have h := hW 0; simp only [wfp] at h ⊢; rw [e 9 (by omega)]; exact h
  | 1 => have h := hW 1; simp only [wfp] at h ⊢; rw [e 10 (by omega)]; exact h
  | 2 => have h := hW 2; simp only [wfp] at h ⊢; rw [e 11 (by omega)]; rw [e 12 (by omega)]; rw [e 13 (by omega)]; rw [e 9 (by omega)]; exact h
  | 3 => have h := hW 3; simp only [wfp] at h ⊢; rw [e 14 (by omega)]; exact h
  | 4 => have h := hW 4; simp only [wfp] at h ⊢; rw [e 15 (by omega)]; exact h
  | 5 => have h := hW 5; simp only [wfp] at h ⊢; rw [e 16 (by omega)]; rw [e 17 (by omega)]; exact h
  | 6 => have h := hW 6; simp only [wfp] at h ⊢; rw [e 18 (by omega)]; exact h
  | 7 => have h := hW 7; simp only [wfp] at h ⊢; rw [e 19 (by omega)]; exact h
  | 8 => simp only [wfp]; have h := hW.ws; rw [uT_e]; rw [e 20 (by omega)]; exact ⟨h.1, h1, h.2.2.1, h2.1, h2.2⟩
  | 9 => have h := hW 9; simp only [wfp] at h ⊢; rw [e 0 (by omega)]; rw [e 10 (by omega)]; exact h
  | 10 => have h := hW 10; simp only [wfp] at h ⊢; rw [e 1 (by omega)]; rw [e 9 (by omega)]; exact h
  | 11 => have h := hW 11; simp only [wfp] at h ⊢; rw [e 2 (by omega)]; exact h
  | 12 => have h := hW 12; simp only [wfp] at h ⊢; rw [e 3 (by omega)]; exact h
  | 13 => have h := hW 13; simp only [wfp] at h ⊢; rw [e 4 (by omega)]; exact h
  | 14 => have h := hW 14; simp only [wfp] at h ⊢; rw [e 5 (by omega)]; rw [e 6 (by omega)]; exact h
  | 15 => have h := hW 15; simp only [wfp] at h ⊢; rw [e 7 (by omega)]; rw [e 18 (by omega)]; exact h
  | 16 => have h := hW 16; simp only [wfp] at h ⊢; rw [e 8 (by omega)]; exact h
  | 17 => exact hW.nb
  | 18 =>
    intro b hb; have hnb := hW.nb; rw [e (38 + 2 * b) (by omega), e 3 (by omega)]; exact hW.st b hb
  | 19 =>
    exact hW.le
  | 20 =>
    exact hW.an
  | 21 =>
    intro c hc; rw [e (90 + c) (by omega)]; exact hW.sp c hc
  | 22 =>
    intro c hc; rw [e (130 + c) (by omega)]; exact hW.ii c hc
  | 23 =>
    intro l c hl hc; rw [e (190 + 40 * l + c) (by omega)]; exact hW.sn l c hl hc
  | 24 =>
    intro l c hl hc h; rw [e (190 + 40 * l + c) (by omega), e (670 + 40 * l + c) (by omega)]; rw [e 10 (by omega), e 9 (by omega)] at h; exact hW.em l c hl hc h
  | 25 =>
    intro l c hl hc; rw [e (670 + 40 * l + c) (by omega)]; exact hW.dk l c hl hc
  | n + 26 => exact trivial
end
section
variable {hc hm : HP} {T L A : Tr0} {tb nb : Nat}
theorem n_toI {x : Int32} {n : Nat} (h : x.toInt = n) : x = nI n := by
  have := hi_i x
  rw [eqi, h, n_i (by omega)]
theorem op_setStop (a b : Int32) (hb : b = 0 ∨ b = 1) : Op (agr [1, 3]) (fX9_setStop a b) (fX10_setStop a b) := by
  refine opL (d0 := 0) rfl (F := fun hp => (fX9_requireColumn a hp).bind fun q7 => Sum.elim (fun _ => (fX2_keep 0 hp).bind fun hp10 => (fX1_stopsAt 0 a hp10).bind fun v11 => if b = 0 then (fX9_setStop_52 v11 4 0 a 0 hp10) else (fX9_setStop_52 v11 4 0 a 1 hp10)) (fun E => some (.inr E, hp)) q7) (G := fun hm => (fX10_isColumn a hm).bind fun v9 => if v9 = 0 then (fX10_setStop_21 a b 1 hm) else (fX10_setStop_21 a b 0 hm)) (fun hc => rfl) ?_ ?_ ?_
  · intro hm q
    simp only [fX10_setStop]
    rw [nl_1 q, Option.bind_some, if_neg n10]
  · intro hm q
    simp only [fX10_setStop]
    rw [nl_0 q, Option.bind_some, if_pos rfl]
  · intro tb hc hm sz wn os hs nb ht hv l1 T hT h0
    have hS := Iv_WF hv l1 hT
    have hW := hS.2.2.2
    have h1 := St_MR hS
    have hw := hW.w
    rcases ix_n a (n := tn (T 9)) (by omega) with ⟨k, hk, rfl⟩ | ho
    · refine change_p hv l1 hT h0 (C1 := fun hp10 => (fX1_stopsAt 0 (nI k) hp10).bind fun v11 => if b = 0 then (fX9_setStop_52 v11 4 0 (nI k) 0 hp10) else (fX9_setStop_52 v11 4 0 (nI k) 1 hp10)) (M1 := fun hp6 => if inb (90 + nI k) (alen (11, 22, 0)) = true then (if (hp6 (11, 22, 0) (90 + nI k).toNatClampNeg) = 1 then (fX10_setStop_52 (nI k) b 1 hp6) else (fX10_setStop_52 (nI k) b 0 hp6)) else none) ?_ ?_ ?_
      · show (fX9_requireColumn (nI k) hc).bind (fun q7 => Sum.elim (fun _ => (fX2_keep 0 hc).bind fun hp10 => (fX1_stopsAt 0 (nI k) hp10).bind fun v11 => if b = 0 then (fX9_setStop_52 v11 4 0 (nI k) 0 hp10) else (fX9_setStop_52 v11 4 0 (nI k) 1 hp10)) (fun E => some (.inr E, hc)) q7) = _
        rw [rqCol_in h1 hW hk, Option.bind_some]; rfl
      · have e := isCol_in (hm := hm) hW hk
        rw [rwm_T hT] at e
        show (fX10_isColumn (nI k) hm).bind (fun v9 => if v9 = 0 then (fX10_setStop_21 (nI k) b 1 hm) else (fX10_setStop_21 (nI k) b 0 hm)) = _
        rw [e, Option.bind_some, if_neg n10]
        simp only [fX10_setStop_21]
        rw [rf_no h0, Option.bind_some, if_pos rfl]
      intro hd hn os1 hs1 hv1 hT1 l11 h01 hL hA
      have hS1 := Iv_WF hv1 l11 hT1
      have hW1 := hS1.2.2.2
      have hM1 := St_MR hS1
      have i90 : (90 + nI k) = nI (90 + k) := n_add 90 _
      have c52 : ∀ y v, (v = 0 ∨ v = 1) → fX9_setStop_52 v 4 0 (nI k) y hd = some (.inl v, up hd (11, 4, 0) k y) := by
        intro y v hv'
        show (fX7_put 4 0 (nI k) y hd).bind (fun hp3 => if isB v = true then some ((Sum.inl v), hp3) else none) = _
        rw [put_n (show k < wlen 4 by show k < 40; omega), Option.bind_some, if_pos (isB_iff.mpr hv')]
      have m52 : ∀ v, (v = 0 ∨ v = 1) → fX10_setStop_52 (nI k) b v hn = some (v, rwm hn (uT T (90 + k) b)) := by
        intro v hv'
        have fl : fX10_flag b hn = some b := by rcases hb with e | e <;> rw [e] <;> rfl
        show (fX10_flag b hn).bind (fun v1 => if inb (90 + nI k) 1150 = true then (if isB v = true then some (v, (up hn (11, 22, 0) ((90 + nI k).toNatClampNeg) v1)) else none) else none) = _
        rw [fl, Option.bind_some, i90, if_pos (inb_n (by omega) (by omega)), if_pos (isB_iff.mpr hv'), n_c (by omega)]
        have := rwm_up (hm := hn) (T := T) (k := 90 + k) (x := b)
        rw [rwm_T hT1] at this
        rw [this]
      refine ⟨T (90 + k), up hd (11, 4, 0) k b, rwm hn (uT T (90 + k) b), ?_, ?_, ?_, ?_⟩
      · show (fX1_stopsAt 0 (nI k) hd).bind (fun v11 => if b = 0 then (fX9_setStop_52 v11 4 0 (nI k) 0 hd) else (fX9_setStop_52 v11 4 0 (nI k) 1 hd)) = _
        rw [c_stopsAt hM1 (by omega), Option.bind_some]
        have hv' : (if T (90 + k) = 0 then (0 : Int32) else 1) = T (90 + k) := by rcases hW1.sp k (by omega) with e | e <;> rw [e] <;> rfl
        rw [hv', c52 _ _ (hW1.sp k (by omega)), c52 _ _ (hW1.sp k (by omega))]
        rcases hb with e | e
        · rw [if_pos e, e]
        · rw [if_neg (by rw [e]; decide), e]
      · show (if inb (90 + nI k) 1150 = true then (if (hn (11, 22, 0) (90 + nI k).toNatClampNeg) = 1 then (fX10_setStop_52 (nI k) b 1 hn) else (fX10_setStop_52 (nI k) b 0 hn)) else none) = _
        rw [i90, if_pos (inb_n (by omega) (by omega)), n_c (by omega), hT1, m52 1 (Or.inr rfl), m52 0 (Or.inl rfl)]
        rcases hW1.sp k (by omega) with e | e
        · rw [e, if_neg (by decide)]
        · rw [e, if_pos rfl]
      · rw [rwm_n (by decide)]; exact h01
      · exact fin_now (tb' := tb) hv1 (MR_stp hM1 (by omega)) ⟨by rw [up_n (by simp), uT_n (by omega)]; exact hS1.2.2.1.1, by rw [up_n (by simp), uT_n (by omega)]; exact hS1.2.2.1.2⟩ (WF_stp hW1 (by omega) hb) (fun _ _ _ => rfl) (fun _ _ _ => rfl) (by omega) (by omega)
    · refine OpI_throw hv (E := 3) (i := 1) rfl ?_ ?_
      · show (fX9_requireColumn a hc).bind (fun q7 => Sum.elim (fun _ => (fX2_keep 0 hc).bind fun hp10 => (fX1_stopsAt 0 a hp10).bind fun v11 => if b = 0 then (fX9_setStop_52 v11 4 0 a 0 hp10) else (fX9_setStop_52 v11 4 0 a 1 hp10)) (fun E => some (.inr E, hc)) q7) = _
        rw [rqCol_out h1 hW ho]; rfl
      · have e := isCol_out (hm := hm) hW ho
        rw [rwm_T hT] at e
        show (fX10_isColumn a hm).bind (fun v9 => if v9 = 0 then (fX10_setStop_21 a b 1 hm) else (fX10_setStop_21 a b 0 hm)) = _
        rw [e, Option.bind_some, if_pos rfl]
        simp only [fX10_setStop_21]
        rw [rf_yes h0 (show ¬ (2 : Int32) = 0 by decide), Option.bind_some, if_neg n10]; rfl
/-- a setting is replaced -/
theorem repl_p {tb : Nat} {hc hm : HP} {sz wn os hs nb : Nat} {F : HP → Option ((Int32 ⊕ Nat) × HP)} {G : HP → Option (Int32 × HP)} (hv : Iv tb hc hm sz wn os hs nb) (l1 : hm (10, 0, 0) 1 = 1) {T : Tr0} (hT : hm (11, 22, 0) = T) (h0 : hm (10, 0, 0) 0 = 0) {cs : List Nat} {k : Nat} (hk : 2 ≤ k ∧ k < 13 ∧ k ≠ 9) {x : Int32}
    (eF : F hc = (fX2_keep 0 hc).bind fun hp5 => (fX9_replaceSetting (nI k) x hp5).bind fun q7 => some ((.inl q7.1), q7.2)) (eG : G hm = (fX10_replaces (nI k) x hm).bind fun q4 => some (q4.1, q4.2))
    (hWx : ∀ L A nb, WF tb T L A nb → WF tb (uT T (9 + k) x) L A nb) : OpI cs F G tb hc hm := by
  refine change_p hv l1 hT h0 (M1 := fun hp3 => (fX10_its (nI k) hp3).bind fun v4 => (fX10_puts (nI k) x hp3).bind fun hp7 => some (v4, hp7)) eF ?_ ?_
  · rw [eG]
    show ((fX10_keepsAll hm).bind fun hp3 => (fX10_its (nI k) hp3).bind fun v4 => (fX10_puts (nI k) x hp3).bind fun hp7 => some (v4, hp7)).bind (fun q4 => some (q4.1, q4.2)) = _
    cases fX10_keepsAll hm with
    | none => rfl
    | some hp3 =>
      simp only [Option.bind_some]
      cases fX10_its (nI k) hp3 with
      | none => rfl
      | some v4 =>
        simp only [Option.bind_some]
        cases fX10_puts (nI k) x hp3 with
        | none => rfl
        | some hp7 => rfl
  intro hd hn os1 hs1 hv1 hT1 l11 h01 hL hA
  have hS1 := Iv_WF hv1 l11 hT1
  have hW1 := hS1.2.2.2
  have hM1 := St_MR hS1
  have e9 : (9 : Int32) + nI k = nI (9 + k) := n_add 9 k
  refine ⟨T (9 + k), up hd (11, 0, 0) k x, rwm hn (uT T (9 + k) x), ?_, ?_, ?_, ?_⟩
  · show ((fX7_at 0 0 (nI k) hd).bind fun v1 => (fX7_put 0 0 (nI k) x hd).bind fun hp4 => some (v1, hp4)).bind (fun q7 => some ((Sum.inl q7.1), q7.2)) = _
    rw [c_set hM1 hk.2.1, Option.bind_some, put_n (show k < wlen 0 from hk.2.1), Option.bind_some, Option.bind_some]
  · show (if inb (9 + nI k) 1150 = true then (some (hn (11, 22, 0) (9 + nI k).toNatClampNeg)) else none).bind (fun v4 => (if inb (9 + nI k) 1150 = true then (some (up hn (11, 22, 0) ((9 + nI k).toNatClampNeg) x)) else none).bind fun hp7 => some (v4, hp7)) = _
    rw [e9, if_pos (inb_n (show 9 + k < 1150 by omega) (by omega)), n_c (by omega), Option.bind_some, if_pos (inb_n (show 9 + k < 1150 by omega) (by omega)), Option.bind_some, hT1]
    have := rwm_up (hm := hn) (T := T) (k := 9 + k) (x := x)
    rw [rwm_T hT1] at this
    rw [this]
  · rw [rwm_n (by decide)]; exact h01
  · exact fin_now (tb' := tb) hv1 (MR_set hM1 hk) ⟨by rw [up_n (by simp), uT_n (by omega)]; exact hS1.2.2.1.1, by rw [up_n (by simp), uT_n (by omega)]; exact hS1.2.2.1.2⟩ (hWx _ _ _ hW1) (fun _ _ _ => rfl) (fun _ _ _ => rfl) (by omega) (by omega)
/-- a value within bounds, or not -/
theorem rng (x : Int32) (a b : Nat) (ha : a < 1000000) (hb : b < 1000000) : (∃ k, a ≤ k ∧ k ≤ b ∧ x = nI k) ∨ (x < nI a ∨ nI b < x) := by
  by_cases h1 : x < nI a
  · exact Or.inr (Or.inl h1)
  · by_cases h2 : nI b < x
    · exact Or.inr (Or.inr h2)
    · have h1' : ¬ x.toInt < (nI a).toInt := fun q => h1 (lt_i.mpr q)
      have h2' : ¬ (nI b).toInt < x.toInt := fun q => h2 (lt_i.mpr q)
      rw [n_i (by omega)] at h1' h2'
      exact Or.inl ⟨x.toInt.toNat, by omega, by omega, n_toI (by omega)⟩
theorem op_set (a b : Int32) : Op (agr [1, 2]) (fX9_set a b) (fX10_set a b) := by
  refine opL (d0 := 0) rfl (F := fun hp => (fX9_isSettable a hp).bind fun v10 => (fX9_requireArgument v10 hp).bind fun q12 => Sum.elim (fun _ => (fX9_lowest 0 0 a hp).bind fun v13 => if b < v13 then (fX9_set_45 a b hp) else ((fX9_highest 0 0 a hp).bind fun v14 => if v14 < b then (fX9_set_45 a b hp) else (fX9_set_46 a b 1 hp))) (fun E => some (.inr E, hp)) q12) (G := fun hm => (fX10_maySet a b hm).bind fun v7 => if v7 = 0 then (fX10_set_22 a b 1 hm) else (fX10_set_22 a b 0 hm)) (fun hc => rfl) ?_ ?_ ?_
  · intro hm q
    simp only [fX10_set]
    rw [nl_1 q, Option.bind_some, if_neg n10]
  · intro hm q
    simp only [fX10_set]
    rw [nl_0 q, Option.bind_some, if_pos rfl]
  · intro tb hc hm sz wn os hs nb ht hv l1 T hT h0
    have hS := Iv_WF hv l1 hT
    have hW := hS.2.2.2
    have h1 := St_MR hS
    have hmg := hW.mg
    have hw := hW.w
    have e11 : T 11 = nI (tn (T 11)) := hmg.1
    have e12 : T 12 = nI (tn (T 12)) := hmg.2.1
    have eb : T 12 - T 11 = nI (tn (T 12) - tn (T 11)) := by
      conv => lhs; rw [e12, e11]
      exact n_sub (by omega)
    -- a setting that may be set, of bounds lo and hi
    have may : ∀ (k lo hi : Nat), 2 ≤ k ∧ k < 13 ∧ k ≠ 9 → lo < 1000000 → hi < 1000000 → fX9_isSettable (nI k) hc = some 1 → fX9_lowest 0 0 (nI k) hc = some (nI lo) → fX9_highest 0 0 (nI k) hc = some (nI hi) → (fX10_maySet (nI k) b hm = (fX10_in b (nI lo) (nI hi) hm).bind fun v1 => if isB v1 = true then some v1 else none) → (∀ x, lo ≤ x → x ≤ hi → ∀ L A nb, WF tb T L A nb → WF tb (uT T (9 + k) (nI x)) L A nb) → a = nI k → OpI [1, 2] (fun hp => (fX9_isSettable a hp).bind fun v10 => (fX9_requireArgument v10 hp).bind fun q12 => Sum.elim (fun _ => (fX9_lowest 0 0 a hp).bind fun v13 => if b < v13 then (fX9_set_45 a b hp) else ((fX9_highest 0 0 a hp).bind fun v14 => if v14 < b then (fX9_set_45 a b hp) else (fX9_set_46 a b 1 hp))) (fun E => some (.inr E, hp)) q12) (fun hm => (fX10_maySet a b hm).bind fun v7 => if v7 = 0 then (fX10_set_22 a b 1 hm) else (fX10_set_22 a b 0 hm)) tb hc hm := by
      intro k lo hi hk hlo hhi c1 c2 c3 m1 hWx ha
      subst ha
      have hF : ∀ G', OpI [1, 2] (fun hp => if b < nI lo then (fX9_set_45 (nI k) b hp) else (if nI hi < b then (fX9_set_45 (nI k) b hp) else (fX9_set_46 (nI k) b 1 hp))) G' tb hc hm → OpI [1, 2] (fun hp => (fX9_isSettable (nI k) hp).bind fun v10 => (fX9_requireArgument v10 hp).bind fun q12 => Sum.elim (fun _ => (fX9_lowest 0 0 (nI k) hp).bind fun v13 => if b < v13 then (fX9_set_45 (nI k) b hp) else ((fX9_highest 0 0 (nI k) hp).bind fun v14 => if v14 < b then (fX9_set_45 (nI k) b hp) else (fX9_set_46 (nI k) b 1 hp))) (fun E => some (.inr E, hp)) q12) G' tb hc hm := by
        intro G' ⟨r, hc1, b1, hm1, x1, x⟩
        refine ⟨r, hc1, b1, hm1, ?_, x⟩
        show (fX9_isSettable (nI k) hc).bind (fun v10 => (fX9_requireArgument v10 hc).bind fun q12 => Sum.elim (fun _ => (fX9_lowest 0 0 (nI k) hc).bind fun v13 => if b < v13 then (fX9_set_45 (nI k) b hc) else ((fX9_highest 0 0 (nI k) hc).bind fun v14 => if v14 < b then (fX9_set_45 (nI k) b hc) else (fX9_set_46 (nI k) b 1 hc))) (fun E => some (.inr E, hc)) q12) = _
        rw [c1, Option.bind_some, ra_1, Option.bind_some]
        show (fX9_lowest 0 0 (nI k) hc).bind (fun v13 => if b < v13 then (fX9_set_45 (nI k) b hc) else ((fX9_highest 0 0 (nI k) hc).bind fun v14 => if v14 < b then (fX9_set_45 (nI k) b hc) else (fX9_set_46 (nI k) b 1 hc))) = _
        rw [c2, c3, Option.bind_some, Option.bind_some]; exact x1
      refine hF _ ?_
      rcases rng b lo hi hlo hhi with ⟨x, x1, x2, rfl⟩ | ho
      · refine repl_p hv l1 hT h0 (k := k) hk (x := nI x) ?_ ?_ (fun L A nb h => hWx x x1 x2 L A nb h)
        · show (if nI x < nI lo then (fX9_set_45 (nI k) (nI x) hc) else (if nI hi < nI x then (fX9_set_45 (nI k) (nI x) hc) else (fX9_set_46 (nI k) (nI x) 1 hc))) = _
          rw [if_neg (show ¬ nI x < nI lo by rw [n_lt (by omega) (by omega)]; omega), if_neg (show ¬ nI hi < nI x by rw [n_lt (by omega) (by omega)]; omega)]; rfl
        · show (fX10_maySet (nI k) (nI x) hm).bind (fun v7 => if v7 = 0 then (fX10_set_22 (nI k) (nI x) 1 hm) else (fX10_set_22 (nI k) (nI x) 0 hm)) = _
          rw [m1, in_yes (show ¬ nI x < nI lo by rw [n_lt (by omega) (by omega)]; omega) (show ¬ nI hi < nI x by rw [n_lt (by omega) (by omega)]; omega), Option.bind_some, if_pos (show isB 1 = true by decide), Option.bind_some, if_neg n10]
          simp only [fX10_set_22]
          rw [rf_no h0, Option.bind_some, if_pos rfl]
      · refine OpI_throw hv (E := 2) (i := 1) rfl ?_ ?_
        · have r : fX9_set_45 (nI k) b hc = some (.inr 2, hc) := rfl
          show (if b < nI lo then (fX9_set_45 (nI k) b hc) else (if nI hi < b then (fX9_set_45 (nI k) b hc) else (fX9_set_46 (nI k) b 1 hc))) = _
          rw [r]
          by_cases q : b < nI lo
          · rw [if_pos q]
          · rw [if_neg q, if_pos (ho.resolve_left q)]
        · show (fX10_maySet (nI k) b hm).bind (fun v7 => if v7 = 0 then (fX10_set_22 (nI k) b 1 hm) else (fX10_set_22 (nI k) b 0 hm)) = _
          rw [m1, in_no ho, Option.bind_some, if_pos (show isB 0 = true by decide), Option.bind_some, if_pos rfl]
          simp only [fX10_set_22]
          rw [rf_yes h0 (show ¬ (2 : Int32) = 0 by decide), Option.bind_some, if_neg n10]; rfl
    -- and one that may not
    have not : fX9_isSettable a hc = some 0 → fX10_maySet a b hm = some 0 → OpI [1, 2] (fun hp => (fX9_isSettable a hp).bind fun v10 => (fX9_requireArgument v10 hp).bind fun q12 => Sum.elim (fun _ => (fX9_lowest 0 0 a hp).bind fun v13 => if b < v13 then (fX9_set_45 a b hp) else ((fX9_highest 0 0 a hp).bind fun v14 => if v14 < b then (fX9_set_45 a b hp) else (fX9_set_46 a b 1 hp))) (fun E => some (.inr E, hp)) q12) (fun hm => (fX10_maySet a b hm).bind fun v7 => if v7 = 0 then (fX10_set_22 a b 1 hm) else (fX10_set_22 a b 0 hm)) tb hc hm := by
      intro c1 m1
      refine OpI_throw hv (E := 2) (i := 1) rfl ?_ ?_
      · show (fX9_isSettable a hc).bind (fun v10 => (fX9_requireArgument v10 hc).bind fun q12 => Sum.elim (fun _ => (fX9_lowest 0 0 a hc).bind fun v13 => if b < v13 then (fX9_set_45 a b hc) else ((fX9_highest 0 0 a hc).bind fun v14 => if v14 < b then (fX9_set_45 a b hc) else (fX9_set_46 a b 1 hc))) (fun E => some (.inr E, hc)) q12) = _
        rw [c1]; rfl
      · show (fX10_maySet a b hm).bind (fun v7 => if v7 = 0 then (fX10_set_22 a b 1 hm) else (fX10_set_22 a b 0 hm)) = _
        rw [m1, Option.bind_some, if_pos rfl]
        simp only [fX10_set_22]
        rw [rf_yes h0 (show ¬ (2 : Int32) = 0 by decide), Option.bind_some, if_neg n10]; rfl
    rcases ix_n a (n := 13) (by omega) with ⟨k, hk, rfl⟩ | ho
    · match k, hk with
      | 0, _ => exact not rfl rfl
      | 1, _ => exact not rfl rfl
      | 2, _ => exact not rfl rfl
      | 3, _ => exact not rfl rfl
      | 4, _ =>
        refine may 4 0 (tn (T 12) - tn (T 11)) (by omega) (by omega) (by omega) rfl rfl ?_ ?_ (fun x x1 x2 L A nb h => WF_s13 h (isN_n (by omega)) (by rw [n_t (by omega)]; omega)) rfl
        · show (fX7_at 0 0 3 hc).bind (fun v1 => (fX7_at 0 0 2 hc).bind fun v2 => some (v1 - v2)) = _
          rw [c_s3 h1, c_s2 h1, Option.bind_some, Option.bind_some, eb]
        · have e1 := its_3 (hm := hm) (T := T)
          have e2 := its_2 (hm := hm) (T := T)
          rw [rwm_T hT] at e1 e2
          show (fX10_its 3 hm).bind (fun v7 => (fX10_its 2 hm).bind fun v8 => (fX10_in b 0 (v7 - v8) hm).bind fun v9 => if isB v9 = true then some v9 else none) = _
          rw [e1, e2, Option.bind_some, Option.bind_some, eb]; rfl
      | 5, _ => exact may 5 1 999 (by omega) (by omega) (by omega) rfl rfl rfl rfl (fun x x1 x2 L A nb h => WF_s14 h (isN_n (by omega)) (by rw [n_t (by omega)]; omega)) rfl
      | 6, _ => exact may 6 1 99 (by omega) (by omega) (by omega) rfl rfl rfl rfl (fun x x1 x2 L A nb h => WF_s15 h (isN_n (by omega)) (by rw [n_t (by omega)]; omega)) rfl
      | 7, _ => exact may 7 0 99 (by omega) (by omega) (by omega) rfl rfl rfl rfl (fun x x1 x2 L A nb h => WF_s16 h (isN_n (by omega)) (by rw [n_t (by omega)]; omega)) rfl
      | 8, _ => exact may 8 0 99 (by omega) (by omega) (by omega) rfl rfl rfl rfl (fun x x1 x2 L A nb h => WF_s17 h (isN_n (by omega)) (by rw [n_t (by omega)]; omega)) rfl
      | 9, _ => exact not rfl rfl
      | 10, _ => exact not rfl rfl
      | 11, _ => exact may 11 0 3 (by omega) (by omega) (by omega) rfl rfl rfl rfl (fun x x1 x2 L A nb h => WF_s20 h (isN_n (by omega)) (by rw [n_t (by omega)]; omega)) rfl
      | 12, _ => exact may 12 1 3 (by omega) (by omega) (by omega) rfl rfl rfl rfl (fun x x1 x2 L A nb h => WF_s21 h (isN_n (by omega)) (by rw [n_t (by omega)]; omega)) rfl
    · have ne : ∀ j, j < 13 → ¬ a = nI j := by
        intro j hj e
        subst e
        rcases ho with q | q
        · exact n_neg (by omega) q
        · have := le_i.mp q; rw [n_i (by omega), n_i (by omega)] at this; omega
      refine not ?_ ?_
      · show (if a < nI 4 then (if a = nI 11 then (some 1) else (if a = nI 12 then (some 1) else (some 0))) else (if nI 8 < a then (if a = nI 11 then (some 1) else (if a = nI 12 then (some 1) else (some 0))) else (some 1))) = _
        rw [if_neg (ne 11 (by omega)), if_neg (ne 12 (by omega))]
        by_cases q : a < nI 4
        · rw [if_pos q]
        · have : nI 8 < a := by
            rcases ho with p | p
            · exact absurd (lt_i.mpr (by have := lt_i.mp p; have z : (0 : Int32).toInt = 0 := rfl; rw [n_i (by omega)]; omega)) q
            · have := le_i.mp p; rw [n_i (by omega)] at this; rw [lt_i, n_i (by omega)]; omega
          rw [if_neg q, if_pos this]
      · show (if a = nI 4 then _ else (if a = nI 5 then _ else (if a = nI 6 then _ else (if a = nI 7 then _ else (if a = nI 8 then _ else (if a = nI 9 then _ else (if a = nI 10 then _ else (if a = nI 11 then _ else (if a = nI 12 then _ else (some (0 : Int32)))))))))) ) = _
        rw [if_neg (ne 4 (by omega)), if_neg (ne 5 (by omega)), if_neg (ne 6 (by omega)), if_neg (ne 7 (by omega)), if_neg (ne 8 (by omega)), if_neg (ne 9 (by omega)), if_neg (ne 10 (by omega)), if_neg (ne 11 (by omega)), if_neg (ne 12 (by omega))]
theorem op_setMargin (a b : Int32) : Op (agr [1, 2]) (fX9_setMargin a b) (fX10_setMargin a b) := by
  refine opL (d0 := 0) rfl (F := fun hp => (fX7_at 0 0 4 hp).bind fun v12 => if a = 0 then (fX9_setMargin_41 a b (imax 1 v12) 0 hp) else ((fX7_at 0 0 2 hp).bind fun v13 => fX9_setMargin_41 a b (imax 1 v12) (v13 + (imax 1 v12)) hp)) (G := fun hm => if a = 0 then (fX10_setMargin_32 a b 0 hm) else ((fX10_its 2 hm).bind fun v11 => (fX10_its 4 hm).bind fun v12 => fX10_setMargin_32 a b (v11 + (imax 1 v12)) hm)) (fun hc => rfl) ?_ ?_ ?_
  · intro hm q
    simp only [fX10_setMargin]
    rw [nl_1 q, Option.bind_some, if_neg n10]
  · intro hm q
    simp only [fX10_setMargin]
    rw [nl_0 q, Option.bind_some, if_pos rfl]
  · intro tb hc hm sz wn os hs nb ht hv l1 T hT h0
    have hS := Iv_WF hv l1 hT
    have hW := hS.2.2.2
    have h1 := St_MR hS
    have hmg := hW.mg
    have hw := hW.w
    have e9 : T 9 = nI (tn (T 9)) := hw.1
    have e11 : T 11 = nI (tn (T 11)) := hmg.1
    have e12 : T 12 = nI (tn (T 12)) := hmg.2.1
    have e13 : T 13 = nI (tn (T 13)) := hmg.2.2.1
    have em : imax 1 (T 13) = nI (max 1 (tn (T 13))) := by
      conv => lhs; rw [e13]
      exact imax_n (a := 1) (by omega) (by omega)
    have i0 := its_0 (hm := hm) (T := T)
    have i2 := its_2 (hm := hm) (T := T)
    have i3 := its_3 (hm := hm) (T := T)
    have i4 := its_4 (hm := hm) (T := T)
    rw [rwm_T hT] at i0 i2 i3 i4
    -- what is common: the setting k, between lo and hi
    have cm : ∀ (k lo hi : Nat), (k = 2 ∨ k = 3) → lo < 1000000 → hi < 1000000 → (fX9_setMargin_76 a b (nI lo) (nI hi) hc = fX9_setMargin_76 a b (nI lo) (nI hi) hc) → (∀ hp y, fX9_setMargin_95 a b y hp = (fX9_requireArgument y hp).bind fun q4 => Sum.elim (fun _ => (fX2_keep 0 hp).bind fun hp7 => (fX9_replaceSetting (nI k) b hp7).bind fun q2 => some ((.inl q2.1), q2.2)) (fun E => some (.inr E, hp)) q4) → (∀ hp y, fX10_setMargin_80 a b y hp = (fX10_refuse y 2 hp).bind fun q4 => if q4.1 = 0 then ((fX10_replaces (nI k) b q4.2).bind fun q2 => some (q2.1, q2.2)) else (some (0, q4.2))) → (∀ x, lo ≤ x → x ≤ hi → ∀ L A nb, WF tb T L A nb → WF tb (uT T (9 + k) (nI x)) L A nb) → OpI [1, 2] (fun hp => fX9_setMargin_76 a b (nI lo) (nI hi) hp) (fun hm => fX10_setMargin_62 a b (nI lo) (nI hi) hm) tb hc hm := by
      intro k lo hi hk hlo hhi _ c95 m80 hWx
      rcases rng b lo hi hlo hhi with ⟨x, x1, x2, hx⟩ | ho
      · refine repl_p hv l1 hT h0 (k := k) (by omega) (x := b) ?_ ?_ (fun L A nb h => by rw [hx]; exact hWx x x1 x2 L A nb h)
        · show (if b < nI lo then (fX9_setMargin_94 a b hc) else (if nI hi < b then (fX9_setMargin_94 a b hc) else (fX9_setMargin_95 a b 1 hc))) = _
          rw [if_neg (show ¬ b < nI lo by rw [hx, n_lt (by omega) (by omega)]; omega), if_neg (show ¬ nI hi < b by rw [hx, n_lt (by omega) (by omega)]; omega), c95, ra_1, Option.bind_some]; rfl
        · show (fX10_in b (nI lo) (nI hi) hm).bind (fun v5 => if v5 = 0 then (fX10_setMargin_80 a b 1 hm) else (fX10_setMargin_80 a b 0 hm)) = _
          rw [in_yes (show ¬ b < nI lo by rw [hx, n_lt (by omega) (by omega)]; omega) (show ¬ nI hi < b by rw [hx, n_lt (by omega) (by omega)]; omega), Option.bind_some, if_neg n10, m80, rf_no h0, Option.bind_some, if_pos rfl]
      · refine OpI_throw hv (E := 2) (i := 1) rfl ?_ ?_
        · have r : fX9_setMargin_94 a b hc = some (.inr 2, hc) := rfl
          show (if b < nI lo then (fX9_setMargin_94 a b hc) else (if nI hi < b then (fX9_setMargin_94 a b hc) else (fX9_setMargin_95 a b 1 hc))) = _
          rw [r]
          by_cases q : b < nI lo
          · rw [if_pos q]
          · rw [if_neg q, if_pos (ho.resolve_left q)]
        · show (fX10_in b (nI lo) (nI hi) hm).bind (fun v5 => if v5 = 0 then (fX10_setMargin_80 a b 1 hm) else (fX10_setMargin_80 a b 0 hm)) = _
          rw [in_no ho, Option.bind_some, if_pos rfl, m80, rf_yes h0 (show ¬ (2 : Int32) = 0 by decide), Option.bind_some, if_neg n10]; rfl
    by_cases qa : a = 0
    · have eh : T 12 - imax 1 (T 13) = nI (tn (T 12) - max 1 (tn (T 13))) := by
        rw [em]
        conv => lhs; rw [e12]
        exact n_sub (by omega)
      obtain ⟨r, hc1, b1, hm1, x1, x2, x⟩ := cm 2 0 (tn (T 12) - max 1 (tn (T 13))) (Or.inl rfl) (by omega) (by omega) rfl
        (fun hp y => by simp only [fX9_setMargin_95, if_pos qa]; rfl)
        (fun hp y => by simp only [fX10_setMargin_80, if_pos qa]; rfl)
        (fun x y1 y2 L A nb h => WF_s11 h (isN_n (by omega)) (by rw [n_t (by omega)]; omega))
      refine ⟨r, hc1, b1, hm1, ?_, ?_, x⟩
      · show (fX7_at 0 0 4 hc).bind (fun v12 => if a = 0 then (if a = 0 then ((fX7_at 0 0 3 hc).bind fun v8 => fX9_setMargin_76 a b 0 (v8 - (imax 1 v12)) hc) else _) else _) = _
        rw [c_s4 h1, Option.bind_some, if_pos qa, if_pos qa, c_s3 h1, Option.bind_some, eh]; exact x1
      · show (if a = 0 then (if a = 0 then ((fX10_its 3 hm).bind fun v6 => (fX10_its 4 hm).bind fun v7 => fX10_setMargin_62 a b 0 (v6 - (imax 1 v7)) hm) else _) else _) = _
        rw [if_pos qa, if_pos qa, i3, i4, Option.bind_some, Option.bind_some, eh]; exact x2
    · have el : T 11 + imax 1 (T 13) = nI (tn (T 11) + max 1 (tn (T 13))) := by rw [em, ← n_add, ← e11]
      have eh : T 9 - 1 = nI (tn (T 9) - 1) := by
        rw [n_lit 1]
        conv => lhs; rw [e9]
        exact n_sub (by omega)
      obtain ⟨r, hc1, b1, hm1, x1, x2, x⟩ := cm 3 (tn (T 11) + max 1 (tn (T 13))) (tn (T 9) - 1) (Or.inr rfl) (by omega) (by omega) rfl
        (fun hp y => by simp only [fX9_setMargin_95, if_neg qa]; rfl)
        (fun hp y => by simp only [fX10_setMargin_80, if_neg qa]; rfl)
        (fun x y1 y2 L A nb h => WF_s12 h (isN_n (by omega)) (by rw [n_t (by omega)]; omega) (by rw [n_t (by omega)]; omega))
      refine ⟨r, hc1, b1, hm1, ?_, ?_, x⟩
      · show (fX7_at 0 0 4 hc).bind (fun v12 => if a = 0 then _ else ((fX7_at 0 0 2 hc).bind fun v13 => if a = 0 then _ else ((fX7_at 0 0 0 hc).bind fun v9 => fX9_setMargin_76 a b (v13 + (imax 1 v12)) (v9 - 1) hc))) = _
        rw [c_s4 h1, Option.bind_some, if_neg qa, c_s2 h1, Option.bind_some, if_neg qa, c_s0 h1, Option.bind_some, el, eh]; exact x1
      · show (if a = 0 then _ else ((fX10_its 2 hm).bind fun v11 => (fX10_its 4 hm).bind fun v12 => if a = 0 then _ else ((fX10_its 0 hm).bind fun v8 => fX10_setMargin_62 a b (v11 + (imax 1 v12)) (v8 - 1) hm))) = _
        rw [if_neg qa, i2, i4, Option.bind_some, Option.bind_some, if_neg qa, i0, Option.bind_some, el, eh]; exact x2
end
