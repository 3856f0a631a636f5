/-! ===== what keeps a row well ===== -/
section
theorem WF_free {T L A : Tr0} {tb nb : Nat} (hW : WF tb T L A nb) {k : Nat} {x : Int32} (hk : (22 ≤ k ∧ k < 38) ∨ (38 ≤ k ∧ k < 90 ∧ k % 2 = 1)) : WF tb (uT T k x) L A nb := by
  have e : ∀ j, j ≠ k → uT T k x j = T j := fun j h => uT_n h
  intro i
  match i with
  | 0 => have h := hW 0; simp only [wfp] at h ⊢; rw [e 9 (by omega)]; exact h
  | 1 => have h := hW 1; simp only [wfp] at h ⊢; rw [e 10 (by omega)]; exact h
  | 2 => have h := hW 2; simp only [wfp] at h ⊢; rw [e 11 (by omega)]; rw [e 12 (by omega)]; rw [e 13 (by omega)]; rw [e 9 (by omega)]; exact h
  | 3 => have h := hW 3; simp only [wfp] at h ⊢; rw [e 14 (by omega)]; exact h
  | 4 => have h := hW 4; simp only [wfp] at h ⊢; rw [e 15 (by omega)]; exact h
  | 5 => have h := hW 5; simp only [wfp] at h ⊢; rw [e 16 (by omega)]; rw [e 17 (by omega)]; exact h
  | 6 => have h := hW 6; simp only [wfp] at h ⊢; rw [e 18 (by omega)]; exact h
  | 7 => have h := hW 7; simp only [wfp] at h ⊢; rw [e 19 (by omega)]; exact h
  | 8 => have h := hW 8; simp only [wfp] at h ⊢; rw [e 20 (by omega)]; rw [e 21 (by omega)]; exact h
  | 9 => have h := hW 9; simp only [wfp] at h ⊢; rw [e 0 (by omega)]; rw [e 10 (by omega)]; exact h
  | 10 => have h := hW 10; simp only [wfp] at h ⊢; rw [e 1 (by omega)]; rw [e 9 (by omega)]; exact h
  | 11 => have h := hW 11; simp only [wfp] at h ⊢; rw [e 2 (by omega)]; exact h
  | 12 => have h := hW 12; simp only [wfp] at h ⊢; rw [e 3 (by omega)]; exact h
  | 13 => have h := hW 13; simp only [wfp] at h ⊢; rw [e 4 (by omega)]; exact h
  | 14 => have h := hW 14; simp only [wfp] at h ⊢; rw [e 5 (by omega)]; rw [e 6 (by omega)]; exact h
  | 15 => have h := hW 15; simp only [wfp] at h ⊢; rw [e 7 (by omega)]; rw [e 18 (by omega)]; exact h
  | 16 => have h := hW 16; simp only [wfp] at h ⊢; rw [e 8 (by omega)]; exact h
  | 17 => exact hW.nb
  | 18 =>
    intro b hb; have hnb := hW.nb; rw [e (38 + 2 * b) (by omega), e 3 (by omega)]; exact hW.st b hb
  | 19 =>
    exact hW.le
  | 20 =>
    exact hW.an
  | 21 =>
    intro c hc; rw [e (90 + c) (by omega)]; exact hW.sp c hc
  | 22 =>
    intro c hc; rw [e (130 + c) (by omega)]; exact hW.ii c hc
  | 23 =>
    intro l c hl hc; rw [e (190 + 40 * l + c) (by omega)]; exact hW.sn l c hl hc
  | 24 =>
    intro l c hl hc h; rw [e (190 + 40 * l + c) (by omega), e (670 + 40 * l + c) (by omega)]; rw [e 10 (by omega), e 9 (by omega)] at h; exact hW.em l c hl hc h
  | 25 =>
    intro l c hl hc; rw [e (670 + 40 * l + c) (by omega)]; exact hW.dk l c hl hc
  | n + 26 => exact trivial
theorem WF_col {T L A : Tr0} {tb nb : Nat} (hW : WF tb T L A nb) {x : Int32} (h1 : isN x) (h2 : tn x ≤ tn (T 9)) : WF tb (uT T 1 x) L A nb := by
  have e : ∀ j, j ≠ 1 → uT T (1) x j = T j := fun j h => uT_n h
  intro i
  match i with
  | 0 => have h := hW 0; simp only [wfp] at h ⊢; rw [e 9 (by omega)]; exact h
  | 1 => have h := hW 1; simp only [wfp] at h ⊢; rw [e 10 (by omega)]; exact h
  | 2 => have h := hW 2; simp only [wfp] at h ⊢; rw [e 11 (by omega)]; rw [e 12 (by omega)]; rw [e 13 (by omega)]; rw [e 9 (by omega)]; exact h
  | 3 => have h := hW 3; simp only [wfp] at h ⊢; rw [e 14 (by omega)]; exact h
  | 4 => have h := hW 4; simp only [wfp] at h ⊢; rw [e 15 (by omega)]; exact h
  | 5 => have h := hW 5; simp only [wfp] at h ⊢; rw [e 16 (by omega)]; rw [e 17 (by omega)]; exact h
  | 6 => have h := hW 6; simp only [wfp] at h ⊢; rw [e 18 (by omega)]; exact h
  | 7 => have h := hW 7; simp only [wfp] at h ⊢; rw [e 19 (by omega)]; exact h
  | 8 => have h := hW 8; simp only [wfp] at h ⊢; rw [e 20 (by omega)]; rw [e 21 (by omega)]; exact h
  | 9 => have h := hW 9; simp only [wfp] at h ⊢; rw [e 0 (by omega)]; rw [e 10 (by omega)]; exact h
  | 10 =>
    simp only [wfp]; rw [uT_e, e 9 (by omega)]; exact ⟨h1, h2⟩
  | 11 => have h := hW 11; simp only [wfp] at h ⊢; rw [e 2 (by omega)]; exact h
  | 12 => have h := hW 12; simp only [wfp] at h ⊢; rw [e 3 (by omega)]; exact h
  | 13 => have h := hW 13; simp only [wfp] at h ⊢; rw [e 4 (by omega)]; exact h
  | 14 => have h := hW 14; simp only [wfp] at h ⊢; rw [e 5 (by omega)]; rw [e 6 (by omega)]; exact h
  | 15 => have h := hW 15; simp only [wfp] at h ⊢; rw [e 7 (by omega)]; rw [e 18 (by omega)]; exact h
  | 16 => have h := hW 16; simp only [wfp] at h ⊢; rw [e 8 (by omega)]; exact h
  | 17 => exact hW.nb
  | 18 =>
    intro b hb; have hnb := hW.nb; rw [e (38 + 2 * b) (by omega), e 3 (by omega)]; exact hW.st b hb
  | 19 =>
    exact hW.le
  | 20 =>
    exact hW.an
  | 21 =>
    intro c hc; rw [e (90 + c) (by omega)]; exact hW.sp c hc
  | 22 =>
    intro c hc; rw [e (130 + c) (by omega)]; exact hW.ii c hc
  | 23 =>
    intro l c hl hc; rw [e (190 + 40 * l + c) (by omega)]; exact hW.sn l c hl hc
  | 24 =>
    intro l c hl hc h; rw [e (190 + 40 * l + c) (by omega), e (670 + 40 * l + c) (by omega)]; rw [e 10 (by omega), e 9 (by omega)] at h; exact hW.em l c hl hc h
  | 25 =>
    intro l c hl hc; rw [e (670 + 40 * l + c) (by omega)]; exact hW.dk l c hl hc
  | n + 26 => exact trivial
theorem WF_lin {T L A : Tr0} {tb nb : Nat} (hW : WF tb T L A nb) {x : Int32} (h1 : isN x) (h2 : tn x < tn (T 10)) : WF tb (uT T 0 x) L A nb := by
  have e : ∀ j, j ≠ 0 → uT T (0) x j = T j := fun j h => uT_n h
  intro i
  match i with
  | 0 => have h := hW 0; simp only [wfp] at h ⊢; rw [e 9 (by omega)]; exact h
  | 1 => have h := hW 1; simp only [wfp] at h ⊢; rw [e 10 (by omega)]; exact h
  | 2 => have h := hW 2; simp only [wfp] at h ⊢; rw [e 11 (by omega)]; rw [e 12 (by omega)]; rw [e 13 (by omega)]; rw [e 9 (by omega)]; exact h
  | 3 => have h := hW 3; simp only [wfp] at h ⊢; rw [e 14 (by omega)]; exact h
  | 4 => have h := hW 4; simp only [wfp] at h ⊢; rw [e 15 (by omega)]; exact h
  | 5 => have h := hW 5; simp only [wfp] at h ⊢; rw [e 16 (by omega)]; rw [e 17 (by omega)]; exact h
  | 6 => have h := hW 6; simp only [wfp] at h ⊢; rw [e 18 (by omega)]; exact h
  | 7 => have h := hW 7; simp only [wfp] at h ⊢; rw [e 19 (by omega)]; exact h
  | 8 => have h := hW 8; simp only [wfp] at h ⊢; rw [e 20 (by omega)]; rw [e 21 (by omega)]; exact h
  | 9 =>
    simp only [wfp]; rw [uT_e, e 10 (by omega)]; exact ⟨h1, h2⟩
  | 10 => have h := hW 10; simp only [wfp] at h ⊢; rw [e 1 (by omega)]; rw [e 9 (by omega)]; exact h
  | 11 => have h := hW 11; simp only [wfp] at h ⊢; rw [e 2 (by omega)]; exact h
  | 12 => have h := hW 12; simp only [wfp] at h ⊢; rw [e 3 (by omega)]; exact h
  | 13 => have h := hW 13; simp only [wfp] at h ⊢; rw [e 4 (by omega)]; exact h
  | 14 => have h := hW 14; simp only [wfp] at h ⊢; rw [e 5 (by omega)]; rw [e 6 (by omega)]; exact h
  | 15 => have h := hW 15; simp only [wfp] at h ⊢; rw [e 7 (by omega)]; rw [e 18 (by omega)]; exact h
  | 16 => have h := hW 16; simp only [wfp] at h ⊢; rw [e 8 (by omega)]; exact h
  | 17 => exact hW.nb
  | 18 =>
    intro b hb; have hnb := hW.nb; rw [e (38 + 2 * b) (by omega), e 3 (by omega)]; exact hW.st b hb
  | 19 =>
    exact hW.le
  | 20 =>
    exact hW.an
  | 21 =>
    intro c hc; rw [e (90 + c) (by omega)]; exact hW.sp c hc
  | 22 =>
    intro c hc; rw [e (130 + c) (by omega)]; exact hW.ii c hc
  | 23 =>
    intro l c hl hc; rw [e (190 + 40 * l + c) (by omega)]; exact hW.sn l c hl hc
  | 24 =>
    intro l c hl hc h; rw [e (190 + 40 * l + c) (by omega), e (670 + 40 * l + c) (by omega)]; rw [e 10 (by omega), e 9 (by omega)] at h; exact hW.em l c hl hc h
  | 25 =>
    intro l c hl hc; rw [e (670 + 40 * l + c) (by omega)]; exact hW.dk l c hl hc
  | n + 26 => exact trivial
theorem WF_rel {T L A : Tr0} {tb nb : Nat} (hW : WF tb T L A nb) {x : Int32} (h1 : x = 0 ∨ x = 1) : WF tb (uT T 2 x) L A nb := by
  have e : ∀ j, j ≠ 2 → uT T (2) x j = T j := fun j h => uT_n h
  intro i
  match i with
  | 0 => have h := hW 0; simp only [wfp] at h ⊢; rw [e 9 (by omega)]; exact h
  | 1 => have h := hW 1; simp only [wfp] at h ⊢; rw [e 10 (by omega)]; exact h
  | 2 => have h := hW 2; simp only [wfp] at h ⊢; rw [e 11 (by omega)]; rw [e 12 (by omega)]; rw [e 13 (by omega)]; rw [e 9 (by omega)]; exact h
  | 3 => have h := hW 3; simp only [wfp] at h ⊢; rw [e 14 (by omega)]; exact h
  | 4 => have h := hW 4; simp only [wfp] at h ⊢; rw [e 15 (by omega)]; exact h
  | 5 => have h := hW 5; simp only [wfp] at h ⊢; rw [e 16 (by omega)]; rw [e 17 (by omega)]; exact h
  | 6 => have h := hW 6; simp only [wfp] at h ⊢; rw [e 18 (by omega)]; exact h
  | 7 => have h := hW 7; simp only [wfp] at h ⊢; rw [e 19 (by omega)]; exact h
  | 8 => have h := hW 8; simp only [wfp] at h ⊢; rw [e 20 (by omega)]; rw [e 21 (by omega)]; exact h
  | 9 => have h := hW 9; simp only [wfp] at h ⊢; rw [e 0 (by omega)]; rw [e 10 (by omega)]; exact h
  | 10 => have h := hW 10; simp only [wfp] at h ⊢; rw [e 1 (by omega)]; rw [e 9 (by omega)]; exact h
  | 11 =>
    simp only [wfp]; rw [uT_e]; exact h1
  | 12 => have h := hW 12; simp only [wfp] at h ⊢; rw [e 3 (by omega)]; exact h
  | 13 => have h := hW 13; simp only [wfp] at h ⊢; rw [e 4 (by omega)]; exact h
  | 14 => have h := hW 14; simp only [wfp] at h ⊢; rw [e 5 (by omega)]; rw [e 6 (by omega)]; exact h
  | 15 => have h := hW 15; simp only [wfp] at h ⊢; rw [e 7 (by omega)]; rw [e 18 (by omega)]; exact h
  | 16 => have h := hW 16; simp only [wfp] at h ⊢; rw [e 8 (by omega)]; exact h
  | 17 => exact hW.nb
  | 18 =>
    intro b hb; have hnb := hW.nb; rw [e (38 + 2 * b) (by omega), e 3 (by omega)]; exact hW.st b hb
  | 19 =>
    exact hW.le
  | 20 =>
    exact hW.an
  | 21 =>
    intro c hc; rw [e (90 + c) (by omega)]; exact hW.sp c hc
  | 22 =>
    intro c hc; rw [e (130 + c) (by omega)]; exact hW.ii c hc
  | 23 =>
    intro l c hl hc; rw [e (190 + 40 * l + c) (by omega)]; exact hW.sn l c hl hc
  | 24 =>
    intro l c hl hc h; rw [e (190 + 40 * l + c) (by omega), e (670 + 40 * l + c) (by omega)]; rw [e 10 (by omega), e 9 (by omega)] at h; exact hW.em l c hl hc h
  | 25 =>
    intro l c hl hc; rw [e (670 + 40 * l + c) (by omega)]; exact hW.dk l c hl hc
  | n + 26 => exact trivial
theorem WF_tim {T L A : Tr0} {tb nb : Nat} (hW : WF tb T L A nb) {x : Int32} {tb' : Nat} (h1 : isN x) (h2 : tn (T 3) ≤ tn x) (h3 : tn x ≤ tb') : WF tb' (uT T 3 x) L A nb := by
  have e : ∀ j, j ≠ 3 → uT T (3) x j = T j := fun j h => uT_n h
  intro i
  match i with
  | 0 => have h := hW 0; simp only [wfp] at h ⊢; rw [e 9 (by omega)]; exact h
  | 1 => have h := hW 1; simp only [wfp] at h ⊢; rw [e 10 (by omega)]; exact h
  | 2 => have h := hW 2; simp only [wfp] at h ⊢; rw [e 11 (by omega)]; rw [e 12 (by omega)]; rw [e 13 (by omega)]; rw [e 9 (by omega)]; exact h
  | 3 => have h := hW 3; simp only [wfp] at h ⊢; rw [e 14 (by omega)]; exact h
  | 4 => have h := hW 4; simp only [wfp] at h ⊢; rw [e 15 (by omega)]; exact h
  | 5 => have h := hW 5; simp only [wfp] at h ⊢; rw [e 16 (by omega)]; rw [e 17 (by omega)]; exact h
  | 6 => have h := hW 6; simp only [wfp] at h ⊢; rw [e 18 (by omega)]; exact h
  | 7 => have h := hW 7; simp only [wfp] at h ⊢; rw [e 19 (by omega)]; exact h
  | 8 => have h := hW 8; simp only [wfp] at h ⊢; rw [e 20 (by omega)]; rw [e 21 (by omega)]; exact h
  | 9 => have h := hW 9; simp only [wfp] at h ⊢; rw [e 0 (by omega)]; rw [e 10 (by omega)]; exact h
  | 10 => have h := hW 10; simp only [wfp] at h ⊢; rw [e 1 (by omega)]; rw [e 9 (by omega)]; exact h
  | 11 => have h := hW 11; simp only [wfp] at h ⊢; rw [e 2 (by omega)]; exact h
  | 12 =>
    simp only [wfp]; rw [uT_e]; exact ⟨h1, h3⟩
  | 13 => have h := hW 13; simp only [wfp] at h ⊢; rw [e 4 (by omega)]; exact h
  | 14 => have h := hW 14; simp only [wfp] at h ⊢; rw [e 5 (by omega)]; rw [e 6 (by omega)]; exact h
  | 15 => have h := hW 15; simp only [wfp] at h ⊢; rw [e 7 (by omega)]; rw [e 18 (by omega)]; exact h
  | 16 => have h := hW 16; simp only [wfp] at h ⊢; rw [e 8 (by omega)]; exact h
  | 17 => exact hW.nb
  | 18 =>
    intro b hb; have hnb := hW.nb; rw [e (38 + 2 * b) (by omega), uT_e]
    rcases hW.st b hb with h | ⟨h, h'⟩
    · exact Or.inl h
    · exact Or.inr ⟨h, by omega⟩
  | 19 =>
    exact hW.le
  | 20 =>
    exact hW.an
  | 21 =>
    intro c hc; rw [e (90 + c) (by omega)]; exact hW.sp c hc
  | 22 =>
    intro c hc; rw [e (130 + c) (by omega)]; exact hW.ii c hc
  | 23 =>
    intro l c hl hc; rw [e (190 + 40 * l + c) (by omega)]; exact hW.sn l c hl hc
  | 24 =>
    intro l c hl hc h; rw [e (190 + 40 * l + c) (by omega), e (670 + 40 * l + c) (by omega)]; rw [e 10 (by omega), e 9 (by omega)] at h; exact hW.em l c hl hc h
  | 25 =>
    intro l c hl hc; rw [e (670 + 40 * l + c) (by omega)]; exact hW.dk l c hl hc
  | n + 26 => exact trivial
theorem WF_lat {T L A : Tr0} {tb nb : Nat} (hW : WF tb T L A nb) {b : Nat} (hb : b < nb) : WF tb (uT T 4 (nI b)) L A nb := by
  have e : ∀ j, j ≠ 4 → uT T (4) (nI b) j = T j := fun j h => uT_n h
  intro i
  match i with
  | 0 => have h := hW 0; simp only [wfp] at h ⊢; rw [e 9 (by omega)]; exact h
  | 1 => have h := hW 1; simp only [wfp] at h ⊢; rw [e 10 (by omega)]; exact h
  | 2 => have h := hW 2; simp only [wfp] at h ⊢; rw [e 11 (by omega)]; rw [e 12 (by omega)]; rw [e 13 (by omega)]; rw [e 9 (by omega)]; exact h
  | 3 => have h := hW 3; simp only [wfp] at h ⊢; rw [e 14 (by omega)]; exact h
  | 4 => have h := hW 4; simp only [wfp] at h ⊢; rw [e 15 (by omega)]; exact h
  | 5 => have h := hW 5; simp only [wfp] at h ⊢; rw [e 16 (by omega)]; rw [e 17 (by omega)]; exact h
  | 6 => have h := hW 6; simp only [wfp] at h ⊢; rw [e 18 (by omega)]; exact h
  | 7 => have h := hW 7; simp only [wfp] at h ⊢; rw [e 19 (by omega)]; exact h
  | 8 => have h := hW 8; simp only [wfp] at h ⊢; rw [e 20 (by omega)]; rw [e 21 (by omega)]; exact h
  | 9 => have h := hW 9; simp only [wfp] at h ⊢; rw [e 0 (by omega)]; rw [e 10 (by omega)]; exact h
  | 10 => have h := hW 10; simp only [wfp] at h ⊢; rw [e 1 (by omega)]; rw [e 9 (by omega)]; exact h
  | 11 => have h := hW 11; simp only [wfp] at h ⊢; rw [e 2 (by omega)]; exact h
  | 12 => have h := hW 12; simp only [wfp] at h ⊢; rw [e 3 (by omega)]; exact h
  | 13 =>
    have hnb := hW.nb; simp only [wfp]; rw [uT_e]; exact Or.inr ⟨isN_n (by omega), by rw [n_t (by omega)]; exact hb⟩
  | 14 => have h := hW 14; simp only [wfp] at h ⊢; rw [e 5 (by omega)]; rw [e 6 (by omega)]; exact h
  | 15 => have h := hW 15; simp only [wfp] at h ⊢; rw [e 7 (by omega)]; rw [e 18 (by omega)]; exact h
  | 16 => have h := hW 16; simp only [wfp] at h ⊢; rw [e 8 (by omega)]; exact h
  | 17 => exact hW.nb
  | 18 =>
    intro b hb; have hnb := hW.nb; rw [e (38 + 2 * b) (by omega), e 3 (by omega)]; exact hW.st b hb
  | 19 =>
    exact hW.le
  | 20 =>
    exact hW.an
  | 21 =>
    intro c hc; rw [e (90 + c) (by omega)]; exact hW.sp c hc
  | 22 =>
    intro c hc; rw [e (130 + c) (by omega)]; exact hW.ii c hc
  | 23 =>
    intro l c hl hc; rw [e (190 + 40 * l + c) (by omega)]; exact hW.sn l c hl hc
  | 24 =>
    intro l c hl hc h; rw [e (190 + 40 * l + c) (by omega), e (670 + 40 * l + c) (by omega)]; rw [e 10 (by omega), e 9 (by omega)] at h; exact hW.em l c hl hc h
  | 25 =>
    intro l c hl hc; rw [e (670 + 40 * l + c) (by omega)]; exact hW.dk l c hl hc
  | n + 26 => exact trivial
theorem WF_jam {T L A : Tr0} {tb nb : Nat} (hW : WF tb T L A nb) {x y : Int32} (h : (x = m1 ∧ y = m1) ∨ (isN x ∧ isN y ∧ tn x < nb ∧ tn y < nb)) : WF tb (uT (uT T 5 x) 6 y) L A nb := by
  have e : ∀ j, j ≠ 5 ∧ j ≠ 6 → uT (uT T 5 x) 6 y j = T j := fun j h => by rw [uT_n h.2, uT_n h.1]
  intro i
  match i with
  | 0 => have h := hW 0; simp only [wfp] at h ⊢; rw [e 9 (by omega)]; exact h
  | 1 => have h := hW 1; simp only [wfp] at h ⊢; rw [e 10 (by omega)]; exact h
  | 2 => have h := hW 2; simp only [wfp] at h ⊢; rw [e 11 (by omega)]; rw [e 12 (by omega)]; rw [e 13 (by omega)]; rw [e 9 (by omega)]; exact h
  | 3 => have h := hW 3; simp only [wfp] at h ⊢; rw [e 14 (by omega)]; exact h
  | 4 => have h := hW 4; simp only [wfp] at h ⊢; rw [e 15 (by omega)]; exact h
  | 5 => have h := hW 5; simp only [wfp] at h ⊢; rw [e 16 (by omega)]; rw [e 17 (by omega)]; exact h
  | 6 => have h := hW 6; simp only [wfp] at h ⊢; rw [e 18 (by omega)]; exact h
  | 7 => have h := hW 7; simp only [wfp] at h ⊢; rw [e 19 (by omega)]; exact h
  | 8 => have h := hW 8; simp only [wfp] at h ⊢; rw [e 20 (by omega)]; rw [e 21 (by omega)]; exact h
  | 9 => have h := hW 9; simp only [wfp] at h ⊢; rw [e 0 (by omega)]; rw [e 10 (by omega)]; exact h
  | 10 => have h := hW 10; simp only [wfp] at h ⊢; rw [e 1 (by omega)]; rw [e 9 (by omega)]; exact h
  | 11 => have h := hW 11; simp only [wfp] at h ⊢; rw [e 2 (by omega)]; exact h
  | 12 => have h := hW 12; simp only [wfp] at h ⊢; rw [e 3 (by omega)]; exact h
  | 13 => have h := hW 13; simp only [wfp] at h ⊢; rw [e 4 (by omega)]; exact h
  | 14 =>
    simp only [wfp]; rw [uT_e, uT_n (show 5 ≠ 6 by decide), uT_e]; exact h
  | 15 => have h := hW 15; simp only [wfp] at h ⊢; rw [e 7 (by omega)]; rw [e 18 (by omega)]; exact h
  | 16 => have h := hW 16; simp only [wfp] at h ⊢; rw [e 8 (by omega)]; exact h
  | 17 => exact hW.nb
  | 18 =>
    intro b hb; have hnb := hW.nb; rw [e (38 + 2 * b) (by omega), e 3 (by omega)]; exact hW.st b hb
  | 19 =>
    exact hW.le
  | 20 =>
    exact hW.an
  | 21 =>
    intro c hc; rw [e (90 + c) (by omega)]; exact hW.sp c hc
  | 22 =>
    intro c hc; rw [e (130 + c) (by omega)]; exact hW.ii c hc
  | 23 =>
    intro l c hl hc; rw [e (190 + 40 * l + c) (by omega)]; exact hW.sn l c hl hc
  | 24 =>
    intro l c hl hc h; rw [e (190 + 40 * l + c) (by omega), e (670 + 40 * l + c) (by omega)]; rw [e 10 (by omega), e 9 (by omega)] at h; exact hW.em l c hl hc h
  | 25 =>
    intro l c hl hc; rw [e (670 + 40 * l + c) (by omega)]; exact hW.dk l c hl hc
  | n + 26 => exact trivial
theorem WF_hea {T L A : Tr0} {tb nb : Nat} (hW : WF tb T L A nb) {x : Int32} (h1 : isN x) (h2 : tn x < tn (T 18)) : WF tb (uT T 7 x) L A nb := by
  have e : ∀ j, j ≠ 7 → uT T (7) x j = T j := fun j h => uT_n h
  intro i
  match i with
  | 0 => have h := hW 0; simp only [wfp] at h ⊢; rw [e 9 (by omega)]; exact h
  | 1 => have h := hW 1; simp only [wfp] at h ⊢; rw [e 10 (by omega)]; exact h
  | 2 => have h := hW 2; simp only [wfp] at h ⊢; rw [e 11 (by omega)]; rw [e 12 (by omega)]; rw [e 13 (by omega)]; rw [e 9 (by omega)]; exact h
  | 3 => have h := hW 3; simp only [wfp] at h ⊢; rw [e 14 (by omega)]; exact h
  | 4 => have h := hW 4; simp only [wfp] at h ⊢; rw [e 15 (by omega)]; exact h
  | 5 => have h := hW 5; simp only [wfp] at h ⊢; rw [e 16 (by omega)]; rw [e 17 (by omega)]; exact h
  | 6 => have h := hW 6; simp only [wfp] at h ⊢; rw [e 18 (by omega)]; exact h
  | 7 => have h := hW 7; simp only [wfp] at h ⊢; rw [e 19 (by omega)]; exact h
  | 8 => have h := hW 8; simp only [wfp] at h ⊢; rw [e 20 (by omega)]; rw [e 21 (by omega)]; exact h
  | 9 => have h := hW 9; simp only [wfp] at h ⊢; rw [e 0 (by omega)]; rw [e 10 (by omega)]; exact h
  | 10 => have h := hW 10; simp only [wfp] at h ⊢; rw [e 1 (by omega)]; rw [e 9 (by omega)]; exact h
  | 11 => have h := hW 11; simp only [wfp] at h ⊢; rw [e 2 (by omega)]; exact h
  | 12 => have h := hW 12; simp only [wfp] at h ⊢; rw [e 3 (by omega)]; exact h
  | 13 => have h := hW 13; simp only [wfp] at h ⊢; rw [e 4 (by omega)]; exact h
  | 14 => have h := hW 14; simp only [wfp] at h ⊢; rw [e 5 (by omega)]; rw [e 6 (by omega)]; exact h
  | 15 =>
    simp only [wfp]; rw [uT_e, e 18 (by omega)]; exact ⟨h1, h2⟩
  | 16 => have h := hW 16; simp only [wfp] at h ⊢; rw [e 8 (by omega)]; exact h
  | 17 => exact hW.nb
  | 18 =>
    intro b hb; have hnb := hW.nb; rw [e (38 + 2 * b) (by omega), e 3 (by omega)]; exact hW.st b hb
  | 19 =>
    exact hW.le
  | 20 =>
    exact hW.an
  | 21 =>
    intro c hc; rw [e (90 + c) (by omega)]; exact hW.sp c hc
  | 22 =>
    intro c hc; rw [e (130 + c) (by omega)]; exact hW.ii c hc
  | 23 =>
    intro l c hl hc; rw [e (190 + 40 * l + c) (by omega)]; exact hW.sn l c hl hc
  | 24 =>
    intro l c hl hc h; rw [e (190 + 40 * l + c) (by omega), e (670 + 40 * l + c) (by omega)]; rw [e 10 (by omega), e 9 (by omega)] at h; exact hW.em l c hl hc h
  | 25 =>
    intro l c hl hc; rw [e (670 + 40 * l + c) (by omega)]; exact hW.dk l c hl hc
  | n + 26 => exact trivial
theorem WF_fwd {T L A : Tr0} {tb nb : Nat} (hW : WF tb T L A nb) {x : Int32} (h1 : x = 0 ∨ x = 1) : WF tb (uT T 8 x) L A nb := by
  have e : ∀ j, j ≠ 8 → uT T (8) x j = T j := fun j h => uT_n h
  intro i
  match i with
  | 0 => have h := hW 0; simp only [wfp] at h ⊢; rw [e 9 (by omega)]; exact h
  | 1 => have h := hW 1; simp only [wfp] at h ⊢; rw [e 10 (by omega)]; exact h
  | 2 => have h := hW 2; simp only [wfp] at h ⊢; rw [e 11 (by omega)]; rw [e 12 (by omega)]; rw [e 13 (by omega)]; rw [e 9 (by omega)]; exact h
  | 3 => have h := hW 3; simp only [wfp] at h ⊢; rw [e 14 (by omega)]; exact h
  | 4 => have h := hW 4; simp only [wfp] at h ⊢; rw [e 15 (by omega)]; exact h
  | 5 => have h := hW 5; simp only [wfp] at h ⊢; rw [e 16 (by omega)]; rw [e 17 (by omega)]; exact h
  | 6 => have h := hW 6; simp only [wfp] at h ⊢; rw [e 18 (by omega)]; exact h
  | 7 => have h := hW 7; simp only [wfp] at h ⊢; rw [e 19 (by omega)]; exact h
  | 8 => have h := hW 8; simp only [wfp] at h ⊢; rw [e 20 (by omega)]; rw [e 21 (by omega)]; exact h
  | 9 => have h := hW 9; simp only [wfp] at h ⊢; rw [e 0 (by omega)]; rw [e 10 (by omega)]; exact h
  | 10 => have h := hW 10; simp only [wfp] at h ⊢; rw [e 1 (by omega)]; rw [e 9 (by omega)]; exact h
  | 11 => have h := hW 11; simp only [wfp] at h ⊢; rw [e 2 (by omega)]; exact h
  | 12 => have h := hW 12; simp only [wfp] at h ⊢; rw [e 3 (by omega)]; exact h
  | 13 => have h := hW 13; simp only [wfp] at h ⊢; rw [e 4 (by omega)]; exact h
  | 14 => have h := hW 14; simp only [wfp] at h ⊢; rw [e 5 (by omega)]; rw [e 6 (by omega)]; exact h
  | 15 => have h := hW 15; simp only [wfp] at h ⊢; rw [e 7 (by omega)]; rw [e 18 (by omega)]; exact h
  | 16 =>
    simp only [wfp]; rw [uT_e]; exact h1
  | 17 => exact hW.nb
  | 18 =>
    intro b hb; have hnb := hW.nb; rw [e (38 + 2 * b) (by omega), e 3 (by omega)]; exact hW.st b hb
  | 19 =>
    exact hW.le
  | 20 =>
    exact hW.an
  | 21 =>
    intro c hc; rw [e (90 + c) (by omega)]; exact hW.sp c hc
  | 22 =>
    intro c hc; rw [e (130 + c) (by omega)]; exact hW.ii c hc
  | 23 =>
    intro l c hl hc; rw [e (190 + 40 * l + c) (by omega)]; exact hW.sn l c hl hc
  | 24 =>
    intro l c hl hc h; rw [e (190 + 40 * l + c) (by omega), e (670 + 40 * l + c) (by omega)]; rw [e 10 (by omega), e 9 (by omega)] at h; exact hW.em l c hl hc h
  | 25 =>
    intro l c hl hc; rw [e (670 + 40 * l + c) (by omega)]; exact hW.dk l c hl hc
  | n + 26 => exact trivial
theorem WF_str {T L A : Tr0} {tb nb : Nat} (hW : WF tb T L A nb) {b : Nat} {x : Int32} (hb0 : b < nb) (h1 : x = m1 ∨ (isN x ∧ tn x ≤ tn (T 3))) : WF tb (uT T (38 + 2 * b) x) L A nb := by
  have hnb := hW.nb
  have e : ∀ j, j ≠ 38 + 2 * b → uT T (38 + 2 * b) x j = T j := fun j h => uT_n h
  intro i
  match i with
  | 0 => have h := hW 0; simp only [wfp] at h ⊢; rw [e 9 (by omega)]; exact h
  | 1 => have h := hW 1; simp only [wfp] at h ⊢; rw [e 10 (by omega)]; exact h
  | 2 => have h := hW 2; simp only [wfp] at h ⊢; rw [e 11 (by omega)]; rw [e 12 (by omega)]; rw [e 13 (by omega)]; rw [e 9 (by omega)]; exact h
  | 3 => have h := hW 3; simp only [wfp] at h ⊢; rw [e 14 (by omega)]; exact h
  | 4 => have h := hW 4; simp only [wfp] at h ⊢; rw [e 15 (by omega)]; exact h
  | 5 => have h := hW 5; simp only [wfp] at h ⊢; rw [e 16 (by omega)]; rw [e 17 (by omega)]; exact h
  | 6 => have h := hW 6; simp only [wfp] at h ⊢; rw [e 18 (by omega)]; exact h
  | 7 => have h := hW 7; simp only [wfp] at h ⊢; rw [e 19 (by omega)]; exact h
  | 8 => have h := hW 8; simp only [wfp] at h ⊢; rw [e 20 (by omega)]; rw [e 21 (by omega)]; exact h
  | 9 => have h := hW 9; simp only [wfp] at h ⊢; rw [e 0 (by omega)]; rw [e 10 (by omega)]; exact h
  | 10 => have h := hW 10; simp only [wfp] at h ⊢; rw [e 1 (by omega)]; rw [e 9 (by omega)]; exact h
  | 11 => have h := hW 11; simp only [wfp] at h ⊢; rw [e 2 (by omega)]; exact h
  | 12 => have h := hW 12; simp only [wfp] at h ⊢; rw [e 3 (by omega)]; exact h
  | 13 => have h := hW 13; simp only [wfp] at h ⊢; rw [e 4 (by omega)]; exact h
  | 14 => have h := hW 14; simp only [wfp] at h ⊢; rw [e 5 (by omega)]; rw [e 6 (by omega)]; exact h
  | 15 => have h := hW 15; simp only [wfp] at h ⊢; rw [e 7 (by omega)]; rw [e 18 (by omega)]; exact h
  | 16 => have h := hW 16; simp only [wfp] at h ⊢; rw [e 8 (by omega)]; exact h
  | 17 => exact hW.nb
  | 18 =>
    intro c hc; rw [e 3 (by omega)]
    by_cases h : c = b
    · rw [h, uT_e]; exact h1
    · rw [e (38 + 2 * c) (by omega)]; exact hW.st c hc
  | 19 =>
    exact hW.le
  | 20 =>
    exact hW.an
  | 21 =>
    intro c hc; rw [e (90 + c) (by omega)]; exact hW.sp c hc
  | 22 =>
    intro c hc; rw [e (130 + c) (by omega)]; exact hW.ii c hc
  | 23 =>
    intro l c hl hc; rw [e (190 + 40 * l + c) (by omega)]; exact hW.sn l c hl hc
  | 24 =>
    intro l c hl hc h; rw [e (190 + 40 * l + c) (by omega), e (670 + 40 * l + c) (by omega)]; rw [e 10 (by omega), e 9 (by omega)] at h; exact hW.em l c hl hc h
  | 25 =>
    intro l c hl hc; rw [e (670 + 40 * l + c) (by omega)]; exact hW.dk l c hl hc
  | n + 26 => exact trivial
theorem WF_stp {T L A : Tr0} {tb nb : Nat} (hW : WF tb T L A nb) {c : Nat} {x : Int32} (hc0 : c < 40) (h1 : x = 0 ∨ x = 1) : WF tb (uT T (90 + c) x) L A nb := by
  have e : ∀ j, j ≠ 90 + c → uT T (90 + c) x j = T j := fun j h => uT_n h
  intro i
  match i with
  | 0 => have h := hW 0; simp only [wfp] at h ⊢; rw [e 9 (by omega)]; exact h
  | 1 => have h := hW 1; simp only [wfp] at h ⊢; rw [e 10 (by omega)]; exact h
  | 2 => have h := hW 2; simp only [wfp] at h ⊢; rw [e 11 (by omega)]; rw [e 12 (by omega)]; rw [e 13 (by omega)]; rw [e 9 (by omega)]; exact h
  | 3 => have h := hW 3; simp only [wfp] at h ⊢; rw [e 14 (by omega)]; exact h
  | 4 => have h := hW 4; simp only [wfp] at h ⊢; rw [e 15 (by omega)]; exact h
  | 5 => have h := hW 5; simp only [wfp] at h ⊢; rw [e 16 (by omega)]; rw [e 17 (by omega)]; exact h
  | 6 => have h := hW 6; simp only [wfp] at h ⊢; rw [e 18 (by omega)]; exact h
  | 7 => have h := hW 7; simp only [wfp] at h ⊢; rw [e 19 (by omega)]; exact h
  | 8 => have h := hW 8; simp only [wfp] at h ⊢; rw [e 20 (by omega)]; rw [e 21 (by omega)]; exact h
  | 9 => have h := hW 9; simp only [wfp] at h ⊢; rw [e 0 (by omega)]; rw [e 10 (by omega)]; exact h
  | 10 => have h := hW 10; simp only [wfp] at h ⊢; rw [e 1 (by omega)]; rw [e 9 (by omega)]; exact h
  | 11 => have h := hW 11; simp only [wfp] at h ⊢; rw [e 2 (by omega)]; exact h
  | 12 => have h := hW 12; simp only [wfp] at h ⊢; rw [e 3 (by omega)]; exact h
  | 13 => have h := hW 13; simp only [wfp] at h ⊢; rw [e 4 (by omega)]; exact h
  | 14 => have h := hW 14; simp only [wfp] at h ⊢; rw [e 5 (by omega)]; rw [e 6 (by omega)]; exact h
  | 15 => have h := hW 15; simp only [wfp] at h ⊢; rw [e 7 (by omega)]; rw [e 18 (by omega)]; exact h
  | 16 => have h := hW 16; simp only [wfp] at h ⊢; rw [e 8 (by omega)]; exact h
  | 17 => exact hW.nb
  | 18 =>
    intro b hb; have hnb := hW.nb; rw [e (38 + 2 * b) (by omega), e 3 (by omega)]; exact hW.st b hb
  | 19 =>
    exact hW.le
  | 20 =>
    exact hW.an
  | 21 =>
    intro d hd
    by_cases h : d = c
    · rw [h, uT_e]; exact h1
    · rw [e (90 + d) (by omega)]; exact hW.sp d hd
  | 22 =>
    intro d hd; rw [e (130 + d) (by omega)]; exact hW.ii d hd
  | 23 =>
    intro l d hl hd; rw [e (190 + 40 * l + d) (by omega)]; exact hW.sn l d hl hd
  | 24 =>
    intro l d hl hd h; rw [e (190 + 40 * l + d) (by omega), e (670 + 40 * l + d) (by omega)]; rw [e 10 (by omega), e 9 (by omega)] at h; exact hW.em l d hl hd h
  | 25 =>
    intro l d hl hd; rw [e (670 + 40 * l + d) (by omega)]; exact hW.dk l d hl hd
  | n + 26 => exact trivial
theorem WF_ink {T L A : Tr0} {tb nb : Nat} (hW : WF tb T L A nb) {q : Nat} {x : Int32} (hq : q < 60) (h1 : isN x) (h2 : tn x ≤ 9) : WF tb (uT T (130 + q) x) L A nb := by
  have e : ∀ j, j ≠ 130 + q → uT T (130 + q) x j = T j := fun j h => uT_n h
  intro i
  match i with
  | 0 => have h := hW 0; simp only [wfp] at h ⊢; rw [e 9 (by omega)]; exact h
  | 1 => have h := hW 1; simp only [wfp] at h ⊢; rw [e 10 (by omega)]; exact h
  | 2 => have h := hW 2; simp only [wfp] at h ⊢; rw [e 11 (by omega)]; rw [e 12 (by omega)]; rw [e 13 (by omega)]; rw [e 9 (by omega)]; exact h
  | 3 => have h := hW 3; simp only [wfp] at h ⊢; rw [e 14 (by omega)]; exact h
  | 4 => have h := hW 4; simp only [wfp] at h ⊢; rw [e 15 (by omega)]; exact h
  | 5 => have h := hW 5; simp only [wfp] at h ⊢; rw [e 16 (by omega)]; rw [e 17 (by omega)]; exact h
  | 6 => have h := hW 6; simp only [wfp] at h ⊢; rw [e 18 (by omega)]; exact h
  | 7 => have h := hW 7; simp only [wfp] at h ⊢; rw [e 19 (by omega)]; exact h
  | 8 => have h := hW 8; simp only [wfp] at h ⊢; rw [e 20 (by omega)]; rw [e 21 (by omega)]; exact h
  | 9 => have h := hW 9; simp only [wfp] at h ⊢; rw [e 0 (by omega)]; rw [e 10 (by omega)]; exact h
  | 10 => have h := hW 10; simp only [wfp] at h ⊢; rw [e 1 (by omega)]; rw [e 9 (by omega)]; exact h
  | 11 => have h := hW 11; simp only [wfp] at h ⊢; rw [e 2 (by omega)]; exact h
  | 12 => have h := hW 12; simp only [wfp] at h ⊢; rw [e 3 (by omega)]; exact h
  | 13 => have h := hW 13; simp only [wfp] at h ⊢; rw [e 4 (by omega)]; exact h
  | 14 => have h := hW 14; simp only [wfp] at h ⊢; rw [e 5 (by omega)]; rw [e 6 (by omega)]; exact h
  | 15 => have h := hW 15; simp only [wfp] at h ⊢; rw [e 7 (by omega)]; rw [e 18 (by omega)]; exact h
  | 16 => have h := hW 16; simp only [wfp] at h ⊢; rw [e 8 (by omega)]; exact h
  | 17 => exact hW.nb
  | 18 =>
    intro b hb; have hnb := hW.nb; rw [e (38 + 2 * b) (by omega), e 3 (by omega)]; exact hW.st b hb
  | 19 =>
    exact hW.le
  | 20 =>
    exact hW.an
  | 21 =>
    intro c hc; rw [e (90 + c) (by omega)]; exact hW.sp c hc
  | 22 =>
    intro d hd
    by_cases h : d = q
    · rw [h, uT_e]; exact ⟨h1, h2⟩
    · rw [e (130 + d) (by omega)]; exact hW.ii d hd
  | 23 =>
    intro l c hl hc; rw [e (190 + 40 * l + c) (by omega)]; exact hW.sn l c hl hc
  | 24 =>
    intro l c hl hc h; rw [e (190 + 40 * l + c) (by omega), e (670 + 40 * l + c) (by omega)]; rw [e 10 (by omega), e 9 (by omega)] at h; exact hW.em l c hl hc h
  | 25 =>
    intro l c hl hc; rw [e (670 + 40 * l + c) (by omega)]; exact hW.dk l c hl hc
  | n + 26 => exact trivial
theorem WF_sgn {T L A : Tr0} {tb nb : Nat} (hW : WF tb T L A nb) {l0 c0 : Nat} {x : Int32} (hl0 : l0 < tn (T 10)) (hc0 : c0 < tn (T 9)) (h1 : x ≠ 32) : WF tb (uT T (190 + 40 * l0 + c0) x) L A nb := by
  have hw := hW.w
  have hln := hW.ln
  have e : ∀ j, j ≠ 190 + 40 * l0 + c0 → uT T (190 + 40 * l0 + c0) x j = T j := fun j h => uT_n h
  intro i
  match i with
  | 0 => have h := hW 0; simp only [wfp] at h ⊢; rw [e 9 (by omega)]; exact h
  | 1 => have h := hW 1; simp only [wfp] at h ⊢; rw [e 10 (by omega)]; exact h
  | 2 => have h := hW 2; simp only [wfp] at h ⊢; rw [e 11 (by omega)]; rw [e 12 (by omega)]; rw [e 13 (by omega)]; rw [e 9 (by omega)]; exact h
  | 3 => have h := hW 3; simp only [wfp] at h ⊢; rw [e 14 (by omega)]; exact h
  | 4 => have h := hW 4; simp only [wfp] at h ⊢; rw [e 15 (by omega)]; exact h
  | 5 => have h := hW 5; simp only [wfp] at h ⊢; rw [e 16 (by omega)]; rw [e 17 (by omega)]; exact h
  | 6 => have h := hW 6; simp only [wfp] at h ⊢; rw [e 18 (by omega)]; exact h
  | 7 => have h := hW 7; simp only [wfp] at h ⊢; rw [e 19 (by omega)]; exact h
  | 8 => have h := hW 8; simp only [wfp] at h ⊢; rw [e 20 (by omega)]; rw [e 21 (by omega)]; exact h
  | 9 => have h := hW 9; simp only [wfp] at h ⊢; rw [e 0 (by omega)]; rw [e 10 (by omega)]; exact h
  | 10 => have h := hW 10; simp only [wfp] at h ⊢; rw [e 1 (by omega)]; rw [e 9 (by omega)]; exact h
  | 11 => have h := hW 11; simp only [wfp] at h ⊢; rw [e 2 (by omega)]; exact h
  | 12 => have h := hW 12; simp only [wfp] at h ⊢; rw [e 3 (by omega)]; exact h
  | 13 => have h := hW 13; simp only [wfp] at h ⊢; rw [e 4 (by omega)]; exact h
  | 14 => have h := hW 14; simp only [wfp] at h ⊢; rw [e 5 (by omega)]; rw [e 6 (by omega)]; exact h
  | 15 => have h := hW 15; simp only [wfp] at h ⊢; rw [e 7 (by omega)]; rw [e 18 (by omega)]; exact h
  | 16 => have h := hW 16; simp only [wfp] at h ⊢; rw [e 8 (by omega)]; exact h
  | 17 => exact hW.nb
  | 18 =>
    intro b hb; have hnb := hW.nb; rw [e (38 + 2 * b) (by omega), e 3 (by omega)]; exact hW.st b hb
  | 19 =>
    exact hW.le
  | 20 =>
    exact hW.an
  | 21 =>
    intro c hc; rw [e (90 + c) (by omega)]; exact hW.sp c hc
  | 22 =>
    intro c hc; rw [e (130 + c) (by omega)]; exact hW.ii c hc
  | 23 =>
    intro l c hl hc
    by_cases h : 190 + 40 * l + c = 190 + 40 * l0 + c0
    · rw [h, uT_e]; exact h1
    · rw [e _ h]; exact hW.sn l c hl hc
  | 24 =>
    intro l c hl hc h; rw [e 10 (by omega), e 9 (by omega)] at h; rw [e (190 + 40 * l + c) (by omega), e (670 + 40 * l + c) (by omega)]; exact hW.em l c hl hc h
  | 25 =>
    intro l c hl hc; rw [e (670 + 40 * l + c) (by omega)]; exact hW.dk l c hl hc
  | n + 26 => exact trivial
theorem WF_drk {T L A : Tr0} {tb nb : Nat} (hW : WF tb T L A nb) {l0 c0 : Nat} {x : Int32} (hl0 : l0 < tn (T 10)) (hc0 : c0 < tn (T 9)) (h1 : isN x ∧ tn x ≤ 9) : WF tb (uT T (670 + 40 * l0 + c0) x) L A nb := by
  have hw := hW.w
  have hln := hW.ln
  have e : ∀ j, j ≠ 670 + 40 * l0 + c0 → uT T (670 + 40 * l0 + c0) x j = T j := fun j h => uT_n h
  intro i
  match i with
  | 0 => have h := hW 0; simp only [wfp] at h ⊢; rw [e 9 (by omega)]; exact h
  | 1 => have h := hW 1; simp only [wfp] at h ⊢; rw [e 10 (by omega)]; exact h
  | 2 => have h := hW 2; simp only [wfp] at h ⊢; rw [e 11 (by omega)]; rw [e 12 (by omega)]; rw [e 13 (by omega)]; rw [e 9 (by omega)]; exact h
  | 3 => have h := hW 3; simp only [wfp] at h ⊢; rw [e 14 (by omega)]; exact h
  | 4 => have h := hW 4; simp only [wfp] at h ⊢; rw [e 15 (by omega)]; exact h
  | 5 => have h := hW 5; simp only [wfp] at h ⊢; rw [e 16 (by omega)]; rw [e 17 (by omega)]; exact h
  | 6 => have h := hW 6; simp only [wfp] at h ⊢; rw [e 18 (by omega)]; exact h
  | 7 => have h := hW 7; simp only [wfp] at h ⊢; rw [e 19 (by omega)]; exact h
  | 8 => have h := hW 8; simp only [wfp] at h ⊢; rw [e 20 (by omega)]; rw [e 21 (by omega)]; exact h
  | 9 => have h := hW 9; simp only [wfp] at h ⊢; rw [e 0 (by omega)]; rw [e 10 (by omega)]; exact h
  | 10 => have h := hW 10; simp only [wfp] at h ⊢; rw [e 1 (by omega)]; rw [e 9 (by omega)]; exact h
  | 11 => have h := hW 11; simp only [wfp] at h ⊢; rw [e 2 (by omega)]; exact h
  | 12 => have h := hW 12; simp only [wfp] at h ⊢; rw [e 3 (by omega)]; exact h
  | 13 => have h := hW 13; simp only [wfp] at h ⊢; rw [e 4 (by omega)]; exact h
  | 14 => have h := hW 14; simp only [wfp] at h ⊢; rw [e 5 (by omega)]; rw [e 6 (by omega)]; exact h
  | 15 => have h := hW 15; simp only [wfp] at h ⊢; rw [e 7 (by omega)]; rw [e 18 (by omega)]; exact h
  | 16 => have h := hW 16; simp only [wfp] at h ⊢; rw [e 8 (by omega)]; exact h
  | 17 => exact hW.nb
  | 18 =>
    intro b hb; have hnb := hW.nb; rw [e (38 + 2 * b) (by omega), e 3 (by omega)]; exact hW.st b hb
  | 19 =>
    exact hW.le
  | 20 =>
    exact hW.an
  | 21 =>
    intro c hc; rw [e (90 + c) (by omega)]; exact hW.sp c hc
  | 22 =>
    intro c hc; rw [e (130 + c) (by omega)]; exact hW.ii c hc
  | 23 =>
    intro l c hl hc; rw [e (190 + 40 * l + c) (by omega)]; exact hW.sn l c hl hc
  | 24 =>
    intro l c hl hc h; rw [e 10 (by omega), e 9 (by omega)] at h; rw [e (190 + 40 * l + c) (by omega), e (670 + 40 * l + c) (by omega)]; exact hW.em l c hl hc h
  | 25 =>
    intro l c hl hc
    by_cases h : 670 + 40 * l + c = 670 + 40 * l0 + c0
    · rw [h, uT_e]; exact h1
    · rw [e _ h]; exact hW.dk l c hl hc
  | n + 26 => exact trivial
end
