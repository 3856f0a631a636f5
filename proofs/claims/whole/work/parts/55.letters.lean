/-! ===== the letters that were read so far ===== -/
section
variable {hc hm : HP}
theorem wl_any {bb : Nat} (h : hc (0, 0, 1) 5 = nI bb) (hb : bb < 100) (c : Int32) : ∃ x, fX0_withLetter 1 c hc = some x := by
  have hf := FU_ge
  have loop : ∀ (y : Int32) (p j n : Nat), j + p = bb → p < n → ∃ x, fX0_withLetter_21 n 1 y (nI j) hc = some x := by
    intro y p
    induction p with
    | zero =>
      intro j n hj hn
      obtain ⟨n, rfl⟩ : ∃ q, n = q + 1 := ⟨n - 1, by omega⟩
      simp only [fX0_withLetter_21]
      rw [h, if_neg (by rw [n_lt (by omega) (by omega)]; omega)]
      exact ⟨_, rfl⟩
    | succ p ih =>
      intro j n hj hn
      obtain ⟨n, rfl⟩ : ∃ q, n = q + 1 := ⟨n - 1, by omega⟩
      simp only [fX0_withLetter_21]
      rw [h, if_pos (by rw [n_lt (by omega) (by omega)]; omega), at_eq, Option.bind_some, ← nI_succ]
      split
      · exact ⟨_, rfl⟩
      · exact ih (j + 1) n (by omega) (by omega)
  have k : ∀ y, ∃ x, fX0_withLetter_18 1 y hc = some x := fun y => loop y bb 0 FU (by omega) (by omega)
  simp only [fX0_withLetter, fX9_isCapital]
  split
  · rw [Option.bind_some, if_pos rfl]; exact k _
  · split
    · rw [Option.bind_some, if_pos rfl]; exact k _
    · rw [Option.bind_some, if_neg n10]; exact k _
theorem wl_both {nb : Nat} (h : ∀ i, barp nb hc hm i) {v : Nat} (hv : 97 ≤ v) (hv2 : v ≤ 122) : ∃ x, fX0_withLetter 1 (nI v) hc = some x ∧ fX10_withLetter (nI v) hm = some x ∧ (x = m1 → ∀ i, i < nb → hm (11, 20, 0) i ≠ nI v) := by
  have hf := FU_ge
  have h0 : nb ≤ 26 := h 0
  have h1 : hc (0, 0, 1) 5 = nI nb := h 1
  have h2 : hm (10, 0, 0) 2 = nI nb := h 2
  have h3 : ∀ i, i < nb → hc (11, 5, 1) i = hm (11, 20, 0) i := h 3
  have loop : ∀ (p j n n' : Nat), j + p = nb → p < n → p < n' → (∀ i, i < j → hm (11, 20, 0) i ≠ nI v) → ∃ x, fX0_withLetter_21 n 1 (nI v) (nI j) hc = some x ∧ fX10_withLetter_2 n' (nI v) (nI j) hm = some x ∧ (x = m1 → ∀ i, i < nb → hm (11, 20, 0) i ≠ nI v) := by
    intro p
    induction p with
    | zero =>
      intro j n n' hj hn hn' hi
      obtain ⟨n, rfl⟩ : ∃ q, n = q + 1 := ⟨n - 1, by omega⟩
      obtain ⟨n', rfl⟩ : ∃ q, n' = q + 1 := ⟨n' - 1, by omega⟩
      have g : ¬ nI j < nI nb := by rw [n_lt (by omega) (by omega)]; omega
      refine ⟨m1, ?_, ?_, fun _ i q => hi i (by omega)⟩
      · simp only [fX0_withLetter_21]; rw [h1, if_neg g]
      · simp only [fX10_withLetter_2]; rw [h2, if_neg g]
    | succ p ih =>
      intro j n n' hj hn hn' hi
      obtain ⟨n, rfl⟩ : ∃ q, n = q + 1 := ⟨n - 1, by omega⟩
      obtain ⟨n', rfl⟩ : ∃ q, n' = q + 1 := ⟨n' - 1, by omega⟩
      have g : nI j < nI nb := by rw [n_lt (by omega) (by omega)]; omega
      simp only [fX0_withLetter_21, fX10_withLetter_2]
      rw [h1, h2, if_pos g, if_pos g, at_n (show j < wlen 5 by show j < 26; omega), Option.bind_some, h3 j (by omega), if_pos (inb_n (show j < alen (11, 20, 0) by show j < 26; omega) (by decide)), n_c (by omega), ← nI_succ]
      by_cases q : hm (11, 20, 0) j = nI v
      · rw [if_pos q, if_pos q]
        exact ⟨nI j, rfl, rfl, fun z => absurd z (n_m1 (by omega))⟩
      · rw [if_neg q, if_neg q]
        refine ih (j + 1) n n' (by omega) (by omega) (by omega) (fun i hi' => ?_)
        by_cases z : i = j
        · rw [z]; exact q
        · exact hi i (by omega)
  obtain ⟨x, x1, x2, x3⟩ := loop nb 0 FU FU (by omega) (by omega) (by omega) (fun i hi => absurd hi (by omega))
  refine ⟨x, ?_, x2, x3⟩
  simp only [fX0_withLetter, fX9_isCapital]
  rw [if_neg (show ¬ nI v < 65 by rw [show (65 : Int32) = nI 65 from rfl, n_lt (by omega) (by omega)]; omega), if_pos (show (90 : Int32) < nI v by rw [show (90 : Int32) = nI 90 from rfl, n_lt (by omega) (by omega)]; omega), Option.bind_some, if_pos rfl]
  exact x1
/-- a letter that is free finds room -/
theorem room_26 {nb : Nat} (h : ∀ i, barp nb hc hm i) {v : Nat} (hv : 97 ≤ v) (hv2 : v ≤ 122) (hf : ∀ i, i < nb → hm (11, 20, 0) i ≠ nI v) : nb < 26 ∧ ∃ g : Nat → Option Nat, cnF g 26 = nb + 1 ∧ ∀ c, c < 26 → g c ≠ none → c = v - 97 ∨ ∃ i, i < nb ∧ hm (11, 20, 0) i = nI (97 + c) := by
  obtain ⟨g, g1, g2⟩ : ∃ g : Nat → Option Nat, cnF g 26 = nb ∧ ∀ c, c < 26 → g c ≠ none → ∃ i, i < nb ∧ hm (11, 20, 0) i = nI (97 + c) := h 9
  have gv : g (v - 97) = none := by
    by_cases q : g (v - 97) = none
    · exact q
    · obtain ⟨i, i1, i2⟩ := g2 (v - 97) (by omega) q
      rw [show 97 + (v - 97) = v by omega] at i2
      exact absurd i2 (hf i i1)
  have e := cnF_up (d := 0) gv 26
  rw [if_pos (by omega), g1] at e
  have l := cnF_le (fun c => if c = v - 97 then some 0 else g c) 26
  refine ⟨by omega, _, e, fun c hc1 q => ?_⟩
  by_cases z : c = v - 97
  · exact Or.inl z
  · rw [if_neg z] at q
    exact Or.inr (g2 c hc1 q)
end
