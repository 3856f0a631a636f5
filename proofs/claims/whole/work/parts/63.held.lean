/-! ===== the machine is held, and laid back ===== -/
section
theorem cpy2_loop {β : Type} {Lp : Nat → Int32 → HP → Option β} {fin : HP → Option β} {da sa db sb : RF} {N : Nat} (h1 : ¬ sa = da) (h2 : ¬ sb = da) (h3 : ¬ sa = db) (h4 : ¬ sb = db) (h5 : ¬ da = db) (hstep : ∀ n k hp, k < N → Lp (n + 1) (nI k) hp = Lp n (nI (k + 1)) (up (up hp da k (hp sa k)) db k (hp sb k))) (hend : ∀ n hp, Lp (n + 1) (nI N) hp = fin hp) : ∀ q k n hp, k + q = N → q < n → Lp n (nI k) hp = fin (cpR (cpR hp da sa 0 0 k N) db sb 0 0 k N) := by
  intro q
  induction q with
  | zero =>
    intro k n hp hk hn
    obtain ⟨n, rfl⟩ : ∃ p, n = p + 1 := ⟨n - 1, by omega⟩
    have e : ∀ (h : HP) (d s : RF), cpR h d s 0 0 N N = h := fun h d s => by
      funext r j; unfold cpR; rw [if_neg (fun p => by omega)]
    rw [show k = N by omega, hend, e, e]
  | succ q ih =>
    intro k n hp hk hn
    obtain ⟨n, rfl⟩ : ∃ p, n = p + 1 := ⟨n - 1, by omega⟩
    rw [hstep n k hp (by omega), ih (k + 1) n _ (by omega) (by omega)]
    congr 1
    funext r j
    by_cases ra : r = da
    · subst ra
      rw [cpR_o h5, cpR_o h5]
      unfold cpR
      by_cases hj : j = k
      · subst hj
        rw [if_neg (fun p => by omega), if_pos ⟨rfl, by omega, by omega⟩, up_n h5, up_s]
        congr 1; omega
      · by_cases hw : 0 + (k + 1) ≤ j ∧ j < 0 + N
        · rw [if_pos ⟨rfl, hw⟩, if_pos ⟨rfl, by omega, hw.2⟩, up_n h3, up_n h1]
        · rw [if_neg (fun p => hw p.2), if_neg (fun p => hw ⟨by omega, p.2.2⟩), up_n h5, up_o (fun p => hj p.2)]
    · by_cases rb : r = db
      · subst rb
        have ea : ∀ (h : HP) (lo : Nat), cpR h da sa 0 0 lo N sb = h sb := fun h lo => cpR_o h2
        have ez : ∀ (h : HP) (lo : Nat), cpR h da sa 0 0 lo N r = h r := fun h lo => cpR_o ra
        show (if r = r ∧ 0 + (k + 1) ≤ j ∧ j < 0 + N then cpR (up (up hp da k (hp sa k)) r k (hp sb k)) da sa 0 0 (k + 1) N sb (0 + (j - 0)) else cpR (up (up hp da k (hp sa k)) r k (hp sb k)) da sa 0 0 (k + 1) N r j) = (if r = r ∧ 0 + k ≤ j ∧ j < 0 + N then cpR hp da sa 0 0 k N sb (0 + (j - 0)) else cpR hp da sa 0 0 k N r j)
        rw [ea, ea, ez, ez]
        by_cases hj : j = k
        · subst hj
          rw [if_neg (fun p => by omega), if_pos ⟨rfl, by omega, by omega⟩, up_s]
          congr 1; omega
        · by_cases hw : 0 + (k + 1) ≤ j ∧ j < 0 + N
          · rw [if_pos ⟨rfl, hw⟩, if_pos ⟨rfl, by omega, hw.2⟩, up_n h4, up_n h2]
          · rw [if_neg (fun p => hw p.2), if_neg (fun p => hw ⟨by omega, p.2.2⟩), up_o (fun p => hj p.2), up_n ra]
      · rw [cpR_o rb, cpR_o rb, cpR_o ra, cpR_o ra, up_n rb, up_n ra]
theorem holds_ev {hm : HP} : fX10_holds hm = some (up (cpR (cpR (cpR hm (11, 26, 0) (11, 22, 0) 0 0 0 1150) (11, 27, 0) (11, 20, 0) 0 0 0 26) (11, 28, 0) (11, 21, 0) 0 0 0 26) (10, 0, 0) 24 (hm (10, 0, 0) 2)) := by
  have hf := FU_ge
  have two : ∀ h : HP, fX10_holds_29 FU (nI 0) h = some (up (cpR (cpR h (11, 27, 0) (11, 20, 0) 0 0 0 26) (11, 28, 0) (11, 21, 0) 0 0 0 26) (10, 0, 0) 24 (h (10, 0, 0) 2)) := by
    intro h
    have := cpy2_loop (Lp := fun n x hp => fX10_holds_29 n x hp) (fin := fun hp => some (up hp (10, 0, 0) 24 (hp (10, 0, 0) 2))) (da := (11, 27, 0)) (sa := (11, 20, 0)) (db := (11, 28, 0)) (sb := (11, 21, 0)) (N := 26) (by decide) (by decide) (by decide) (by decide) (by decide) ?_ ?_ 26 0 FU h (by omega) (by omega)
    · exact this.trans (by rw [cpR_o (by decide), cpR_o (by decide)])
    · intro n k hp hk
      have g : nI k < (26 : Int32) := by show nI k < nI 26; rw [n_lt (by omega) (by omega)]; exact hk
      simp only [fX10_holds_29, fX10_holds_47]
      rw [if_pos g, alen_r, alen_r, alen_r, alen_r, if_pos (inb_n (show k < wlen 20 from hk) (by decide)), if_pos (inb_n (show k < wlen 27 from hk) (by decide)), if_pos (inb_n (show k < wlen 21 from hk) (by decide)), if_pos (inb_n (show k < wlen 28 from hk) (by decide)), n_c (by omega), ← nI_succ, up_n (r' := (11, 21, 0)) (by decide)]
    · intro n hp
      simp only [fX10_holds_29]
      exact if_neg (show ¬ nI 26 < nI 26 from Int32.lt_irrefl)
  have one := cpy_loop (Lp := fun n x hp => fX10_holds_2 n x hp) (fin := fun hp => fX10_holds_29 FU (nI 0) hp) (dst := (11, 26, 0)) (src := (11, 22, 0)) (d0 := 0) (s0 := 0) (N := 1150) (by decide) ?_ ?_ 1150 0 FU hm (by omega) (by omega)
  · exact one.trans ((two _).trans (by rw [cpR_o (r := (10, 0, 0)) (by decide)]))
  · intro n k hp hk
    have g : nI k < (1150 : Int32) := by show nI k < nI 1150; rw [n_lt (by omega) (by omega)]; exact hk
    simp only [fX10_holds_2]
    rw [if_pos g, alen_r, alen_r, if_pos (inb_n (show k < wlen 22 from hk) (by decide)), if_pos (inb_n (show k < wlen 26 from hk) (by decide)), n_c (by omega), ← nI_succ, Nat.zero_add]
  · intro n hp
    simp only [fX10_holds_2]
    exact if_neg (show ¬ nI 1150 < nI 1150 from Int32.lt_irrefl)
theorem lays_ev {hm : HP} : fX10_laysBack hm = some (up (cpR (cpR (cpR hm (11, 22, 0) (11, 26, 0) 0 0 0 1150) (11, 20, 0) (11, 27, 0) 0 0 0 26) (11, 21, 0) (11, 28, 0) 0 0 0 26) (10, 0, 0) 2 (hm (10, 0, 0) 24)) := by
  have hf := FU_ge
  have two : ∀ h : HP, fX10_laysBack_29 FU (nI 0) h = some (up (cpR (cpR h (11, 20, 0) (11, 27, 0) 0 0 0 26) (11, 21, 0) (11, 28, 0) 0 0 0 26) (10, 0, 0) 2 (h (10, 0, 0) 24)) := by
    intro h
    have := cpy2_loop (Lp := fun n x hp => fX10_laysBack_29 n x hp) (fin := fun hp => some (up hp (10, 0, 0) 2 (hp (10, 0, 0) 24))) (da := (11, 20, 0)) (sa := (11, 27, 0)) (db := (11, 21, 0)) (sb := (11, 28, 0)) (N := 26) (by decide) (by decide) (by decide) (by decide) (by decide) ?_ ?_ 26 0 FU h (by omega) (by omega)
    · exact this.trans (by rw [cpR_o (by decide), cpR_o (by decide)])
    · intro n k hp hk
      have g : nI k < (26 : Int32) := by show nI k < nI 26; rw [n_lt (by omega) (by omega)]; exact hk
      simp only [fX10_laysBack_29, fX10_laysBack_47]
      rw [if_pos g, alen_r, alen_r, alen_r, alen_r, if_pos (inb_n (show k < wlen 27 from hk) (by decide)), if_pos (inb_n (show k < wlen 20 from hk) (by decide)), if_pos (inb_n (show k < wlen 28 from hk) (by decide)), if_pos (inb_n (show k < wlen 21 from hk) (by decide)), n_c (by omega), ← nI_succ, up_n (r' := (11, 28, 0)) (by decide)]
    · intro n hp
      simp only [fX10_laysBack_29]
      exact if_neg (show ¬ nI 26 < nI 26 from Int32.lt_irrefl)
  have one := cpy_loop (Lp := fun n x hp => fX10_laysBack_2 n x hp) (fin := fun hp => fX10_laysBack_29 FU (nI 0) hp) (dst := (11, 22, 0)) (src := (11, 26, 0)) (d0 := 0) (s0 := 0) (N := 1150) (by decide) ?_ ?_ 1150 0 FU hm (by omega) (by omega)
  · exact one.trans ((two _).trans (by rw [cpR_o (r := (10, 0, 0)) (by decide)]))
  · intro n k hp hk
    have g : nI k < (1150 : Int32) := by show nI k < nI 1150; rw [n_lt (by omega) (by omega)]; exact hk
    simp only [fX10_laysBack_2]
    rw [if_pos g, alen_r, alen_r, if_pos (inb_n (show k < wlen 26 from hk) (by decide)), if_pos (inb_n (show k < wlen 22 from hk) (by decide)), n_c (by omega), ← nI_succ, Nat.zero_add]
  · intro n hp
    simp only [fX10_laysBack_2]
    exact if_neg (show ¬ nI 1150 < nI 1150 from Int32.lt_irrefl)
end
