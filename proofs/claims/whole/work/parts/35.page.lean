/-! ===== looks at the page ===== -/
section
/-- steps 0 to n - 1, one after the other -/
def foldN {α : Type} (s : Nat → α → α) : Nat → α → α
  | 0, a => a
  | n + 1, a => s n (foldN s n a)
theorem grid {α β : Type} {R : α → β → Prop} {LN W : Nat} (sc : Nat → α → α) (sm : Nat → β → β) (hLN : LN ≤ 12) (hW : W ≤ 40)
    (h1 : ∀ l c a b, l < LN → c < W → R a b → R (sc (l * W + c) a) (sm (40 * l + c) b))
    (h2 : ∀ l c a b, l < 12 → c < 40 → (LN ≤ l ∨ W ≤ c) → R a b → R a (sm (40 * l + c) b)) {a : α} {b : β} (h : R a b) : R (foldN sc (LN * W) a) (foldN sm 480 b) := by
  have row : ∀ l, l < LN → R (foldN sc (l * W) a) (foldN sm (40 * l) b) → R (foldN sc ((l + 1) * W) a) (foldN sm (40 * (l + 1)) b) := by
    intro l hl hr
    have c1 : ∀ c, c ≤ W → R (foldN sc (l * W + c) a) (foldN sm (40 * l + c) b) := by
      intro c
      induction c with
      | zero => intro _; exact hr
      | succ c ih => intro hc; exact h1 l c _ _ hl (by omega) (ih (by omega))
    have c2 : ∀ k, W + k ≤ 40 → R (foldN sc (l * W + W) a) (foldN sm (40 * l + (W + k)) b) := by
      intro k
      induction k with
      | zero => intro _; exact c1 W (Nat.le_refl _)
      | succ k ih => intro hk; exact h2 l (W + k) _ _ (by omega) (by omega) (Or.inr (by omega)) (ih (by omega))
    have := c2 (40 - W) (by omega)
    rw [show W + (40 - W) = 40 by omega] at this
    rw [Nat.succ_mul, show 40 * (l + 1) = 40 * l + 40 by omega]
    exact this
  have rows : ∀ l, l ≤ LN → R (foldN sc (l * W) a) (foldN sm (40 * l) b) := by
    intro l
    induction l with
    | zero => intro _; rw [Nat.zero_mul]; exact h
    | succ l ih => intro hl; exact row l (by omega) (ih (by omega))
  have rest : ∀ k, LN + k ≤ 12 → R (foldN sc (LN * W) a) (foldN sm (40 * (LN + k)) b) := by
    intro k
    induction k with
    | zero => intro _; exact rows LN (Nat.le_refl _)
    | succ k ih =>
      intro hk
      have c3 : ∀ c, c ≤ 40 → R (foldN sc (LN * W) a) (foldN sm (40 * (LN + k) + c) b) := by
        intro c
        induction c with
        | zero => intro _; exact ih (by omega)
        | succ c ih2 => intro hc; exact h2 (LN + k) c _ _ (by omega) (by omega) (Or.inl (by omega)) (ih2 (by omega))
      have := c3 40 (Nat.le_refl _)
      rw [show 40 * (LN + (k + 1)) = 40 * (LN + k) + 40 by omega]
      exact this
  have := rest (12 - LN) (by omega)
  rw [show 40 * (LN + (12 - LN)) = 480 by omega] at this
  exact this
theorem foldN_p {α γ : Type} {s : Nat → α → α} {t : Nat → α × γ → α × γ} (h : ∀ n q, (t n q).1 = s n q.1) : ∀ n a c, (foldN t n (a, c)).1 = foldN s n a := by
  intro n
  induction n with
  | zero => intro a c; rfl
  | succ n ih => intro a c; show (t n (foldN t n (a, c))).1 = s n (foldN s n a); rw [h, ih]
theorem foldN_k {α : Type} {s : Nat → α → α} {t : Nat → α × Nat → α × Nat} (h : ∀ n q, (t n q).2 = q.2 + 1) : ∀ n a, (foldN t n (a, 0)).2 = n := by
  intro n
  induction n with
  | zero => intro a; rfl
  | succ n ih => intro a; show (t n (foldN t n (a, 0))).2 = n + 1; rw [h, ih]
end
section
variable {hc hm h0 : HP} {T L A : Tr0} {tb nb m : Nat} {F : Prop}
theorem c_places (h : MR F h0 hc m T L A nb) (hW : WF tb T L A nb) : fX4_places m hc = some (nI (tn (T 10) * tn (T 9))) := by
  have e9 : T 9 = nI (tn (T 9)) := hW.w.1
  have e10 : T 10 = nI (tn (T 10)) := hW.ln.1
  show (fX7_at 0 m 1 hc).bind (fun v1 => (fX7_at 0 m 0 hc).bind fun v2 => some (v1 * v2)) = _
  rw [c_s1 h, c_s0 h, Option.bind_some, Option.bind_some, ← n_mul, ← e9, ← e10]
theorem pl_b (hW : WF tb T L A nb) : tn (T 10) * tn (T 9) ≤ 480 := by
  have hw := hW.w
  have hln := hW.ln
  have : tn (T 10) * tn (T 9) ≤ 12 * 40 := Nat.mul_le_mul (by omega) (by omega)
  omega
/-- the class counts, the places one after the other -/
theorem cl_with (h : MR F h0 hc m T L A nb) (hW : WF tb T L A nb) (x : Int32) : ∀ (k j n : Nat) (a : Int32), j + k = tn (T 10) * tn (T 9) → k < n → fX4_placesWith_4 n m x (foldN (fun p v => if hc (11, 2, m) p = x then v + 1 else v) j a) (nI j) hc = some (foldN (fun p v => if hc (11, 2, m) p = x then v + 1 else v) (tn (T 10) * tn (T 9)) a) := by
  have hb := pl_b hW
  intro k
  induction k with
  | zero =>
    intro j n a hj hn
    obtain ⟨n, rfl⟩ : ∃ q, n = q + 1 := ⟨n - 1, by omega⟩
    have g : ¬ nI j < nI (tn (T 10) * tn (T 9)) := by rw [n_lt (by omega) (by omega)]; omega
    simp only [fX4_placesWith_4]
    rw [c_places h hW, Option.bind_some, if_neg g, show j = tn (T 10) * tn (T 9) by omega]
  | succ k ih =>
    intro j n a hj hn
    obtain ⟨n, rfl⟩ : ∃ q, n = q + 1 := ⟨n - 1, by omega⟩
    have g : nI j < nI (tn (T 10) * tn (T 9)) := by rw [n_lt (by omega) (by omega)]; omega
    have := ih (j + 1) n a (by omega) (by omega)
    simp only [fX4_placesWith_4, fX4_placesWith_27]
    rw [c_places h hW, Option.bind_some, if_pos g, at_n (show j < wlen 2 by show j < 480; omega), Option.bind_some, ← nI_succ, ← this]
    show _ = fX4_placesWith_4 n m x (if hc (11, 2, m) j = x then (foldN (fun p v => if hc (11, 2, m) p = x then v + 1 else v) j a) + 1 else foldN (fun p v => if hc (11, 2, m) p = x then v + 1 else v) j a) (nI (j + 1)) hc
    split <;> rfl
theorem cl_dark (h : MR F h0 hc m T L A nb) (hW : WF tb T L A nb) : ∀ (k j n : Nat) (a : Int32), j + k = tn (T 10) * tn (T 9) → k < n → fX4_allDarkness_4 n m (foldN (fun p v => v + hc (11, 3, m) p) j a) (nI j) hc = some (foldN (fun p v => v + hc (11, 3, m) p) (tn (T 10) * tn (T 9)) a) := by
  have hb := pl_b hW
  intro k
  induction k with
  | zero =>
    intro j n a hj hn
    obtain ⟨n, rfl⟩ : ∃ q, n = q + 1 := ⟨n - 1, by omega⟩
    have g : ¬ nI j < nI (tn (T 10) * tn (T 9)) := by rw [n_lt (by omega) (by omega)]; omega
    simp only [fX4_allDarkness_4]
    rw [c_places h hW, Option.bind_some, if_neg g, show j = tn (T 10) * tn (T 9) by omega]
  | succ k ih =>
    intro j n a hj hn
    obtain ⟨n, rfl⟩ : ∃ q, n = q + 1 := ⟨n - 1, by omega⟩
    have g : nI j < nI (tn (T 10) * tn (T 9)) := by rw [n_lt (by omega) (by omega)]; omega
    have := ih (j + 1) n a (by omega) (by omega)
    simp only [fX4_allDarkness_4]
    rw [c_places h hW, Option.bind_some, if_pos g, at_n (show j < wlen 3 by show j < 480; omega), Option.bind_some, ← nI_succ, ← this]
    rfl
def paC (hc : HP) (m p : Nat) (v : Int32) : Int32 := if hc (11, 2, m) p = 32 then v else (if v = m1 then nI p else (if hc (11, 3, m) p < RAt hc 3 m v then nI p else v))
theorem cl_pale (h : MR F h0 hc m T L A nb) (hW : WF tb T L A nb) : ∀ (k j n : Nat) (a : Int32), j + k = tn (T 10) * tn (T 9) → k < n → fX4_palestPlace_4 n m (foldN (paC hc m) j a) (nI j) hc = some (foldN (paC hc m) (tn (T 10) * tn (T 9)) a) := by
  have hb := pl_b hW
  intro k
  induction k with
  | zero =>
    intro j n a hj hn
    obtain ⟨n, rfl⟩ : ∃ q, n = q + 1 := ⟨n - 1, by omega⟩
    have g : ¬ nI j < nI (tn (T 10) * tn (T 9)) := by rw [n_lt (by omega) (by omega)]; omega
    simp only [fX4_palestPlace_4]
    rw [c_places h hW, Option.bind_some, if_neg g, show j = tn (T 10) * tn (T 9) by omega]
  | succ k ih =>
    intro j n a hj hn
    obtain ⟨n, rfl⟩ : ∃ q, n = q + 1 := ⟨n - 1, by omega⟩
    have g : nI j < nI (tn (T 10) * tn (T 9)) := by rw [n_lt (by omega) (by omega)]; omega
    have := ih (j + 1) n a (by omega) (by omega)
    have ee : fX4_isEmpty m (nI j) hc = some (if hc (11, 2, m) j = 32 then 1 else 0) := by
      show (fX7_at 2 m (nI j) hc).bind (fun v1 => if v1 = 32 then (some 1) else (some 0)) = _
      rw [at_n (show j < wlen 2 by show j < 480; omega), Option.bind_some]; split <;> rfl
    simp only [fX4_palestPlace_4, fX4_palestPlace_44, fX4_palestPlace_46]
    rw [c_places h hW, Option.bind_some, if_pos g, ee, Option.bind_some, at_n (show j < wlen 3 by show j < 480; omega), Option.bind_some, at_eq, Option.bind_some, ← nI_succ, ← this]
    show _ = fX4_palestPlace_4 n m (paC hc m j (foldN (paC hc m) j a)) (nI (j + 1)) hc
    unfold paC
    by_cases q : hc (11, 2, m) j = 32
    · rw [if_pos q, if_pos q, if_neg n10]
    · rw [if_neg q, if_neg q, if_pos rfl]
      by_cases q2 : foldN (paC hc m) j a = m1
      · unfold paC at q2
        rw [if_pos q2, if_pos q2]
      · unfold paC at q2
        rw [if_neg q2, if_neg q2]
        split <;> rfl
-- the reference's loops
theorem ml_with (x : Int32) : ∀ (k j n : Nat) (a : Int32), j + k = 480 → k < n → fX10_letters_27 n x (foldN (fun q v => if T (190 + q) = x then v + 1 else v) j a) (nI j) (rwm hm T) = some (foldN (fun q v => if T (190 + q) = x then v + 1 else v) 480 a, rwm hm T) := by
  intro k
  induction k with
  | zero =>
    intro j n a hj hn
    obtain ⟨n, rfl⟩ : ∃ q, n = q + 1 := ⟨n - 1, by omega⟩
    have g : ¬ nI j < (480 : Int32) := by show ¬ nI j < nI 480; rw [n_lt (by omega) (by omega)]; omega
    simp only [fX10_letters_27]
    rw [if_neg g, show j = 480 by omega]
  | succ k ih =>
    intro j n a hj hn
    obtain ⟨n, rfl⟩ : ∃ q, n = q + 1 := ⟨n - 1, by omega⟩
    have g : nI j < (480 : Int32) := by show nI j < nI 480; rw [n_lt (by omega) (by omega)]; omega
    have := ih (j + 1) n a (by omega) (by omega)
    have i190 : (190 + nI j) = nI (190 + j) := n_add 190 _
    simp only [fX10_letters_27, fX10_letters_54, flag_1, flag_0, Option.bind_some]
    rw [if_pos g, alen_r, i190, if_pos (inb_n (show 190 + j < wlen 22 by show _ < 1150; omega) (by decide)), n_c (by omega), rwm_e, ← nI_succ, ← this]
    show _ = fX10_letters_27 n x (if T (190 + j) = x then (foldN (fun q v => if T (190 + q) = x then v + 1 else v) j a) + 1 else foldN (fun q v => if T (190 + q) = x then v + 1 else v) j a) (nI (j + 1)) (rwm hm T)
    rw [add_0]
    split <;> rfl
theorem ml_fill : ∀ (k j n : Nat) (a : Int32), j + k = 480 → k < n → fX10_filled_4 n (foldN (fun q v => if T (190 + q) = 0 then v else v + 1) j a) (nI j) (rwm hm T) = some (foldN (fun q v => if T (190 + q) = 0 then v else v + 1) 480 a) := by
  intro k
  induction k with
  | zero =>
    intro j n a hj hn
    obtain ⟨n, rfl⟩ : ∃ q, n = q + 1 := ⟨n - 1, by omega⟩
    have g : ¬ nI j < (480 : Int32) := by show ¬ nI j < nI 480; rw [n_lt (by omega) (by omega)]; omega
    simp only [fX10_filled_4]
    rw [if_neg g, show j = 480 by omega]
  | succ k ih =>
    intro j n a hj hn
    obtain ⟨n, rfl⟩ : ∃ q, n = q + 1 := ⟨n - 1, by omega⟩
    have g : nI j < (480 : Int32) := by show nI j < nI 480; rw [n_lt (by omega) (by omega)]; omega
    have := ih (j + 1) n a (by omega) (by omega)
    have i190 : (190 + nI j) = nI (190 + j) := n_add 190 _
    simp only [fX10_filled_4, fX10_filled_30, flag_1, flag_0, Option.bind_some]
    rw [if_pos g, alen_r, i190, if_pos (inb_n (show 190 + j < wlen 22 by show _ < 1150; omega) (by decide)), n_c (by omega), rwm_e, ← nI_succ, ← this]
    show _ = fX10_filled_4 n (if T (190 + j) = 0 then (foldN (fun q v => if T (190 + q) = 0 then v else v + 1) j a) else foldN (fun q v => if T (190 + q) = 0 then v else v + 1) j a + 1) (nI (j + 1)) (rwm hm T)
    rw [add_0]
    split <;> rfl
def paM (T : Tr0) (q : Nat) (v : Int32) : Int32 := if T (190 + q) = 0 then v else (if v = m1 then nI q else (if T (670 + q) < T (670 + tn v) then nI q else v))
theorem ml_pale : ∀ (k j n : Nat), j + k = 480 → k < n → (∀ i, i ≤ 480 → foldN (paM T) i m1 = m1 ∨ ∃ q, q < 480 ∧ foldN (paM T) i m1 = nI q) → fX10_palest_13 n (foldN (paM T) j m1) (nI j) (rwm hm T) = some (if foldN (paM T) 480 m1 = m1 then m1 else (T 9 * idv (foldN (paM T) 480 m1) 40) + irm (foldN (paM T) 480 m1) 40, rwm hm T) := by
  intro k
  induction k with
  | zero =>
    intro j n hj hn hq
    obtain ⟨n, rfl⟩ : ∃ q, n = q + 1 := ⟨n - 1, by omega⟩
    have g : ¬ nI j < (480 : Int32) := by show ¬ nI j < nI 480; rw [n_lt (by omega) (by omega)]; omega
    simp only [fX10_palest_13]
    rw [if_neg g, its_0, Option.bind_some, show j = 480 by omega]
    split <;> rfl
  | succ k ih =>
    intro j n hj hn hq
    obtain ⟨n, rfl⟩ : ∃ q, n = q + 1 := ⟨n - 1, by omega⟩
    have g : nI j < (480 : Int32) := by show nI j < nI 480; rw [n_lt (by omega) (by omega)]; omega
    have := ih (j + 1) n (by omega) (by omega) hq
    have i190 : (190 + nI j) = nI (190 + j) := n_add 190 _
    have i670 : (670 + nI j) = nI (670 + j) := n_add 670 _
    simp only [fX10_palest_13, fX10_palest_61, fX10_palest_63]
    rw [if_pos g, alen_r, i190, i670, if_pos (inb_n (show 190 + j < wlen 22 by show _ < 1150; omega) (by decide)), if_pos (inb_n (show 670 + j < wlen 22 by show _ < 1150; omega) (by decide)), n_c (by omega), n_c (by omega), rwm_e, ← nI_succ, ← this]
    show _ = fX10_palest_13 n (paM T j (foldN (paM T) j m1)) (nI (j + 1)) (rwm hm T)
    have hj2 := hq j (by omega)
    generalize foldN (paM T) j m1 = w at hj2 ⊢
    unfold paM
    by_cases q : T (190 + j) = 0
    · rw [if_pos q, if_pos q]
    · rw [if_neg q, if_neg q]
      by_cases q2 : w = m1
      · rw [if_pos q2, if_pos q2]
      · obtain ⟨z, z1, z2⟩ := hj2.resolve_left q2
        have iz : (670 + w) = nI (670 + z) := by rw [z2]; exact n_add 670 _
        rw [if_neg q2, if_neg q2, iz, if_pos (inb_n (show 670 + z < wlen 22 by show _ < 1150; omega) (by decide)), n_c (by omega), z2, n_t (by omega)]
        split <;> rfl
theorem ml_dark : ∀ (k j n : Nat) (a : Int32), j + k = 480 → k < n → fX10_meanDarkness_20 n (foldN (fun q v => v + T (670 + q)) j a) (nI j) (rwm hm T) = ((fX10_filled (rwm hm T)).bind fun v1 => if okD (FP.ddiv (FP.i2d (foldN (fun q v => v + T (670 + q)) 480 a)) (FP.i2d v1)) = true then (some ((FP.ddiv (FP.i2d (foldN (fun q v => v + T (670 + q)) 480 a)) (FP.i2d v1)), rwm hm T)) else none) := by
  intro k
  induction k with
  | zero =>
    intro j n a hj hn
    obtain ⟨n, rfl⟩ : ∃ q, n = q + 1 := ⟨n - 1, by omega⟩
    have g : ¬ nI j < (480 : Int32) := by show ¬ nI j < nI 480; rw [n_lt (by omega) (by omega)]; omega
    simp only [fX10_meanDarkness_20]
    rw [if_neg g, show j = 480 by omega]
  | succ k ih =>
    intro j n a hj hn
    obtain ⟨n, rfl⟩ : ∃ q, n = q + 1 := ⟨n - 1, by omega⟩
    have g : nI j < (480 : Int32) := by show nI j < nI 480; rw [n_lt (by omega) (by omega)]; omega
    have := ih (j + 1) n a (by omega) (by omega)
    have i670 : (670 + nI j) = nI (670 + j) := n_add 670 _
    simp only [fX10_meanDarkness_20]
    rw [if_pos g, alen_r, i670, if_pos (inb_n (show 670 + j < wlen 22 by show _ < 1150; omega) (by decide)), n_c (by omega), rwm_e, ← nI_succ, ← this]
    rfl
end
