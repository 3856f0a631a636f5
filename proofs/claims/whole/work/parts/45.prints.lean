/-! ===== how many prints are left ===== -/
section
variable {hc hm : HP} {T L A : Tr0} {tb nb m : Nat}
/-- the ribbon of machine m, and the settings -/
def Rb (hc : HP) (m : Nat) (T : Tr0) : Prop := (∀ k, k < 13 → hc (11, 0, m) k = T (9 + k)) ∧ (∀ k, k < tn (T 18) → hc (11, 1, m) k = T (130 + k)) ∧ hc (6, 0, m) 2 = T 7 ∧ hc (6, 0, m) 3 = T 8
theorem r_feed (h : Rb hc m T) (hW : WF tb T L A nb) : ∃ hc', fX6_feed m hc = some (T (130 + tn (T 7)), hc') ∧ Rb hc' m (feT T) ∧ (∀ r, ¬ gcell m r → hc' r = hc r) ∧ isB (hc' (6, 0, m) 3) = true := by
  obtain ⟨h1, h2, h3, h4⟩ := h
  have hhe := hW.he
  have hlg := hW.lg
  have e7 : T 7 = nI (tn (T 7)) := hhe.1
  have i7 := isN_i hhe.1
  have i18 := isN_i hlg.1
  have z0 : (0 : Int32).toInt = 0 := rfl
  have z1 : (1 : Int32).toInt = 1 := rfl
  have s11 : ∀ hd : HP, hd (11, 0, m) = hc (11, 0, m) → fX7_at 0 m 11 hd = some (T 20) := fun hd e => by
    rw [show fX7_at 0 m 11 hd = some (hd (11, 0, m) 11) from at_n (k := 11) (show 11 < wlen 0 by decide), e, h1 11 (by omega)]
  have s9 : ∀ hd : HP, hd (11, 0, m) = hc (11, 0, m) → fX7_at 0 m 9 hd = some (T 18) := fun hd e => by
    rw [show fX7_at 0 m 9 hd = some (hd (11, 0, m) 9) from at_n (k := 9) (show 9 < wlen 0 by decide), e, h1 9 (by omega)]
  have o1 : ∀ j, j < 130 → (uT T (130 + tn (T 7)) (imax 0 (T (130 + tn (T 7)) - T 20))) j = T j := fun j hj => uT_n (by omega)
  have fr1 : ∀ r, ¬ gcell m r → (up hc (11, 1, m) (tn (T 7)) (imax 0 (T (130 + tn (T 7)) - T 20))) r = hc r := fun r hr => up_n (fun e => hr (Or.inl e))
  have sf : fX6_feed m hc = (if T 8 = 0 then (fX6_feed_60 m (T (130 + tn (T 7))) (T 7 - 1) (up hc (11, 1, m) (tn (T 7)) (imax 0 (T (130 + tn (T 7)) - T 20)))) else (fX6_feed_60 m (T (130 + tn (T 7))) (T 7 + 1) (up hc (11, 1, m) (tn (T 7)) (imax 0 (T (130 + tn (T 7)) - T 20))))) := by
    show (fX7_at 1 m (hc (6, 0, m) 2) hc).bind (fun v2 => (fX7_at 0 m 11 hc).bind fun v3 => (fX7_put 1 m (hc (6, 0, m) 2) (imax 0 (v2 - v3)) hc).bind fun hp6 => if (hp6 (6, 0, m) 3) = 0 then (fX6_feed_60 m v2 ((hp6 (6, 0, m) 2) - 1) hp6) else (fX6_feed_60 m v2 ((hp6 (6, 0, m) 2) + 1) hp6)) = _
    rw [h3]
    conv => lhs; rw [e7]
    rw [at_n (show tn (T 7) < wlen 1 by show tn (T 7) < 60; omega), Option.bind_some, s11 hc rfl, Option.bind_some, put_n (show tn (T 7) < wlen 1 by show tn (T 7) < 60; omega), Option.bind_some, h2 _ hhe.2, up_n (show ¬ ((6, 0, m) : RF) = (11, 1, m) by simp), h3, h4]
  rw [sf]
  have ink : ∀ k, k < tn (T 18) → (up hc (11, 1, m) (tn (T 7)) (imax 0 (T (130 + tn (T 7)) - T 20))) (11, 1, m) k = (uT T (130 + tn (T 7)) (imax 0 (T (130 + tn (T 7)) - T 20))) (130 + k) := by
    intro k hk
    by_cases q : k = tn (T 7)
    · rw [q, up_s, uT_e]
    · rw [up_o (fun e => q e.2), uT_n (by omega)]; exact h2 k hk
  have x0 : (up hc (11, 1, m) (tn (T 7)) (imax 0 (T (130 + tn (T 7)) - T 20))) (11, 0, m) = hc (11, 0, m) := up_n (by simp)
  have x6 : (up hc (11, 1, m) (tn (T 7)) (imax 0 (T (130 + tn (T 7)) - T 20))) (6, 0, m) = hc (6, 0, m) := up_n (by simp)
  generalize up hc (11, 1, m) (tn (T 7)) (imax 0 (T (130 + tn (T 7)) - T 20)) = X at fr1 ink x0 x6 ⊢
  have s60 : ∀ y : Int32, fX6_feed_60 m (T (130 + tn (T 7))) y X = (if y < 0 then (fX6_feed_78 m (T (130 + tn (T 7))) X) else (if y < T 18 then (some (T (130 + tn (T 7)), up X (6, 0, m) 2 y)) else (fX6_feed_78 m (T (130 + tn (T 7))) X))) := by
    intro y
    show (if y < 0 then (fX6_feed_78 m (T (130 + tn (T 7))) X) else ((fX7_at 0 m 9 X).bind fun v1 => if y < v1 then (some (T (130 + tn (T 7)), up X (6, 0, m) 2 y)) else (fX6_feed_78 m (T (130 + tn (T 7))) X))) = _
    rw [s9 X x0, Option.bind_some]
  have s78 : fX6_feed_78 m (T (130 + tn (T 7))) X = (if T 8 = 0 then (some (T (130 + tn (T 7)), up (up X (6, 0, m) 3 1) (6, 0, m) 4 (X (6, 0, m) 4 + 1))) else (some (T (130 + tn (T 7)), up (up X (6, 0, m) 3 0) (6, 0, m) 4 (X (6, 0, m) 4 + 1)))) := by
    show (if (X (6, 0, m) 3) = 0 then (some (T (130 + tn (T 7)), up (up X (6, 0, m) 3 1) (6, 0, m) 4 ((up X (6, 0, m) 3 1) (6, 0, m) 4 + 1))) else (some (T (130 + tn (T 7)), up (up X (6, 0, m) 3 0) (6, 0, m) 4 ((up X (6, 0, m) 3 0) (6, 0, m) 4 + 1)))) = _
    rw [up_o (by simp), up_o (by simp), x6, h4]
  have cfr : ∀ w z : Int32, ∀ r, ¬ gcell m r → (up (up X (6, 0, m) 3 w) (6, 0, m) 4 z) r = hc r := fun w z r hr => (up_n (fun e => hr (Or.inr e))).trans ((up_n (fun e => hr (Or.inr e))).trans (fr1 r hr))
  have mv : ∀ w z y : Int32, Rb (up (up X (6, 0, m) 3 w) (6, 0, m) 4 z) m (uT (uT (uT T (130 + tn (T 7)) (imax 0 (T (130 + tn (T 7)) - T 20))) 8 w) 33 y) := by
    intro w z y
    refine ⟨fun k hk => ?_, fun k hk => ?_, ?_, ?_⟩
    · rw [up_n (by simp), up_n (by simp), x0, uT_n (by omega), uT_n (by omega), o1 _ (by omega)]; exact h1 k hk
    · have hk : k < tn ((uT T (130 + tn (T 7)) (imax 0 (T (130 + tn (T 7)) - T 20))) 18) := hk
      rw [o1 18 (by omega)] at hk
      rw [up_n (by simp), up_n (by simp), uT_n (by omega), uT_n (by omega)]; exact ink k hk
    · rw [up_o (by simp), up_o (by simp), x6, uT_n (by omega), uT_n (by omega), o1 7 (by omega)]; exact h3
    · rw [up_o (by simp), up_s, uT_n (by omega), uT_e]
  have mh : ∀ y : Int32, Rb (up X (6, 0, m) 2 y) m (uT (uT T (130 + tn (T 7)) (imax 0 (T (130 + tn (T 7)) - T 20))) 7 y) := by
    intro y
    refine ⟨fun k hk => ?_, fun k hk => ?_, ?_, ?_⟩
    · rw [up_n (by simp), x0, uT_n (by omega), o1 _ (by omega)]; exact h1 k hk
    · have hk : k < tn ((uT T (130 + tn (T 7)) (imax 0 (T (130 + tn (T 7)) - T 20))) 18) := hk
      rw [o1 18 (by omega)] at hk
      rw [up_n (by simp), uT_n (by omega)]; exact ink k hk
    · rw [up_s, uT_e]
    · rw [up_o (by simp), x6, uT_n (by omega), o1 8 (by omega)]; exact h4
  have b8 : ∀ y : Int32, isB ((up X (6, 0, m) 2 y) (6, 0, m) 3) = true := fun y => by rw [up_o (by simp), x6, h4]; exact isB_of hW.fo
  have rd : feT T = roT (uT T (130 + tn (T 7)) (imax 0 (T (130 + tn (T 7)) - T 20))) := rfl
  rw [rd]
  unfold roT
  rw [o1 8 (by omega), o1 7 (by omega), o1 18 (by omega), o1 33 (by omega)]
  rcases hW.fo with f0 | f1
  · rw [if_pos f0, s60, if_neg (show ¬ T 8 = 1 by rw [f0]; decide)]
    by_cases g : T 7 = 0
    · rw [if_pos g, if_pos (show T 7 - 1 < 0 by rw [g]; decide), s78, if_pos f0]
      exact ⟨_, rfl, mv 1 _ _, cfr _ _, by rw [up_o (by simp), up_s]; decide⟩
    · have g' : tn (T 7) ≠ 0 := fun q => g (by rw [e7, q]; rfl)
      have i : (T 7 - 1).toInt = (tn (T 7) : Int) - 1 := by rw [sub_s (by omega) (by omega), i7, z1]
      rw [if_neg g, if_neg (show ¬ T 7 - 1 < 0 by rw [lt_i, i, z0]; omega), if_pos (show T 7 - 1 < T 18 by rw [lt_i, i, i18]; omega)]
      exact ⟨_, rfl, mh _, fun r hr => (up_n (fun e => hr (Or.inr e))).trans (fr1 r hr), b8 _⟩
  · have i : (T 7 + 1).toInt = (tn (T 7) : Int) + 1 := by rw [add_s (by omega) (by omega), i7, z1]
    rw [if_neg (show ¬ T 8 = 0 by rw [f1]; decide), s60, if_pos f1, if_neg (show ¬ T 7 + 1 < 0 by rw [lt_i, i, z0]; omega)]
    by_cases g : T 7 + 1 < T 18
    · rw [if_pos g, if_pos g]
      exact ⟨_, rfl, mh _, fun r hr => (up_n (fun e => hr (Or.inr e))).trans (fr1 r hr), b8 _⟩
    · rw [if_neg g, if_neg g, s78, if_neg (show ¬ T 8 = 0 by rw [f1]; decide)]
      exact ⟨_, rfl, mv 0 _ _, cfr _ _, by rw [up_o (by simp), up_s]; decide⟩
/-- the ribbon after n prints; no ink at its head -/
def itT (T : Tr0) : Nat → Tr0
  | 0 => T
  | n + 1 => feT (itT T n)
def zrT (T : Tr0) : Prop := T (130 + tn (T 7)) = 0
theorem WF_it (hW : WF tb T L A nb) : ∀ n, WF tb (itT T n) L A nb := by
  intro n
  induction n with
  | zero => exact hW
  | succ n ih => exact WF_feT ih
def totN (T : Tr0) : Nat → Nat
  | 0 => 0
  | n + 1 => totN T n + tn (T (130 + n))
theorem totN_o {S : Tr0} : ∀ n, (∀ k, k < n → S (130 + k) = T (130 + k)) → totN S n = totN T n := by
  intro n
  induction n with
  | zero => intro _; rfl
  | succ n ih =>
    intro h
    show totN S n + tn (S (130 + n)) = totN T n + tn (T (130 + n))
    rw [ih (fun k hk => h k (by omega)), h n (by omega)]
theorem totN_u {h : Nat} {x : Int32} : ∀ n, h < n → totN (uT T (130 + h) x) n + tn (T (130 + h)) = totN T n + tn x := by
  intro n
  induction n with
  | zero => intro hn; omega
  | succ n ih =>
    intro hn
    show totN (uT T (130 + h) x) n + tn ((uT T (130 + h) x) (130 + n)) + tn (T (130 + h)) = totN T n + tn (T (130 + n)) + tn x
    by_cases q : h = n
    · subst q
      rw [uT_e, totN_o (S := uT T (130 + h) x) (T := T) h (fun k hk => uT_n (by omega))]; omega
    · rw [uT_n (by omega)]
      have := ih (by omega)
      omega
theorem totN_b (hW : WF tb T L A nb) : ∀ n, n ≤ 60 → totN T n ≤ 9 * n := by
  intro n
  induction n with
  | zero => intro _; exact Nat.le_refl _
  | succ n ih =>
    intro hn
    have := ih (by omega)
    have := hW.ii n (by omega)
    show totN T n + tn (T (130 + n)) ≤ 9 * (n + 1)
    omega
theorem roT_o {T : Tr0} {j : Nat} (h7 : j ≠ 7) (h8 : j ≠ 8) (h33 : j ≠ 33) : roT T j = T j := by
  unfold roT
  split <;> split <;> simp only [uT_n h7, uT_n h8, uT_n h33]
theorem n_tn {x : Int32} (h : isN x) : x = nI (tn x) := h
theorem wear_p (hW : WF tb T L A nb) (hw : 1 ≤ tn (T 20)) : ∃ i, i ≤ 540 ∧ zrT (itT T i) := by
  by_cases hz : ∃ i, i ≤ 540 ∧ zrT (itT T i)
  · exact hz
  · exfalso
    have hlg := hW.lg
    have c18 : ∀ n, (itT T n) 18 = T 18 ∧ (itT T n) 20 = T 20 := by
      intro n
      induction n with
      | zero => exact ⟨rfl, rfl⟩
      | succ n ih =>
        have hhe := (WF_it hW n).he
        have hl2 := (WF_it hW n).lg
        have a : feT (itT T n) 18 = itT T n 18 := feT_o (by decide) (by decide) (by decide) (by omega)
        have b : feT (itT T n) 20 = itT T n 20 := feT_o (by decide) (by decide) (by decide) (by omega)
        exact ⟨a.trans ih.1, b.trans ih.2⟩
    have dec : ∀ n, n ≤ 541 → totN (itT T n) (tn (T 18)) + n ≤ 540 := by
      intro n
      induction n with
      | zero =>
        intro _
        have := totN_b hW (tn (T 18)) hlg.2.2
        show totN T (tn (T 18)) + 0 ≤ 540
        omega
      | succ n ih =>
        intro hn
        have h1 := ih (by omega)
        have nz : ¬ zrT (itT T n) := fun z => hz ⟨n, by omega, z⟩
        have hWn := WF_it hW n
        have hhe := hWn.he
        have hl2 := hWn.lg
        rw [(c18 n).1] at hhe
        have hii := hWn.ii (tn (itT T n 7)) (by omega)
        have hws := hWn.ws
        rw [(c18 n).2] at hws
        have ei := isN_i hii.1
        have ew := isN_i hws.1
        have z : (0 : Int32).toInt = 0 := rfl
        have hne : tn (itT T n (130 + tn (itT T n 7))) ≠ 0 := fun q => nz (by
          show itT T n (130 + tn (itT T n 7)) = 0
          rw [n_tn hii.1, q]; rfl)
        have hx : imax 0 (itT T n (130 + tn (itT T n 7)) - T 20) = nI (tn (itT T n (130 + tn (itT T n 7))) - tn (T 20)) := by
          rw [eqi, imax_i, sub_s (by omega) (by omega), n_i (by omega), z]; omega
        have hu := totN_u (T := itT T n) (h := tn (itT T n 7)) (x := imax 0 (itT T n (130 + tn (itT T n 7)) - T 20)) (tn (T 18)) (by omega)
        rw [hx, n_t (by omega)] at hu
        have hr : totN (feT (itT T n)) (tn (T 18)) = totN (uT (itT T n) (130 + tn (itT T n 7)) (imax 0 (itT T n (130 + tn (itT T n 7)) - itT T n 20))) (tn (T 18)) := totN_o _ (fun k hk => roT_o (by omega) (by omega) (by omega))
        rw [(c18 n).2, hx] at hr
        show totN (feT (itT T n)) (tn (T 18)) + (n + 1) ≤ 540
        omega
    have := dec 541 (Nat.le_refl _)
    omega
/-- how far the head is from a place -/
def dsT (T : Tr0) (p : Nat) : Nat := if T 8 = 1 then (if tn (T 7) ≤ p then p - tn (T 7) else (tn (T 18) - 1 - tn (T 7)) + 1 + (tn (T 18) - 1 - p)) else (if p ≤ tn (T 7) then tn (T 7) - p else tn (T 7) + 1 + p)
theorem feT_w0 (hW : WF tb T L A nb) (hw : tn (T 20) = 0) : feT T = roT T := by
  have hhe := hW.he
  have hlg := hW.lg
  have hii := hW.ii (tn (T 7)) (by omega)
  have ei := isN_i hii.1
  have ew := isN_i hW.ws.1
  have z : (0 : Int32).toInt = 0 := rfl
  have hx : imax 0 (T (130 + tn (T 7)) - T 20) = T (130 + tn (T 7)) := by
    rw [eqi, imax_i, sub_s (by omega) (by omega), z]; omega
  unfold feT
  rw [hx, uT_same]
theorem roT_ds (hW : WF tb T L A nb) {p d : Nat} (hp : p < tn (T 18)) (hd : dsT T p = d + 1) : dsT (roT T) p = d := by
  have hhe := hW.he
  have hlg := hW.lg
  have e7 : T 7 = nI (tn (T 7)) := hhe.1
  have i7 := isN_i hhe.1
  have i18 := isN_i hlg.1
  have z1 : (1 : Int32).toInt = 1 := rfl
  have c18 : roT T 18 = T 18 := roT_o (by decide) (by decide) (by decide)
  unfold dsT at hd ⊢
  rw [c18]
  rcases hW.fo with f | f
  · have n1 : ¬ T 8 = 1 := by rw [f]; decide
    rw [if_neg n1] at hd
    unfold roT
    rw [if_neg n1]
    by_cases g : T 7 = 0
    · have g0 : tn (T 7) = 0 := by rw [g]; rfl
      rw [if_pos g, if_pos (show (uT (uT T 8 1) 33 (T 33 + 1)) 8 = 1 from rfl), show (uT (uT T 8 1) 33 (T 33 + 1)) 7 = T 7 from rfl, g0, if_pos (by omega)]
      rw [g0] at hd
      by_cases q : p ≤ 0
      · rw [if_pos q] at hd; omega
      · rw [if_neg q] at hd; omega
    · have g' : tn (T 7) ≠ 0 := fun q => g (by rw [e7, q]; rfl)
      have hx : T 7 - 1 = nI (tn (T 7) - 1) := by
        rw [n_lit 1]
        conv => lhs; rw [e7]
        exact n_sub (by omega)
      rw [if_neg g, if_neg (show ¬ (uT T 7 (T 7 - 1)) 8 = 1 from n1), uT_e, hx, n_t (by omega)]
      by_cases q : p ≤ tn (T 7)
      · rw [if_pos q] at hd; rw [if_pos (by omega)]; omega
      · rw [if_neg q] at hd; rw [if_neg (by omega)]; omega
  · rw [if_pos f] at hd
    unfold roT
    rw [if_pos f]
    have i : (T 7 + 1).toInt = (tn (T 7) : Int) + 1 := by rw [add_s (by omega) (by omega), i7, z1]
    by_cases g : T 7 + 1 < T 18
    · have g2 := lt_i.mp g
      rw [i, i18] at g2
      have hx : T 7 + 1 = nI (tn (T 7) + 1) := n_succ' hhe.1 (by omega)
      rw [if_pos g, if_pos (show (uT T 7 (T 7 + 1)) 8 = 1 from f), uT_e, hx, n_t (by omega)]
      by_cases q : tn (T 7) ≤ p
      · rw [if_pos q] at hd; rw [if_pos (by omega)]; omega
      · rw [if_neg q] at hd; rw [if_neg (by omega)]; omega
    · have g2 : ¬ (T 7 + 1).toInt < (T 18).toInt := fun q => g (lt_i.mpr q)
      rw [i, i18] at g2
      rw [if_neg g, if_neg (show ¬ (uT (uT T 8 0) 33 (T 33 + 1)) 8 = 1 by show ¬ (0 : Int32) = 1; decide), show (uT (uT T 8 0) 33 (T 33 + 1)) 7 = T 7 from rfl, if_pos (by omega)]
      by_cases q : tn (T 7) ≤ p
      · rw [if_pos q] at hd; omega
      · rw [if_neg q] at hd; omega
theorem reach_p {p : Nat} : ∀ (d : Nat) (T : Tr0), WF tb T L A nb → tn (T 20) = 0 → p < tn (T 18) → dsT T p = d → ∃ i, i ≤ d ∧ tn (itT T i 7) = p ∧ ∀ k, k < 60 → itT T i (130 + k) = T (130 + k) := by
  intro d
  induction d with
  | zero =>
    intro T hW hw hp hd
    refine ⟨0, Nat.le_refl _, ?_, fun _ _ => rfl⟩
    unfold dsT at hd
    show tn (T 7) = p
    rcases hW.fo with f | f
    · rw [if_neg (by rw [f]; decide)] at hd
      split at hd <;> omega
    · rw [if_pos f] at hd
      split at hd <;> omega
  | succ d ih =>
    intro T hW hw hp hd
    have hf := feT_w0 hW hw
    obtain ⟨i, i1, i2, i3⟩ := ih (feT T) (WF_feT hW) (by rw [hf, roT_o (by decide) (by decide) (by decide)]; exact hw) (by rw [hf, roT_o (by decide) (by decide) (by decide)]; exact hp) (by rw [hf]; exact roT_ds hW hp hd)
    have it : ∀ n, itT (feT T) n = itT T (n + 1) := by
      intro n
      induction n with
      | zero => rfl
      | succ n ihn => show feT (itT (feT T) n) = feT (itT T (n + 1)); rw [ihn]
    refine ⟨i + 1, by omega, by rw [← it]; exact i2, fun k hk => ?_⟩
    rw [← it, i3 k hk, hf]; exact roT_o (by omega) (by omega) (by omega)
theorem it_w0 (hW : WF tb T L A nb) (hw : tn (T 20) = 0) : ∀ n, tn (itT T n 20) = 0 ∧ itT T n 18 = T 18 ∧ ∀ k, k < 60 → itT T n (130 + k) = T (130 + k) := by
  intro n
  induction n with
  | zero => exact ⟨hw, rfl, fun _ _ => rfl⟩
  | succ n ih =>
    have hf := feT_w0 (WF_it hW n) ih.1
    show tn (feT (itT T n) 20) = 0 ∧ feT (itT T n) 18 = T 18 ∧ ∀ k, k < 60 → feT (itT T n) (130 + k) = T (130 + k)
    rw [hf]
    exact ⟨by rw [roT_o (by decide) (by decide) (by decide)]; exact ih.1, (roT_o (by decide) (by decide) (by decide)).trans ih.2.1, fun k hk => (roT_o (by omega) (by omega) (by omega)).trans (ih.2.2 k hk)⟩
/-- no ink within 2000 prints: then within 541 -/
theorem soon_p (hW : WF tb T L A nb) {i : Nat} (hz : zrT (itT T i)) : ∃ j, j ≤ 540 ∧ zrT (itT T j) := by
  by_cases hw : 1 ≤ tn (T 20)
  · exact wear_p hW hw
  · have hw0 : tn (T 20) = 0 := by omega
    obtain ⟨a1, a2, a3⟩ := it_w0 hW hw0 i
    have hhe := (WF_it hW i).he
    have hlg := hW.lg
    have h7 := hW.he
    rw [a2] at hhe
    have hp : tn (itT T i 7) < tn (T 18) := hhe.2
    obtain ⟨j, j1, j2, j3⟩ := reach_p (dsT T (tn (itT T i 7))) T hW hw0 hp rfl
    have hd : dsT T (tn (itT T i 7)) ≤ 540 := by
      unfold dsT
      split <;> split <;> omega
    refine ⟨j, by omega, ?_⟩
    show itT T j (130 + tn (itT T j 7)) = 0
    have hz' : itT T i (130 + tn (itT T i 7)) = 0 := hz
    rw [j2, j3 _ (by omega), ← a3 _ (by omega)]; exact hz'
theorem pr_c (hW : WF tb T L A nb) : ∀ (k i n : Nat) (hd : HP), i + k = 541 → k < n → (∀ j, j < i → ¬ zrT (itT T j)) → Rb hd 1 (itT T i) → isB (hd (6, 0, 1) 3) = true → ∃ v hd1, fX9_printsLeft_42 n 1 (nI i) hd = some (.inl v, hd1) ∧ ((∃ q, q ≤ 540 ∧ v = nI q ∧ zrT (itT T q) ∧ ∀ j, j < q → ¬ zrT (itT T j)) ∨ (v = m1 ∧ ∀ j, j ≤ 540 → ¬ zrT (itT T j))) ∧ (∀ r, ¬ gcell 1 r → hd1 r = hd r) ∧ isB (hd1 (6, 0, 1) 3) = true := by
  intro k
  induction k with
  | zero =>
    intro i n hd hi hn hz hR hb
    obtain ⟨n, rfl⟩ : ∃ q, n = q + 1 := ⟨n - 1, by omega⟩
    have g : (540 : Int32) < nI i := by show nI 540 < nI i; rw [n_lt (by omega) (by omega)]; omega
    refine ⟨m1, hd, ?_, Or.inr ⟨rfl, fun j hj => hz j (by omega)⟩, fun _ _ => rfl, hb⟩
    simp only [fX9_printsLeft_42]; exact if_pos g
  | succ k ih =>
    intro i n hd hi hn hz hR hb
    obtain ⟨n, rfl⟩ : ∃ q, n = q + 1 := ⟨n - 1, by omega⟩
    have g : ¬ (540 : Int32) < nI i := by show ¬ nI 540 < nI i; rw [n_lt (by omega) (by omega)]; omega
    obtain ⟨hd1, e1, e2, e3, e4⟩ := r_feed hR (WF_it hW i)
    simp only [fX9_printsLeft_42]
    rw [if_neg g, e1, Option.bind_some]
    by_cases q : zrT (itT T i)
    · rw [if_pos (show itT T i (130 + tn (itT T i 7)) = 0 from q)]
      exact ⟨nI i, hd1, rfl, Or.inl ⟨i, by omega, rfl, q, hz⟩, e3, e4⟩
    · rw [if_neg (show ¬ itT T i (130 + tn (itT T i 7)) = 0 from q), ← nI_succ]
      obtain ⟨v, hd2, f1, f2, f3, f4⟩ := ih (i + 1) n hd1 (by omega) (by omega) (fun j hj => by
        by_cases e : j = i
        · rw [e]; exact q
        · exact hz j (by omega)) e2 e4
      exact ⟨v, hd2, f1, f2, fun r hr => (f3 r hr).trans (e3 r hr), f4⟩
theorem pr_m (hW : WF tb T L A nb) : ∀ (k i n : Nat), i + k = 2000 → k < n → (∀ j, j < i → ¬ zrT (itT T j)) → ∃ v T', fX10_printsLeft_15 n (nI i) (rwm hm (itT T i)) = some (v, cpR (rwm hm T') (11, 22, 0) (11, 23, 0) 0 0 0 1150) ∧ ((∃ q, q < 2000 ∧ v = nI q ∧ zrT (itT T q) ∧ ∀ j, j < q → ¬ zrT (itT T j)) ∨ (v = m1 ∧ ∀ j, j < 2000 → ¬ zrT (itT T j))) := by
  intro k
  induction k with
  | zero =>
    intro i n hi hn hz
    obtain ⟨n, rfl⟩ : ∃ q, n = q + 1 := ⟨n - 1, by omega⟩
    have g : ¬ nI i < (2000 : Int32) := by show ¬ nI i < nI 2000; rw [n_lt (by omega) (by omega)]; omega
    refine ⟨m1, itT T i, ?_, Or.inr ⟨rfl, fun j hj => hz j (by omega)⟩⟩
    simp only [fX10_printsLeft_15]
    rw [if_neg g, fback_ev, Option.bind_some]
  | succ k ih =>
    intro i n hi hn hz
    obtain ⟨n, rfl⟩ : ∃ q, n = q + 1 := ⟨n - 1, by omega⟩
    have g : nI i < (2000 : Int32) := by show nI i < nI 2000; rw [n_lt (by omega) (by omega)]; omega
    have hWi := WF_it hW i
    have hhe := hWi.he
    have hlg := hWi.lg
    have e7 : itT T i 7 = nI (tn (itT T i 7)) := hhe.1
    have ix : (130 + itT T i 7) = nI (130 + tn (itT T i 7)) := by rw [← n_add, ← e7]; rfl
    have o : ∀ j x, j < 130 → uT (itT T i) (130 + tn (itT T i 7)) x j = itT T i j := fun j x hj => uT_n (by omega)
    simp only [fX10_printsLeft_15]
    rw [if_pos g, alen_r, rwm_e, ix, if_pos (inb_n (show 130 + tn (itT T i 7) < wlen 22 by show _ < 1150; omega) (by decide)), n_c (by omega)]
    by_cases q : zrT (itT T i)
    · rw [if_pos (show itT T i (130 + tn (itT T i 7)) = 0 from q), fback_ev, Option.bind_some]
      exact ⟨nI i, itT T i, rfl, Or.inl ⟨i, by omega, rfl, q, hz⟩⟩
    · rw [if_neg (show ¬ itT T i (130 + tn (itT T i 7)) = 0 from q), its_11, Option.bind_some, if_pos (inb_n (show 130 + tn (itT T i 7) < wlen 22 by show _ < 1150; omega) (by decide)), rwm_up, m_runsOn (by rw [o 8 _ (by omega)]; exact hWi.fo) (by rw [o 7 _ (by omega)]; exact hhe.1) (by rw [o 18 _ (by omega)]; exact hlg.1) (by rw [o 7 _ (by omega), o 18 _ (by omega)]; exact hhe.2) (by rw [o 18 _ (by omega)]; exact hlg.2.2), Option.bind_some, ← nI_succ]
      exact ih (i + 1) n (by omega) (by omega) (fun j hj => by
        by_cases e : j = i
        · rw [e]; exact q
        · exact hz j (by omega))
theorem op_printsLeft : Op (agr [1]) fX9_printsLeft fX10_printsLeft := by
  refine opL (d0 := 0) rfl (F := fun hp => (fX7_copyFrom 0 1 0 0 hp).bind fun hp7 => (fX6_copyFrom 1 0 hp7).bind fun hp10 => fX9_printsLeft_42 FU 1 0 hp10) (G := fun hm => (fX10_putsAside hm).bind fun hp13 => fX10_printsLeft_15 FU 0 hp13) (fun hc => rfl) ?_ ?_ ?_
  · intro hm q
    simp only [fX10_printsLeft]
    rw [nl_1 q, Option.bind_some, if_neg n10]
  · intro hm q
    simp only [fX10_printsLeft]
    rw [nl_0 q, Option.bind_some, if_pos rfl]
  · intro tb hc hm sz wn os hs nb ht hv l1 T hT h0
    have hf := FU_ge
    have hS := Iv_WF hv l1 hT
    have hW := hS.2.2.2
    have hw := hW.w
    have hlg := hW.lg
    -- the class's trial ribbon
    have hcp : ∃ hd, ((fX7_copyFrom 0 1 0 0 hc).bind fun hp7 => fX6_copyFrom 1 0 hp7) = some hd ∧ Rb hd 1 T ∧ FrC 1 hc hd ∧ isB (hd (6, 0, 1) 3) = true ∧ hd (1, 0, 1) = hc (1, 0, 1) := by
      simp only [fX6_copyFrom, fX6_copyFrom_19, fX6_copyFrom_27, copy_eq hc (show ¬ (0 : Nat) = 1 by decide), copy_eq (w := 1) _ (show ¬ (0 : Nat) = 1 by decide), Option.bind_some]
      rw [if_pos (by simp [upe, CAe]; exact hv.b6 0 (by omega))]
      refine ⟨_, rfl, ⟨fun k hk => ?_, fun k hk => ?_, ?_, ?_⟩, ?_, ?_, ?_⟩
      · have hk' : k < wlen 0 := hk
        simp [upe, CAe, hk']; exact hS.1.a0 k hk
      · have hk' : k < wlen 1 := by show k < 60; omega
        simp [upe, CAe, hk']; exact hS.2.1.a0 k hk
      · simp [upe, CAe]; exact hS.2.1.a1
      · simp [upe, CAe]; exact hS.2.1.a2
      · intro r hr
        funext k
        have a : ∀ w, w < 10 → ¬ r = (11, w, 1) := fun w hw q => hr (by rw [q]; unfold ofm; simp; exact hw)
        have c : ¬ r = (6, 0, 1) := fun q => hr (by rw [q]; unfold ofm; simp)
        simp [upe, CAe, a 0 (by omega), a 1 (by omega), c]
      · simp [upe, CAe]; exact hv.b6 0 (by omega)
      · funext k
        simp [upe, CAe]
    obtain ⟨hd, d1, d2, d3, d4, d5⟩ := hcp
    obtain ⟨v, hd1, c1, c2, c3, c4⟩ := pr_c hW 541 0 FU hd (by omega) (by omega) (fun j hj => absurd hj (by omega)) d2 d4
    have g22 : (cpR hm (11, 23, 0) (11, 22, 0) 0 0 0 1150) (11, 22, 0) = T := by rw [cpR_o (by decide)]; exact hT
    obtain ⟨v', T', p1, p2⟩ := pr_m (hm := cpR hm (11, 23, 0) (11, 22, 0) 0 0 0 1150) hW 2000 0 FU (by omega) (by omega) (fun j hj => absurd hj (by omega))
    have evv : v = v' := by
      rcases c2 with ⟨q, q1, q2, q3, q4⟩ | ⟨q1, q2⟩
      · rcases p2 with ⟨q', q1', q2', q3', q4'⟩ | ⟨q1', q2'⟩
        · have : q = q' := by
            by_cases a : q < q'
            · exact absurd q3 (q4' q a)
            · by_cases b : q' < q
              · exact absurd q3' (q4 q' b)
              · omega
          rw [q2, q2', this]
        · exact absurd q3 (q2' q (by omega))
      · rcases p2 with ⟨q', q1', q2', q3', q4'⟩ | ⟨q1', q2'⟩
        · obtain ⟨j, j1, j2⟩ := soon_p hW q3'
          exact absurd j2 (q2 j j1)
        · rw [q1, q1']
    rw [show itT T 0 = T from rfl, rwm_T g22] at p1
    have fr : FrC 1 hc hd1 := fun r hr => by
      rw [c3 r (fun e => hr (by
        rcases e with e | e
        · rw [e]; unfold ofm; simp
        · rw [e]; unfold ofm; simp))]; exact d3 r hr
    have R : ∀ r, r ≠ (11, 22, 0) → r ≠ (11, 23, 0) → (cpR (rwm (cpR hm (11, 23, 0) (11, 22, 0) 0 0 0 1150) T') (11, 22, 0) (11, 23, 0) 0 0 0 1150) r = hm r := fun r a1 a2 => by
      rw [cpR_o a1, rwm_n a1, cpR_o a2]
    refine ⟨.inl v, hd1, v, _, ?_, ?_, ⟨by rw [R _ (by decide) (by decide)]; exact h0, rfl⟩, ⟨sz, wn, os, hs, nb, Iv_mono (Iv_try hv fr ?_ c4 (R _ (by decide) (by decide)) (R _ (by decide) (by decide)) (R _ (by decide) (by decide)) (R _ (by decide) (by decide)) (R _ (by decide) (by decide)) (R _ (by decide) (by decide)) (fun i _ _ _ => by rw [R _ (by decide) (by decide)]) ?_) (by omega)⟩, CFr.of fr, ?_⟩
    · show (fX7_copyFrom 0 1 0 0 hc).bind (fun hp7 => (fX6_copyFrom 1 0 hp7).bind fun hp10 => fX9_printsLeft_42 FU 1 (nI 0) hp10) = _
      rw [← Option.bind_assoc, d1, Option.bind_some]; exact c1
    · show (fX10_putsAside hm).bind (fun hp13 => fX10_printsLeft_15 FU (nI 0) hp13) = _
      rw [aside_ev, Option.bind_some, evv]; exact p1
    · rw [c3 _ (fun e => by
        rcases e with e | e
        · simp at e
        · simp at e), d5]; exact hv.b1 1 (by omega)
    · intro i hi
      have := cpR_s (hp := rwm (cpR hm (11, 23, 0) (11, 22, 0) 0 0 0 1150) T') (dst := (11, 22, 0)) (src := (11, 23, 0)) (d0 := 0) (s0 := 0) (hi := 1150) (k := i) hi
      rw [Nat.zero_add] at this
      rw [this, rwm_n (by decide)]
      have t2 := cpR_s (hp := hm) (dst := (11, 23, 0)) (src := (11, 22, 0)) (d0 := 0) (s0 := 0) (hi := 1150) (k := i) hi
      rw [Nat.zero_add] at t2
      exact t2
    · intro r hr
      exact R r (fun e => hr (by rw [e]; unfold isM; simp)) (fun e => hr (by rw [e]; unfold isM; simp))
end
