/-! ===== the bounds of the settings ===== -/
section
def lowF (S : Tr0) : Nat → Int32
  | 0 => 10 | 1 => 1 | 2 => 0 | 3 => S 2 + 1 | 4 => 0 | 5 => 1 | 6 => 1 | 7 => 0 | 8 => 0 | 9 => 5 | 10 => 1 | _ => 0
def higF (S : Tr0) : Nat → Int32
  | 0 => 40 | 1 => 12 | 2 => S 0 - 2 | 3 => S 0 - 1 | 4 => S 3 - S 2 | 5 => 999 | 6 => 99 | 7 => 99 | 8 => 99 | 9 => 60 | 10 => 9 | _ => 3
theorem at01 {j : Nat} {hc : HP} (h : j < 13) : fX7_at 0 1 (nI j) hc = some (hc (11, 0, 1) j) := at_n (show j < wlen 0 from h)
theorem low_c {hc : HP} : ∀ k, k < 12 → fX9_lowest 0 1 (nI k) hc = some (lowF (hc (11, 0, 1)) k) := by
  intro k hk
  match k with
  | 0 => rfl
  | 1 => rfl
  | 2 => rfl
  | 3 =>
    show (fX7_at 0 1 (nI 2) hc).bind (fun v1 => some (v1 + 1)) = _
    rw [at01 (by omega), Option.bind_some]; rfl
  | 4 => rfl
  | 5 => rfl
  | 6 => rfl
  | 7 => rfl
  | 8 => rfl
  | 9 => rfl
  | 10 => rfl
  | 11 => rfl
  | k + 12 => omega
theorem hig_c {hc : HP} : ∀ k, k < 12 → fX9_highest 0 1 (nI k) hc = some (higF (hc (11, 0, 1)) k) := by
  intro k hk
  match k with
  | 0 => rfl
  | 1 => rfl
  | 2 =>
    show (fX7_at 0 1 (nI 0) hc).bind (fun v1 => some (v1 - 2)) = _
    rw [at01 (by omega), Option.bind_some]; rfl
  | 3 =>
    show (fX7_at 0 1 (nI 0) hc).bind (fun v1 => some (v1 - 1)) = _
    rw [at01 (by omega), Option.bind_some]; rfl
  | 4 =>
    show (fX7_at 0 1 (nI 3) hc).bind (fun v1 => (fX7_at 0 1 (nI 2) hc).bind fun v2 => some (v1 - v2)) = _
    rw [at01 (by omega), Option.bind_some, at01 (by omega), Option.bind_some]; rfl
  | 5 => rfl
  | 6 => rfl
  | 7 => rfl
  | 8 => rfl
  | 9 => rfl
  | 10 => rfl
  | 11 => rfl
  | k + 12 => omega
theorem bnd_p {T : Tr0} : ∀ k, k < 12 → (∀ j, j < k → stgB T j) → ∀ v, v < 1000 → ¬ nI v < lowF (fun j => T (9 + j)) k → ¬ higF (fun j => T (9 + j)) k < nI v → stgB (uT T (9 + k) (nI v)) k := by
  intro k hk hT v hv h1 h2
  have L : ∀ c, c < 1000 → ¬ nI v < nI c → c ≤ v := fun c hc q => by
    rw [n_lt (by omega) (by omega)] at q; omega
  have G : ∀ c, c < 1000 → ¬ nI c < nI v → v ≤ c := fun c hc q => by
    rw [n_lt (by omega) (by omega)] at q; omega
  have ev : ∀ i, isN (uT T i (nI v) i) ∧ tn (uT T i (nI v) i) = v := fun i => by
    rw [uT_e]; exact ⟨isN_n (by omega), n_t (by omega)⟩
  match k with
  | 0 => exact ⟨(ev 9).1, by rw [(ev 9).2]; exact L 10 (by omega) h1, by rw [(ev 9).2]; exact G 40 (by omega) h2⟩
  | 1 => exact ⟨(ev 10).1, by rw [(ev 10).2]; exact L 1 (by omega) h1, by rw [(ev 10).2]; exact G 12 (by omega) h2⟩
  | 2 =>
    have b0 : isN (T 9) ∧ 10 ≤ tn (T 9) ∧ tn (T 9) ≤ 40 := hT 0 (by omega)
    have h2' : ¬ T 9 - 2 < nI v := h2
    rw [show T 9 = nI (tn (T 9)) from b0.1, show (2 : Int32) = nI 2 from rfl, n_sub (by omega)] at h2'
    have := G _ (by omega) h2'
    exact ⟨(ev 11).1, by rw [(ev 11).2, uT_n (by decide)]; omega⟩
  | 3 =>
    have b0 : isN (T 9) ∧ 10 ≤ tn (T 9) ∧ tn (T 9) ≤ 40 := hT 0 (by omega)
    have b2 : isN (T 11) ∧ tn (T 11) + 2 ≤ tn (T 9) := hT 2 (by omega)
    have h1' : ¬ nI v < T 11 + 1 := h1
    have h2' : ¬ T 9 - 1 < nI v := h2
    rw [show T 9 = nI (tn (T 9)) from b0.1, show (1 : Int32) = nI 1 from rfl, n_sub (by omega)] at h2'
    rw [show T 11 = nI (tn (T 11)) from b2.1, show (1 : Int32) = nI 1 from rfl, n_add] at h1'
    have g1 := G _ (by omega) h2'
    have g2 := L _ (by omega) h1'
    exact ⟨(ev 12).1, by rw [(ev 12).2, uT_n (by decide)]; omega, by rw [(ev 12).2, uT_n (by decide)]; omega⟩
  | 4 =>
    have b0 : isN (T 9) ∧ 10 ≤ tn (T 9) ∧ tn (T 9) ≤ 40 := hT 0 (by omega)
    have b2 : isN (T 11) ∧ tn (T 11) + 2 ≤ tn (T 9) := hT 2 (by omega)
    have b3 : isN (T 12) ∧ tn (T 11) + 1 ≤ tn (T 12) ∧ tn (T 12) + 1 ≤ tn (T 9) := hT 3 (by omega)
    have h2' : ¬ T 12 - T 11 < nI v := h2
    rw [show T 12 = nI (tn (T 12)) from b3.1, show T 11 = nI (tn (T 11)) from b2.1, n_sub (by omega)] at h2'
    have g1 := G _ (by omega) h2'
    exact ⟨(ev 13).1, by rw [(ev 13).2, uT_n (by decide), uT_n (by decide)]; omega⟩
  | 5 => exact ⟨(ev 14).1, by rw [(ev 14).2]; exact L 1 (by omega) h1, by rw [(ev 14).2]; exact G 999 (by omega) h2⟩
  | 6 => exact ⟨(ev 15).1, by rw [(ev 15).2]; exact L 1 (by omega) h1, by rw [(ev 15).2]; exact G 99 (by omega) h2⟩
  | 7 => exact ⟨(ev 16).1, by rw [(ev 16).2]; exact G 99 (by omega) h2⟩
  | 8 => exact ⟨(ev 17).1, by rw [(ev 17).2]; exact G 99 (by omega) h2⟩
  | 9 => exact ⟨(ev 18).1, by rw [(ev 18).2]; exact L 5 (by omega) h1, by rw [(ev 18).2]; exact G 60 (by omega) h2⟩
  | 10 => exact ⟨(ev 19).1, by rw [(ev 19).2]; exact L 1 (by omega) h1, by rw [(ev 19).2]; exact G 9 (by omega) h2⟩
  | 11 => exact ⟨(ev 20).1, by rw [(ev 20).2]; exact G 3 (by omega) h2⟩
  | k + 12 => omega
theorem lowF_c {S S' : Tr0} : ∀ k, k < 12 → (∀ j, j < k → S j = S' j) → lowF S k = lowF S' k := by
  intro k hk h
  match k with
  | 0 => rfl
  | 1 => rfl
  | 2 => rfl
  | 3 => show S 2 + 1 = S' 2 + 1; rw [h 2 (by omega)]
  | 4 => rfl
  | 5 => rfl
  | 6 => rfl
  | 7 => rfl
  | 8 => rfl
  | 9 => rfl
  | 10 => rfl
  | 11 => rfl
  | k + 12 => omega
theorem higF_c {S S' : Tr0} : ∀ k, k < 12 → (∀ j, j < k → S j = S' j) → higF S k = higF S' k := by
  intro k hk h
  match k with
  | 0 => rfl
  | 1 => rfl
  | 2 => show S 0 - 2 = S' 0 - 2; rw [h 0 (by omega)]
  | 3 => show S 0 - 1 = S' 0 - 1; rw [h 0 (by omega)]
  | 4 => show S 3 - S 2 = S' 3 - S' 2; rw [h 3 (by omega), h 2 (by omega)]
  | 5 => rfl
  | 6 => rfl
  | 7 => rfl
  | 8 => rfl
  | 9 => rfl
  | 10 => rfl
  | 11 => rfl
  | k + 12 => omega
variable {β n : Nat} {a b hc hm : HP}
/-- one setting, with its bounds as both reckon them -/
theorem set_q (hb : Bas n a b) {k : Nat} (hk : k < 12) (h : PRx β n a b (Xk k) hc hm) :
    ∃ x h1 hc' y h2 hm', fX5_takeNumber (lowF (hc (11, 0, 1)) k) (higF (hc (11, 0, 1)) k) hc = some (x, h1) ∧ fX7_put 0 1 (nI k) x h1 = some hc' ∧ fX10_takes (lowF (fun j => hm (11, 22, 0) (9 + j)) k) (higF (fun j => hm (11, 22, 0) (9 + j)) k) hm = some (y, h2) ∧ fX10_puts (nI k) y h2 = some hm' ∧ PRx β n a b (Xk (k + 1)) hc' hm' := by
  have e : Xk k hc hm → lowF (hc (11, 0, 1)) k = lowF (fun j => hm (11, 22, 0) (9 + j)) k ∧ higF (hc (11, 0, 1)) k = higF (fun j => hm (11, 22, 0) (9 + j)) k :=
    fun hx => ⟨lowF_c k hk hx.1, higF_c k hk hx.1⟩
  exact set_p hb hk _ _ _ _ h e (fun hx v hv q1 q2 => bnd_p k hk hx.2.2.2.2 v hv (by rw [← (e hx).1]; exact q1) (by rw [← (e hx).2]; exact q2))
theorem sets_s {k e m : Nat} (hk : k ≤ e) (he : e < 12) (hc : HP) : fX5_takeSettings_2 (m + 1) (nI e) (nI k) hc = (fX5_takeNumber (lowF (hc (11, 0, 1)) k) (higF (hc (11, 0, 1)) k) hc).bind fun q => (fX7_put 0 1 (nI k) q.1 q.2).bind fun h => fX5_takeSettings_2 m (nI e) (nI (k + 1)) h := by
  simp only [fX5_takeSettings_2]
  rw [if_neg (by rw [n_lt (by omega) (by omega)]; omega), low_c k (by omega), Option.bind_some, hig_c k (by omega), Option.bind_some]
  simp only [nI_succ]
theorem sets_e {k e m : Nat} (hk : e < k) (he : k < 20) (hc : HP) : fX5_takeSettings_2 (m + 1) (nI e) (nI k) hc = some hc := by
  simp only [fX5_takeSettings_2]
  rw [if_pos (by rw [n_lt (by omega) (by omega)]; omega)]
end
