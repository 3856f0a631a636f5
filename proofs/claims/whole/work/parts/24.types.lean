/-! ===== bytes that are typed ===== -/
section
def smI (c : Int32) : Int32 := if c < 97 then 0 else (if 122 < c then 0 else 1)
def caI (c : Int32) : Int32 := if c < 65 then 0 else (if 90 < c then 0 else 1)
def dgI (c : Int32) : Int32 := if c < 48 then 0 else (if 57 < c then 0 else 1)
def kyI (c : Int32) : Int32 := if c = 32 then 0 else (if c = 33 then 5 else (if c = 47 then 3 else (if c = 60 then 2 else (if c = 62 then 1 else (if c = 94 then 4 else m1)))))
def wlF (L : Tr0) (c : Int32) : Nat → Nat → Int32
  | 0, _ => m1
  | k + 1, j => if L j = c then nI j else wlF L c k (j + 1)
/-- the bar with a letter -/
def wl (L : Tr0) (nb : Nat) (c : Int32) : Int32 := wlF L c nb 0
def bfI (L : Tr0) (nb : Nat) (c : Int32) : Int32 := if smI c = 0 then (if caI c = 0 then m1 else wl L nb (c + 32)) else wl L nb c
/-- a byte is typed: its reason, the row after it, the reference's heap beside it -/
def tvT (T L A : Tr0) (nb : Nat) (c : Int32) : Int32 := if dgI c = 0 then (if kyI c = m1 then (if bfI L nb c = m1 then 3 else lvT T A (tn (bfI L nb c))) else ovR (beT T) (kyI c)) else 0
def tsT (T L A : Tr0) (nb : Nat) (c : Int32) : Tr0 := if dgI c = 0 then (if kyI c = m1 then (if bfI L nb c = m1 then T else leT T L A (tn (bfI L nb c)) (caI c)) else okT T (kyI c)) else uT T 3 (T 3 + 10 * (c - 48))
def tiH (hm : HP) (T L A : Tr0) (nb : Nat) (c : Int32) : HP := if dgI c = 0 then (if kyI c = m1 then (if bfI L nb c = m1 then hm else liH hm T A (tn (bfI L nb c))) else hm) else hm
def taF (L A : Tr0) (nb : Nat) (B : Tr0) : Nat → Nat → HP → Tr0 → Nat × Int32 × HP × Tr0
  | 0, d, hm, T => (d, 0, hm, T)
  | k + 1, d, hm, T => if tvT T L A nb (B d) = 0 then taF L A nb B k (d + 1) (tiH hm T L A nb (B d)) (tsT T L A nb (B d)) else (d, tvT T L A nb (B d), tiH hm T L A nb (B d), tsT T L A nb (B d))
end
section
variable {hm : HP} {T L A : Tr0} {tb nb : Nat}
theorem wlF_b {L : Tr0} {c : Int32} : ∀ k j, wlF L c k j = m1 ∨ ∃ b, b < j + k ∧ wlF L c k j = nI b ∧ L b = c := by
  intro k
  induction k with
  | zero => intro j; exact Or.inl rfl
  | succ k ih =>
    intro j
    show (if L j = c then nI j else wlF L c k (j + 1)) = m1 ∨ ∃ b, b < j + (k + 1) ∧ (if L j = c then nI j else wlF L c k (j + 1)) = nI b ∧ L b = c
    by_cases h : L j = c
    · rw [if_pos h]; exact Or.inr ⟨j, by omega, rfl, h⟩
    · rw [if_neg h]
      rcases ih (j + 1) with h1 | ⟨b, h1, h2, h3⟩
      · exact Or.inl h1
      · exact Or.inr ⟨b, by omega, h2, h3⟩
theorem wl_b {L : Tr0} {c : Int32} : wl L nb c = m1 ∨ ∃ b, b < nb ∧ wl L nb c = nI b ∧ L b = c := by
  rcases wlF_b (L := L) (c := c) nb 0 with h | ⟨b, h1, h2, h3⟩
  · exact Or.inl h
  · exact Or.inr ⟨b, by omega, h2, h3⟩
theorem bfI_b {L : Tr0} {c : Int32} : bfI L nb c = m1 ∨ ∃ b, b < nb ∧ bfI L nb c = nI b := by
  unfold bfI
  split
  · split
    · exact Or.inl rfl
    · rcases wl_b (L := L) (nb := nb) (c := c + 32) with h | ⟨b, h1, h2, h3⟩
      · exact Or.inl h
      · exact Or.inr ⟨b, h1, h2⟩
  · rcases wl_b (L := L) (nb := nb) (c := c) with h | ⟨b, h1, h2, h3⟩
    · exact Or.inl h
    · exact Or.inr ⟨b, h1, h2⟩
theorem bfI_n (hW : WF tb T L A nb) {c : Int32} (h : ¬ bfI L nb c = m1) : tn (bfI L nb c) < nb ∧ bfI L nb c = nI (tn (bfI L nb c)) := by
  have hnb := hW.nb
  rcases bfI_b (L := L) (nb := nb) (c := c) with h1 | ⟨b, h1, h2⟩
  · exact absurd h1 h
  · rw [h2, n_t (by omega)]; exact ⟨h1, rfl⟩
theorem kyI_b (c : Int32) : kyI c = m1 ∨ ∃ k, k < 6 ∧ kyI c = nI k := by
  unfold kyI
  split
  · exact Or.inr ⟨0, by omega, rfl⟩
  · split
    · exact Or.inr ⟨5, by omega, rfl⟩
    · split
      · exact Or.inr ⟨3, by omega, rfl⟩
      · split
        · exact Or.inr ⟨2, by omega, rfl⟩
        · split
          · exact Or.inr ⟨1, by omega, rfl⟩
          · split
            · exact Or.inr ⟨4, by omega, rfl⟩
            · exact Or.inl rfl
theorem m_small (c : Int32) : fX10_isSmall c hm = some (smI c) := by
  show (if c < 97 then (some 0) else (if 122 < c then (some 0) else (some 1))) = _
  unfold smI; split <;> first | rfl | (split <;> rfl)
theorem m_capital (c : Int32) : fX10_isCapital c hm = some (caI c) := by
  show (if c < 65 then (some 0) else (if 90 < c then (some 0) else (some 1))) = _
  unfold caI; split <;> first | rfl | (split <;> rfl)
theorem m_digit (c : Int32) : fX10_isDigit c hm = some (dgI c) := by
  show (if c < 48 then (some 0) else (if 57 < c then (some 0) else (some 1))) = _
  unfold dgI; split <;> first | rfl | (split <;> rfl)
theorem m_key (c : Int32) : fX10_keyFor c hm = some (kyI c) := by
  show (if c = 32 then (some 0) else (if c = 33 then (some 5) else (if c = 47 then (some 3) else (if c = 60 then (some 2) else (if c = 62 then (some 1) else (if c = 94 then (some 4) else (some m1))))))) = _
  unfold kyI
  split
  · rfl
  · split
    · rfl
    · split
      · rfl
      · split
        · rfl
        · split
          · rfl
          · split <;> rfl
theorem m_withLetter_aux {c : Int32} (hl : LA hm L A nb) (hnb : nb ≤ 26) : ∀ k j n, j + k = nb → k < n → fX10_withLetter_2 n c (nI j) (rwm hm T) = some (wlF L c k j) := by
  intro k
  induction k with
  | zero =>
    intro j n hj hn
    cases n with
    | zero => omega
    | succ n =>
      show (if nI j < (rwm hm T) (10, 0, 0) 2 then _ else (some m1)) = _
      rw [(LA_rwm hl).2.2, if_neg (show ¬ nI j < nI nb by rw [n_lt (by omega) (by omega)]; omega)]; rfl
  | succ k ih =>
    intro j n hj hn
    cases n with
    | zero => omega
    | succ n =>
      show (if nI j < (rwm hm T) (10, 0, 0) 2 then (if inb (nI j) 26 = true then (if ((rwm hm T) (11, 20, 0) (nI j).toNatClampNeg) = c then (some (nI j)) else (fX10_withLetter_2 n c (nI j + 1) (rwm hm T))) else none) else (some m1)) = _
      rw [(LA_rwm hl).2.2, (LA_rwm hl).1, if_pos (show nI j < nI nb by rw [n_lt (by omega) (by omega)]; omega), if_pos (inb_n (by omega) (by omega)), n_c (by omega), ← nI_succ, ih (j + 1) n (by omega) (by omega)]
      show _ = some (if L j = c then nI j else wlF L c k (j + 1))
      by_cases h : L j = c
      · rw [if_pos h, if_pos h]
      · rw [if_neg h, if_neg h]
theorem m_withLetter {c : Int32} (hl : LA hm L A nb) (hnb : nb ≤ 26) : fX10_withLetter c (rwm hm T) = some (wl L nb c) := by
  have := FU_ge
  exact m_withLetter_aux hl hnb nb 0 FU (by omega) (by omega)
theorem m_barFor {c : Int32} (hl : LA hm L A nb) (hnb : nb ≤ 26) : fX10_barFor c (rwm hm T) = some (bfI L nb c) := by
  show (fX10_isSmall c (rwm hm T)).bind (fun v1 => if v1 = 0 then ((fX10_isCapital c (rwm hm T)).bind fun v2 => if v2 = 0 then (some m1) else ((fX10_withLetter (c + 32) (rwm hm T)).bind fun v3 => some v3)) else ((fX10_withLetter c (rwm hm T)).bind fun v4 => some v4)) = _
  rw [m_small, Option.bind_some, m_capital, Option.bind_some, m_withLetter hl hnb, m_withLetter hl hnb, Option.bind_some, Option.bind_some]
  unfold bfI
  by_cases h : smI c = 0
  · rw [if_pos h, if_pos h]
    by_cases h2 : caI c = 0
    · rw [if_pos h2, if_pos h2]
    · rw [if_neg h2, if_neg h2]
  · rw [if_neg h, if_neg h]
theorem m_types (hl : LA hm L A nb) (hW : WF tb T L A nb) (ht : tb < 900000000) {c : Int32} : fX10_types c (rwm hm T) = some (tvT T L A nb c, rwm (tiH hm T L A nb c) (tsT T L A nb c)) := by
  have hnb := hW.nb
  show (fX10_isDigit c (rwm hm T)).bind (fun v1 => if v1 = 0 then ((fX10_keyFor c (rwm hm T)).bind fun v2 => if v2 = m1 then ((fX10_barFor c (rwm hm T)).bind fun v3 => if v3 = m1 then (some (3, rwm hm T)) else ((fX10_isCapital c (rwm hm T)).bind fun v4 => (fX10_letterKey v3 v4 (rwm hm T)).bind fun q6 => some (q6.1, q6.2))) else ((fX10_keyFor c (rwm hm T)).bind fun v7 => (fX10_otherKey v7 (rwm hm T)).bind fun q9 => some (q9.1, q9.2))) else (some (0, (up (rwm hm T) (11, 22, 0) 3 (((rwm hm T) (11, 22, 0) 3) + (10 * (c - 48))))))) = _
  rw [m_digit, Option.bind_some, m_key, Option.bind_some, m_barFor hl hnb, Option.bind_some, m_capital, Option.bind_some, Option.bind_some, rwm_up, rwm_e]
  unfold tvT tsT tiH
  by_cases h : dgI c = 0
  · rw [if_pos h, if_pos h, if_pos h, if_pos h]
    by_cases h2 : kyI c = m1
    · rw [if_pos h2, if_pos h2, if_pos h2, if_pos h2]
      by_cases h3 : bfI L nb c = m1
      · rw [if_pos h3, if_pos h3, if_pos h3, if_pos h3]
      · rw [if_neg h3, if_neg h3, if_neg h3, if_neg h3]
        obtain ⟨g1, g2⟩ := bfI_n hW h3
        have := m_letterKey (T := T) hl hW ht g1 (sh := caI c)
        rw [← g2] at this
        rw [this, Option.bind_some]
    · rw [if_neg h2, if_neg h2, if_neg h2, if_neg h2]
      obtain ⟨k, g1, g2⟩ := (kyI_b c).resolve_left h2
      rw [g2, m_otherKey hW ht g1, Option.bind_some]
  · rw [if_neg h, if_neg h, if_neg h, if_neg h]
theorem dgI_b {c : Int32} (h : ¬ dgI c = 0) : ∃ k, k < 10 ∧ c = nI (48 + k) := by
  unfold dgI at h
  have z48 : (48 : Int32).toInt = 48 := rfl
  have z57 : (57 : Int32).toInt = 57 := rfl
  by_cases h1 : c < 48
  · rw [if_pos h1] at h; exact absurd rfl h
  · rw [if_neg h1] at h
    by_cases h2 : 57 < c
    · rw [if_pos h2] at h; exact absurd rfl h
    · have h1' : ¬ c.toInt < (48 : Int32).toInt := fun q => h1 (lt_i.mpr q)
      have h2' : ¬ (57 : Int32).toInt < c.toInt := fun q => h2 (lt_i.mpr q)
      refine ⟨(c.toInt - 48).toNat, by omega, ?_⟩
      rw [eqi, n_i (by omega)]; omega
theorem WF_tsT (hW : WF tb T L A nb) (ht : tb < 900000000) (c : Int32) : WF (tb + 1099) (tsT T L A nb c) L A nb := by
  unfold tsT
  split
  · split
    · split
      · exact WF_mono hW (by omega)
      · rename_i h3
        exact WF_mono (WF_leT hW ht (bfI_n hW h3).1 _) (by omega)
    · rename_i h2
      obtain ⟨k, g1, g2⟩ := (kyI_b c).resolve_left h2
      rw [g2]
      exact WF_okT hW ht g1
  · rename_i h
    obtain ⟨k, g1, g2⟩ := dgI_b h
    have hti := hW.ti
    have h3 : T 3 = nI (tn (T 3)) := hti.1
    have hx : T 3 + 10 * (c - 48) = nI (tn (T 3) + 10 * k) := by
      rw [g2, n_lit 48, n_sub (by omega), n_lit 10, n_mul, ← n_add, ← h3]
      congr 2; congr 1; omega
    exact WF_tim hW (by rw [hx]; exact isN_n (by omega)) (by rw [hx, n_t (by omega)]; omega) (by rw [hx, n_t (by omega)]; omega)
theorem tiH_o {hm : HP} {c : Int32} {r : RF} (h : r ≠ (10, 0, 0)) : tiH hm T L A nb c r = hm r := by
  unfold tiH liH
  split
  · split
    · split
      · rfl
      · split
        · exact up_n h
        · rfl
    · rfl
  · rfl
theorem tiH_f {hm : HP} {c : Int32} {k : Nat} (h : k ≠ 25) : tiH hm T L A nb c (10, 0, 0) k = hm (10, 0, 0) k := by
  unfold tiH liH
  split
  · split
    · split
      · rfl
      · split
        · rw [up_e, uT_n h]
        · rfl
    · rfl
  · rfl
theorem LA_tiH (hl : LA hm L A nb) {T : Tr0} {c : Int32} : LA (tiH hm T L A nb c) L A nb :=
  ⟨by rw [tiH_o (by decide)]; exact hl.1, by rw [tiH_o (by decide)]; exact hl.2.1, by rw [tiH_f (by decide)]; exact hl.2.2⟩
theorem taF_h {B : Tr0} : ∀ k d (hm : HP) (T : Tr0) (r : RF), r ≠ (10, 0, 0) → (taF L A nb B k d hm T).2.2.1 r = hm r := by
  intro k
  induction k with
  | zero => intro d hm T r hr; rfl
  | succ k ih =>
    intro d hm T r hr
    show (if tvT T L A nb (B d) = 0 then taF L A nb B k (d + 1) (tiH hm T L A nb (B d)) (tsT T L A nb (B d)) else (d, tvT T L A nb (B d), tiH hm T L A nb (B d), tsT T L A nb (B d))).2.2.1 r = hm r
    split
    · rw [ih _ _ _ r hr, tiH_o hr]
    · exact congrFun (congrFun rfl _) _ |>.trans (tiH_o hr)
theorem taF_f {B : Tr0} : ∀ k d (hm : HP) (T : Tr0) (q : Nat), q ≠ 25 → (taF L A nb B k d hm T).2.2.1 (10, 0, 0) q = hm (10, 0, 0) q := by
  intro k
  induction k with
  | zero => intro d hm T r hr; rfl
  | succ k ih =>
    intro d hm T q hq
    show (if tvT T L A nb (B d) = 0 then taF L A nb B k (d + 1) (tiH hm T L A nb (B d)) (tsT T L A nb (B d)) else (d, tvT T L A nb (B d), tiH hm T L A nb (B d), tsT T L A nb (B d))).2.2.1 (10, 0, 0) q = hm (10, 0, 0) q
    split
    · rw [ih _ _ _ q hq, tiH_f hq]
    · exact tiH_f hq
theorem taF_b {B : Tr0} : ∀ k d (hm : HP) (T : Tr0), d ≤ (taF L A nb B k d hm T).1 ∧ (taF L A nb B k d hm T).1 ≤ d + k := by
  intro k
  induction k with
  | zero => intro d hm T; exact ⟨Nat.le_refl _, Nat.le_refl _⟩
  | succ k ih =>
    intro d hm T
    show d ≤ (if tvT T L A nb (B d) = 0 then taF L A nb B k (d + 1) (tiH hm T L A nb (B d)) (tsT T L A nb (B d)) else (d, tvT T L A nb (B d), tiH hm T L A nb (B d), tsT T L A nb (B d))).1 ∧ (if tvT T L A nb (B d) = 0 then taF L A nb B k (d + 1) (tiH hm T L A nb (B d)) (tsT T L A nb (B d)) else (d, tvT T L A nb (B d), tiH hm T L A nb (B d), tsT T L A nb (B d))).1 ≤ d + (k + 1)
    split
    · have := ih (d + 1) (tiH hm T L A nb (B d)) (tsT T L A nb (B d)); omega
    · exact ⟨Nat.le_refl _, by show d ≤ d + (k + 1); omega⟩
theorem WF_taF {B : Tr0} : ∀ k d (hm : HP) (T : Tr0) (tb : Nat), WF tb T L A nb → tb + 1099 * k < 900000000 → WF (tb + 1099 * k) (taF L A nb B k d hm T).2.2.2 L A nb := by
  intro k
  induction k with
  | zero => intro d hm T tb hW _; exact hW
  | succ k ih =>
    intro d hm T tb hW ht
    show WF (tb + 1099 * (k + 1)) (if tvT T L A nb (B d) = 0 then taF L A nb B k (d + 1) (tiH hm T L A nb (B d)) (tsT T L A nb (B d)) else (d, tvT T L A nb (B d), tiH hm T L A nb (B d), tsT T L A nb (B d))).2.2.2 L A nb
    split
    · have := ih (d + 1) (tiH hm T L A nb (B d)) (tsT T L A nb (B d)) (tb + 1099) (WF_tsT hW (by omega) _) (by omega)
      have e : tb + 1099 + 1099 * k = tb + 1099 * (k + 1) := by omega
      rw [e] at this; exact this
    · exact WF_mono (WF_tsT hW (by omega) _) (by omega)
/-- the row and the answer behind a text -/
def taT (q : Nat × Int32 × HP × Tr0) : Tr0 := uT (uT q.2.2.2 36 q.2.1) 37 (if q.2.1 = 0 then m1 else nI q.1)
theorem m_typesAll_aux {B : Tr0} {N : Nat} (hN : N ≤ 500) : ∀ k d n (hm : HP) (T : Tr0) (tb : Nat), d + k = N → k < n → LA hm L A nb → hm (11, 25, 0) = B → WF tb T L A nb → tb + 1099 * k < 900000000 → fX10_typesAll_4 n (nI N) (nI d) 0 (rwm hm T) = some (nI (taF L A nb B k d hm T).1, rwm (taF L A nb B k d hm T).2.2.1 (taT (taF L A nb B k d hm T))) := by
  have fin : ∀ (d : Nat) (v : Int32) (hm : HP) (T : Tr0), fX10_typesAll_42 (nI d) v (rwm hm T) = some (nI d, rwm hm (taT (d, v, hm, T))) := by
    intro d v hm T
    show (if v = 0 then (if inb (nI 37) 1150 = true then (some (nI d, (up (up (rwm hm T) (11, 22, 0) 36 v) (11, 22, 0) ((nI 37).toNatClampNeg) m1))) else none) else (if inb (nI 37) 1150 = true then (some (nI d, (up (up (rwm hm T) (11, 22, 0) 36 v) (11, 22, 0) ((nI 37).toNatClampNeg) (nI d)))) else none)) = _
    rw [if_pos (inb_n (show 37 < 1150 by omega) (by omega)), if_pos (inb_n (show 37 < 1150 by omega) (by omega)), n_c (by omega), rwm_up, rwm_up, rwm_up]
    unfold taT
    by_cases h : v = 0
    · rw [if_pos h]; simp only [h, if_true]
    · rw [if_neg h]; simp only [h, if_false]
  intro k
  induction k with
  | zero =>
    intro d n hm T tb hd hn hl hB hW ht
    cases n with
    | zero => omega
    | succ n =>
      show (if nI d < nI N then _ else fX10_typesAll_42 (nI d) 0 (rwm hm T)) = _
      rw [if_neg (show ¬ nI d < nI N by rw [n_lt (by omega) (by omega)]; omega), fin]; rfl
  | succ k ih =>
    intro d n hm T tb hd hn hl hB hW ht
    cases n with
    | zero => omega
    | succ n =>
      have hd5 : d < 500 := by omega
      have hd9 : d < 2147483648 := by omega
      have hi5 : inb (nI d) 500 = true := inb_n hd5 (by decide)
      show (if nI d < nI N then (if (0 : Int32) = 0 then (if inb (nI d) 500 = true then ((fX10_types ((rwm hm T) (11, 25, 0) (nI d).toNatClampNeg) (rwm hm T)).bind fun q3 => if q3.1 = 0 then (fX10_typesAll_4 n (nI N) (nI d + 1) q3.1 q3.2) else (fX10_typesAll_4 n (nI N) (nI d + 0) q3.1 q3.2)) else none) else fX10_typesAll_42 (nI d) 0 (rwm hm T)) else fX10_typesAll_42 (nI d) 0 (rwm hm T)) = _
      rw [if_pos (show nI d < nI N by rw [n_lt (by omega) (by omega)]; omega), if_pos (show (0 : Int32) = 0 from rfl), if_pos hi5, n_c hd9, rwm_n (show ¬ ((11, 25, 0) : RF) = (11, 22, 0) by decide), hB, m_types hl hW (by omega), Option.bind_some]
      show (if tvT T L A nb (B d) = 0 then (fX10_typesAll_4 n (nI N) (nI d + 1) (tvT T L A nb (B d)) (rwm (tiH hm T L A nb (B d)) (tsT T L A nb (B d)))) else (fX10_typesAll_4 n (nI N) (nI d + nI 0) (tvT T L A nb (B d)) (rwm (tiH hm T L A nb (B d)) (tsT T L A nb (B d))))) = _
      have hr : taF L A nb B (k + 1) d hm T = if tvT T L A nb (B d) = 0 then taF L A nb B k (d + 1) (tiH hm T L A nb (B d)) (tsT T L A nb (B d)) else (d, tvT T L A nb (B d), tiH hm T L A nb (B d), tsT T L A nb (B d)) := rfl
      rw [hr]
      by_cases h : tvT T L A nb (B d) = 0
      · rw [if_pos h, if_pos h, h, ← nI_succ]
        exact ih (d + 1) n _ _ (tb + 1099) (by omega) (by omega) (LA_tiH hl) (by rw [tiH_o (by decide)]; exact hB) (WF_tsT hW (by omega) _) (by omega)
      · rw [if_neg h, if_neg h, n_add]
        cases n with
        | zero => omega
        | succ n =>
          show (if nI (d + 0) < nI N then (if tvT T L A nb (B d) = 0 then _ else fX10_typesAll_42 (nI (d + 0)) (tvT T L A nb (B d)) _) else fX10_typesAll_42 (nI (d + 0)) (tvT T L A nb (B d)) _) = _
          rw [if_neg h, ite_self, fin]; rfl
theorem m_typesAll {B : Tr0} {N : Nat} (hN : N ≤ 500) (hl : LA hm L A nb) (hB : hm (11, 25, 0) = B) (hW : WF tb T L A nb) (ht : tb + 1099 * N < 900000000) : fX10_typesAll (nI N) (rwm hm T) = some (nI (taF L A nb B N 0 hm T).1, rwm (taF L A nb B N 0 hm T).2.2.1 (taT (taF L A nb B N 0 hm T))) := by
  have := FU_ge
  exact m_typesAll_aux hN N 0 FU hm T tb (by omega) (by omega) hl hB hW ht
end
