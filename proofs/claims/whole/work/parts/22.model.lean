/-! ===== the reference's methods, on its row ===== -/
section
variable {hm : HP} {T : Tr0}
theorem its_0 : fX10_its 0 (rwm hm T) = some (T 9) := rfl
theorem puts_0 {x : Int32} : fX10_puts 0 x (rwm hm T) = some (rwm hm (uT T 9 x)) := congrArg some rwm_up
theorem its_1 : fX10_its 1 (rwm hm T) = some (T 10) := rfl
theorem puts_1 {x : Int32} : fX10_puts 1 x (rwm hm T) = some (rwm hm (uT T 10 x)) := congrArg some rwm_up
theorem its_2 : fX10_its 2 (rwm hm T) = some (T 11) := rfl
theorem puts_2 {x : Int32} : fX10_puts 2 x (rwm hm T) = some (rwm hm (uT T 11 x)) := congrArg some rwm_up
theorem its_3 : fX10_its 3 (rwm hm T) = some (T 12) := rfl
theorem puts_3 {x : Int32} : fX10_puts 3 x (rwm hm T) = some (rwm hm (uT T 12 x)) := congrArg some rwm_up
theorem its_4 : fX10_its 4 (rwm hm T) = some (T 13) := rfl
theorem puts_4 {x : Int32} : fX10_puts 4 x (rwm hm T) = some (rwm hm (uT T 13 x)) := congrArg some rwm_up
theorem its_5 : fX10_its 5 (rwm hm T) = some (T 14) := rfl
theorem puts_5 {x : Int32} : fX10_puts 5 x (rwm hm T) = some (rwm hm (uT T 14 x)) := congrArg some rwm_up
theorem its_6 : fX10_its 6 (rwm hm T) = some (T 15) := rfl
theorem puts_6 {x : Int32} : fX10_puts 6 x (rwm hm T) = some (rwm hm (uT T 15 x)) := congrArg some rwm_up
theorem its_7 : fX10_its 7 (rwm hm T) = some (T 16) := rfl
theorem puts_7 {x : Int32} : fX10_puts 7 x (rwm hm T) = some (rwm hm (uT T 16 x)) := congrArg some rwm_up
theorem its_8 : fX10_its 8 (rwm hm T) = some (T 17) := rfl
theorem puts_8 {x : Int32} : fX10_puts 8 x (rwm hm T) = some (rwm hm (uT T 17 x)) := congrArg some rwm_up
theorem its_9 : fX10_its 9 (rwm hm T) = some (T 18) := rfl
theorem puts_9 {x : Int32} : fX10_puts 9 x (rwm hm T) = some (rwm hm (uT T 18 x)) := congrArg some rwm_up
theorem its_10 : fX10_its 10 (rwm hm T) = some (T 19) := rfl
theorem puts_10 {x : Int32} : fX10_puts 10 x (rwm hm T) = some (rwm hm (uT T 19 x)) := congrArg some rwm_up
theorem its_11 : fX10_its 11 (rwm hm T) = some (T 20) := rfl
theorem puts_11 {x : Int32} : fX10_puts 11 x (rwm hm T) = some (rwm hm (uT T 20 x)) := congrArg some rwm_up
theorem its_12 : fX10_its 12 (rwm hm T) = some (T 21) := rfl
theorem puts_12 {x : Int32} : fX10_puts 12 x (rwm hm T) = some (rwm hm (uT T 21 x)) := congrArg some rwm_up
theorem cnt_3 : fX10_counts 3 (rwm hm T) = some (rwm hm (uT T 25 (T 25 + 1))) := congrArg some rwm_up
theorem cnt_4 : fX10_counts 4 (rwm hm T) = some (rwm hm (uT T 26 (T 26 + 1))) := congrArg some rwm_up
theorem cnt_5 : fX10_counts 5 (rwm hm T) = some (rwm hm (uT T 27 (T 27 + 1))) := congrArg some rwm_up
theorem cnt_6 : fX10_counts 6 (rwm hm T) = some (rwm hm (uT T 28 (T 28 + 1))) := congrArg some rwm_up
theorem cnt_7 : fX10_counts 7 (rwm hm T) = some (rwm hm (uT T 29 (T 29 + 1))) := congrArg some rwm_up
theorem cnt_8 : fX10_counts 8 (rwm hm T) = some (rwm hm (uT T 30 (T 30 + 1))) := congrArg some rwm_up
theorem cnt_9 : fX10_counts 9 (rwm hm T) = some (rwm hm (uT T 31 (T 31 + 1))) := congrArg some rwm_up
theorem cnt_10 : fX10_counts 10 (rwm hm T) = some (rwm hm (uT T 32 (T 32 + 1))) := congrArg some rwm_up
theorem cnt_11 : fX10_counts 11 (rwm hm T) = some (rwm hm (uT T 33 (T 33 + 1))) := congrArg some rwm_up
theorem cnt_12 : fX10_counts 12 (rwm hm T) = some (rwm hm (uT T 34 (T 34 + 1))) := congrArg some rwm_up
theorem cnt_13 : fX10_counts 13 (rwm hm T) = some (rwm hm (uT T 35 (T 35 + 1))) := congrArg some rwm_up
end
section
/-- the rise of a bar; when it is back; how much room a pair wants -/
def riT (T A : Tr0) (b : Nat) : Int32 := T 15 + idv (iabs (A b - 90)) 10
def baT (T A : Tr0) (b : Nat) : Int32 := if T (38 + 2 * b) = m1 then 0 else T (38 + 2 * b) + 2 * riT T A b
def rmT (T A : Tr0) (b o : Nat) : Int32 := T 16 + imax 0 (T 17 - iabs (A b - A o))
def sfT (T A : Tr0) (b : Nat) (t : Int32) : Int32 := if t < baT T A b then 4 else (if T 4 = m1 then 0 else (if T 4 = nI b then 0 else (if t < baT T A (tn (T 4)) then (if iabs (((t + riT T A b) - T (38 + 2 * tn (T 4))) - riT T A (tn (T 4))) < rmT T A b (tn (T 4)) then 5 else 0) else 0)))
def lkT (T : Tr0) (c : Int32) : Int32 := if c < T 9 then (if T 12 < c then (if T 2 = 0 then 1 else 0) else 0) else 1
/-- the first stop behind a column -/
def tabF (T : Tr0) : Nat → Nat → Int32 → Int32
  | 0, _, c => imax c (T 12)
  | k + 1, j, c => if T (90 + j) = 0 then tabF T k (j + 1) c else nI j
def tabT (T : Tr0) (c : Nat) : Int32 := tabF T (tn (T 9) - (c + 1)) (c + 1) (nI c)
def bkT (T : Tr0) (c : Int32) : Int32 := if c = 0 then c else (if c = T 11 then (if T 2 = 0 then c else c - 1) else c - 1)
def adT (T : Tr0) : Tr0 := if T 1 + 1 = T 12 - T 13 then uT (uT T 1 (T 1 + 1)) 32 (T 32 + 1) else uT T 1 (T 1 + 1)
def roT (T : Tr0) : Tr0 := if T 8 = 1 then (if T 7 + 1 < T 18 then uT T 7 (T 7 + 1) else uT (uT T 8 0) 33 (T 33 + 1)) else (if T 7 = 0 then uT (uT T 8 1) 33 (T 33 + 1) else uT T 7 (T 7 - 1))
def plT (T : Tr0) : Nat := 40 * tn (T 0) + tn (T 1)
def ovT (T : Tr0) : Tr0 := if T (190 + plT T) = 0 then T else uT T 34 (T 34 + 1)
/-- the ink goes, the ribbon runs on -/
def feT (T : Tr0) : Tr0 := roT (uT T (130 + tn (T 7)) (imax 0 (T (130 + tn (T 7)) - T 20)))
def prT (T : Tr0) (x : Int32) : Tr0 := feT (uT (uT (uT (ovT T) (190 + plT T) x) (670 + plT T) (imin 9 (T (670 + plT T) + T (130 + tn (T 7))))) 25 (T 25 + 1))
def skT (T L : Tr0) (b : Nat) (sh : Int32) : Tr0 := adT (prT (uT (uT (uT T (38 + 2 * b) (T 3)) (39 + 2 * b) (T (39 + 2 * b) + 1)) 4 (nI b)) (if sh = 0 then L b else L b - 32))
def beT (T : Tr0) : Tr0 := uT (uT T 35 (T 35 + 1)) 3 (T 3 + T 14)
def enT (T : Tr0) (v : Int32) : Tr0 := uT (uT (if v = 0 then T else uT T 31 (T 31 + 1)) 36 v) 37 m1
def faT (T A : Tr0) (b : Nat) (t : Int32) : Int32 := if T 5 = m1 then (if lkT T (T 1) = 0 then sfT T A b t else 2) else 1
/-- a letter's key: its reason, the row after it -/
def lvT (T A : Tr0) (b : Nat) : Int32 := faT (beT T) A b ((beT T) 3)
def leT (T L A : Tr0) (b : Nat) (sh : Int32) : Tr0 := enT (if lvT T A b = 5 then uT (uT (uT (beT T) 5 (nI b)) 6 (beT T 4)) 30 (T 30 + 1) else (if lvT T A b = 0 then skT (beT T) L b sh else beT T)) (lvT T A b)
def frT (T : Tr0) : Tr0 := if T 5 = m1 then uT T 3 (T 3 + 100) else uT (uT (uT (uT (uT T (38 + 2 * tn (T 5)) m1) 5 m1) (38 + 2 * tn (T 6)) m1) 6 m1) 3 (T 3 + 100)
/-- another key's reason, and what it does -/
def ovR (T : Tr0) (k : Int32) : Int32 := if k = 4 then 0 else (if k = 5 then 0 else (if T 5 = m1 then (if k = 0 then (if lkT T (T 1) = 0 then 0 else 2) else (if k = 3 then (if T 0 + T 21 < T 10 then 0 else 6) else 0)) else 1))
def doT (T : Tr0) (k : Int32) : Tr0 := if k = 0 then adT (uT T 26 (T 26 + 1)) else (if k = 1 then uT (uT T 27 (T 27 + 1)) 1 (tabT T (tn (T 1))) else (if k = 2 then uT (uT T 28 (T 28 + 1)) 1 (bkT T (T 1)) else (if k = 3 then uT (uT (uT (uT T 29 (T 29 + 1)) 0 (T 0 + T 21)) 1 (T 11)) 2 0 else (if k = 4 then uT T 2 1 else frT T))))
def okT (T : Tr0) (k : Int32) : Tr0 := enT (if ovR (beT T) k = 0 then doT (beT T) k else beT T) (ovR (beT T) k)
end
section
variable {hm : HP} {T L A : Tr0} {tb nb : Nat}
/-- the reference's letters and angles -/
def LA (hm : HP) (L A : Tr0) (nb : Nat) : Prop := hm (11, 20, 0) = L ∧ hm (11, 21, 0) = A ∧ hm (10, 0, 0) 2 = nI nb
theorem LA_rwm (h : LA hm L A nb) : (rwm hm T) (11, 20, 0) = L ∧ (rwm hm T) (11, 21, 0) = A ∧ (rwm hm T) (10, 0, 0) 2 = nI nb := h
theorem flag_1 : fX10_flag 1 hm = some 1 := rfl
theorem flag_0 : fX10_flag 0 hm = some 0 := rfl
theorem in_yes {x a b : Int32} (h1 : ¬ x < a) (h2 : ¬ b < x) : fX10_in x a b hm = some 1 := by
  show (if x < a then (some 0) else (if b < x then (some 0) else (some 1))) = _
  rw [if_neg h1, if_neg h2]
theorem in_no {x a b : Int32} (h : x < a ∨ b < x) : fX10_in x a b hm = some 0 := by
  show (if x < a then (some 0) else (if b < x then (some 0) else (some 1))) = _
  by_cases h1 : x < a
  · rw [if_pos h1]
  · rw [if_neg h1, if_pos (h.resolve_left h1)]
theorem idx_a {a b : Nat} (h : b < 1000) (ha : a < 1000000) : (nI a + (2 * nI b) + 0) = nI (a + 2 * b) := by
  show nI a + nI 2 * nI b + nI 0 = _
  rw [n_mul, n_add, n_add]; rfl
theorem m_struck {b : Nat} (hb : b < 26) : fX10_struckAt (nI b) (rwm hm T) = some (T (38 + 2 * b)) := by
  show (if inb ((nI 38 + (2 * nI b)) + 0) 1150 = true then (some ((rwm hm T) (11, 22, 0) ((nI 38 + (2 * nI b)) + 0).toNatClampNeg)) else none) = _
  rw [idx_a (by omega) (by omega), if_pos (inb_n (by omega) (by omega)), n_c (by omega), rwm_e]
theorem m_rise (hl : LA hm L A nb) {b : Nat} (hb : b < 26) : fX10_rise (nI b) (rwm hm T) = some (riT T A b) := by
  show (fX10_its 6 (rwm hm T)).bind (fun v1 => if inb (nI b) 26 = true then (some (v1 + (idv (iabs (((rwm hm T) (11, 21, 0) (nI b).toNatClampNeg) - 90)) 10))) else none) = _
  rw [its_6, (LA_rwm hl).2.1, Option.bind_some, if_pos (inb_n hb (by omega)), n_c (by omega)]; rfl
theorem m_clear (hl : LA hm L A nb) {b o : Nat} (hb : b < 26) (ho : o < 26) : fX10_clearance (nI b) (nI o) (rwm hm T) = some (rmT T A b o) := by
  show (fX10_its 7 (rwm hm T)).bind (fun v1 => (fX10_its 8 (rwm hm T)).bind fun v2 => if inb (nI b) 26 = true then (if inb (nI o) 26 = true then (some (v1 + (imax 0 (v2 - (iabs (((rwm hm T) (11, 21, 0) (nI b).toNatClampNeg) - ((rwm hm T) (11, 21, 0) (nI o).toNatClampNeg))))))) else none) else none) = _
  rw [its_7, its_8, (LA_rwm hl).2.1, Option.bind_some, Option.bind_some, if_pos (inb_n hb (by omega)), if_pos (inb_n ho (by omega)), n_c (by omega), n_c (by omega)]; rfl
theorem m_back (hl : LA hm L A nb) {b : Nat} (hb : b < 26) {t : Int32} : fX10_backIn (nI b) t (rwm hm T) = some (if T (38 + 2 * b) = m1 then 0 else imax 0 (T (38 + 2 * b) + 2 * riT T A b - t)) := by
  show (fX10_struckAt (nI b) (rwm hm T)).bind (fun v1 => if v1 = m1 then (some 0) else ((fX10_struckAt (nI b) (rwm hm T)).bind fun v2 => (fX10_rise (nI b) (rwm hm T)).bind fun v3 => some (imax 0 ((v2 + (2 * v3)) - t)))) = _
  rw [m_struck hb, Option.bind_some]
  split
  · rfl
  · rw [Option.bind_some, m_rise hl hb]; rfl
end
section
variable {hm : HP} {T L A : Tr0} {tb nb : Nat}
theorem idv10 : ∀ k, k < 91 → idv (nI k) 10 = nI (k / 10) := by decide +kernel
theorem iabs_n {x : Int32} {k : Nat} (h : x.toInt = k ∨ x.toInt = - (k : Int)) (hk : k < 1000000) : iabs x = nI k := by
  rw [eqi, iabs_i (by omega), n_i (by omega)]; split <;> omega
theorem rs_b (hW : WF tb T L A nb) {b : Nat} (hb : b < nb) : ∃ r : Nat, riT T A b = nI r ∧ 1 ≤ r ∧ r ≤ 108 := by
  obtain ⟨h1, h2, h3⟩ := hW.rs
  obtain ⟨h4, h5⟩ := hW.an b hb
  have h6 := isN_i h4
  have z : (90 : Int32).toInt = 90 := rfl
  have h7 : ∃ k : Nat, k < 91 ∧ iabs (A b - 90) = nI k := by
    by_cases h : 90 ≤ tn (A b)
    · exact ⟨tn (A b) - 90, by omega, iabs_n (Or.inl (by rw [sub_i, z]; omega)) (by omega)⟩
    · exact ⟨90 - tn (A b), by omega, iabs_n (Or.inr (by rw [sub_i, z]; omega)) (by omega)⟩
  obtain ⟨k, hk, h8⟩ := h7
  refine ⟨tn (T 15) + k / 10, ?_, by omega, by omega⟩
  unfold riT
  rw [h8, idv10 k hk]
  have h1' : T 15 = nI (tn (T 15)) := h1
  rw [← n_add, ← h1']
theorem rm_b (hW : WF tb T L A nb) {b o : Nat} (hb : b < nb) (ho : o < nb) : ∃ r : Nat, rmT T A b o = nI r ∧ r ≤ 198 := by
  obtain ⟨h1, h2, h3, h4⟩ := hW.cn
  obtain ⟨h5, h6⟩ := hW.an b hb
  obtain ⟨h7, h8⟩ := hW.an o ho
  have e1 := isN_i h1
  have e2 := isN_i h2
  have e5 := isN_i h5
  have e7 := isN_i h7
  have h9 : ∃ k : Nat, k ≤ 180 ∧ iabs (A b - A o) = nI k := by
    by_cases h : tn (A o) ≤ tn (A b)
    · exact ⟨tn (A b) - tn (A o), by omega, iabs_n (Or.inl (by rw [sub_i]; omega)) (by omega)⟩
    · exact ⟨tn (A o) - tn (A b), by omega, iabs_n (Or.inr (by rw [sub_i]; omega)) (by omega)⟩
  obtain ⟨k, hk, h10⟩ := h9
  refine ⟨tn (T 16) + (tn (T 17) - k), ?_, by omega⟩
  unfold rmT
  have z : (0 : Int32).toInt = 0 := rfl
  have h11 : imax 0 (T 17 - nI k) = nI (tn (T 17) - k) := by
    rw [eqi, imax_i, n_i (by omega), sub_i, n_i (by omega), z]; omega
  have h1' : T 16 = nI (tn (T 16)) := h1
  rw [h10, h11, ← n_add, ← h1']
theorem ba_b (hW : WF tb T L A nb) {b : Nat} (hb : b < nb) (ht : tb < 1000000000) : (T (38 + 2 * b) = m1 ∧ baT T A b = 0) ∨ ∃ s r : Nat, ¬ T (38 + 2 * b) = m1 ∧ T (38 + 2 * b) = nI s ∧ s ≤ tn (T 3) ∧ riT T A b = nI r ∧ 1 ≤ r ∧ r ≤ 108 ∧ baT T A b = nI (s + 2 * r) := by
  obtain ⟨r, h1, h2, h3⟩ := rs_b hW hb
  obtain ⟨h4, h5⟩ := hW.ti
  rcases hW.st b hb with h | ⟨h, h'⟩
  · left; exact ⟨h, if_pos h⟩
  · right
    have h6 : T (38 + 2 * b) = nI (tn (T (38 + 2 * b))) := h
    have h7 := tn_lt (T (38 + 2 * b))
    have h8 : ¬ T (38 + 2 * b) = m1 := by rw [h6]; exact n_m1 h7
    refine ⟨tn (T (38 + 2 * b)), r, h8, h6, h', h1, h2, h3, ?_⟩
    unfold baT
    rw [if_neg h8, h1, n_lit 2, n_mul, ← n_add, ← h6]
/-- how long a bar still is away: nothing, or the rest of its time -/
theorem bk_b (hW : WF tb T L A nb) {b t : Nat} (hb : b < nb) (ht : tb < 1000000000) (ht2 : t < 1000000000) : (if T (38 + 2 * b) = m1 then 0 else imax 0 (T (38 + 2 * b) + 2 * riT T A b - nI t)) = (if nI t < baT T A b then baT T A b - nI t else 0) := by
  obtain ⟨h4, h5⟩ := hW.ti
  rcases ba_b hW hb ht with ⟨h1, h2⟩ | ⟨s, r, h0, h1, h2, h3, _, h4, h5⟩
  · rw [if_pos h1, h2, if_neg (n_neg (by omega))]
  · have hb' : T (38 + 2 * b) + 2 * riT T A b = baT T A b := by unfold baT; rw [if_neg h0]
    rw [if_neg h0, hb', h5]
    have z : (0 : Int32).toInt = 0 := rfl
    by_cases h : t < s + 2 * r
    · rw [if_pos ((n_lt (by omega) (by omega)).mpr h), n_sub (by omega), eqi, imax_i, z, n_i (by omega)]; omega
    · rw [if_neg (fun q => h ((n_lt (by omega) (by omega)).mp q)), eqi, imax_i, sub_i, n_i (by omega), n_i (by omega), z]; omega
theorem m_back2 (hl : LA hm L A nb) (hW : WF tb T L A nb) (ht : tb < 1000000000) {b t : Nat} (hb : b < nb) (ht2 : t < 1000000000) : fX10_backIn (nI b) (nI t) (rwm hm T) = some (if nI t < baT T A b then baT T A b - nI t else 0) := by
  have := hW.nb
  rw [m_back hl (by omega), bk_b hW hb ht ht2]
theorem m_jam (hl : LA hm L A nb) (hW : WF tb T L A nb) (ht : tb < 1000000000) {b t : Nat} (hb : b < nb) (ht2 : t < 1000000000) (hn : ¬ nI t < baT T A b) : (fX10_wouldJam (nI b) (nI t) (rwm hm T)).bind (fun v3 => if v3 = 0 then (some 0) else (some 5)) = some (sfT T A b (nI t)) := by
  have hnb := hW.nb
  show (if ((rwm hm T) (11, 22, 0) 4) = m1 then (some 0) else (if ((rwm hm T) (11, 22, 0) 4) = nI b then (some 0) else ((fX10_backIn ((rwm hm T) (11, 22, 0) 4) (nI t) (rwm hm T)).bind fun v1 => if v1 = 0 then (some 0) else ((fX10_struckAt ((rwm hm T) (11, 22, 0) 4) (rwm hm T)).bind fun v2 => (fX10_rise ((rwm hm T) (11, 22, 0) 4) (rwm hm T)).bind fun v3 => (fX10_rise (nI b) (rwm hm T)).bind fun v4 => (fX10_clearance (nI b) ((rwm hm T) (11, 22, 0) 4) (rwm hm T)).bind fun v5 => if (iabs (((v2 + v3) - nI t) - v4)) < v5 then (some 1) else (some 0))))).bind (fun v3 => if v3 = 0 then (some 0) else (some 5)) = _
  unfold sfT
  rw [rwm_e, if_neg hn]
  by_cases h1 : T 4 = m1
  · rw [if_pos h1, if_pos h1]; rfl
  · rw [if_neg h1, if_neg h1]
    by_cases h2 : T 4 = nI b
    · rw [if_pos h2, if_pos h2]; rfl
    · rw [if_neg h2, if_neg h2]
      obtain ⟨h3, h4⟩ := (hW.la).resolve_left h1
      have h3' : T 4 = nI (tn (T 4)) := h3
      generalize tn (T 4) = l at h3' h4 ⊢
      rw [h3', m_back2 hl hW ht h4 ht2, Option.bind_some]
      have z : (0 : Int32).toInt = 0 := rfl
      by_cases h5 : nI t < baT T A l
      · rw [if_pos h5, if_pos h5]
        rcases ba_b hW h4 ht with ⟨h6, h7⟩ | ⟨s, r, h0, h6, h7, h8, h8', h9, h10⟩
        · rw [h7] at h5; exact absurd h5 (n_neg (by omega))
        · obtain ⟨_, hti⟩ := hW.ti
          rw [h10] at h5 ⊢
          have h5' := (n_lt (by omega) (by omega)).mp h5
          rw [n_sub (by omega), if_neg (by rw [n_lit 0, n_eq (by omega) (by omega)]; omega)]
          obtain ⟨q, g1, g2, g3⟩ := rs_b hW hb
          obtain ⟨p, g4, g5⟩ := rm_b hW hb h4
          rw [m_struck (by omega), m_rise hl (by omega), m_rise hl (by omega), m_clear hl (by omega) (by omega)]
          simp only [Option.bind_some]
          rw [h6, h8, g1, g4]
          have e : iabs (((nI s + nI r) - nI t) - nI q) = iabs (((nI t + nI q) - nI s) - nI r) := by
            rw [eqi]
            have is := n_i (show s < 2147483648 by omega)
            have it := n_i (show t < 2147483648 by omega)
            have ir := n_i (show r < 2147483648 by omega)
            have iq := n_i (show q < 2147483648 by omega)
            have c1 : (nI s + nI r).toInt = (s : Int) + r := by rw [add_s (by omega) (by omega), is, ir]
            have c2 : (nI t + nI q).toInt = (t : Int) + q := by rw [add_s (by omega) (by omega), it, iq]
            have d1 : ((nI s + nI r) - nI t).toInt = (s : Int) + r - t := by rw [sub_s (by omega) (by omega), c1, it]
            have d2 : ((nI t + nI q) - nI s).toInt = (t : Int) + q - s := by rw [sub_s (by omega) (by omega), c2, is]
            have a1 : (((nI s + nI r) - nI t) - nI q).toInt = (s : Int) + r - t - q := by rw [sub_s (by omega) (by omega), d1, iq]
            have a2 : (((nI t + nI q) - nI s) - nI r).toInt = (t : Int) + q - s - r := by rw [sub_s (by omega) (by omega), d2, ir]
            rw [iabs_i (by omega), iabs_i (by omega), a1, a2]; split <;> split <;> omega
          rw [e]
          by_cases h : iabs (((nI t + nI q) - nI s) - nI r) < nI p
          · rw [if_pos h, if_pos h]; rfl
          · rw [if_neg h, if_neg h]; rfl
      · rw [if_neg h5, if_neg h5]; rfl
theorem m_lock (hW : WF tb T L A nb) {c : Nat} (hc : c ≤ tn (T 9)) : fX10_isLocked (nI c) (rwm hm T) = some (lkT T (nI c)) := by
  show (fX10_its 0 (rwm hm T)).bind (fun v1 => if nI c = v1 then (some 1) else ((fX10_its 3 (rwm hm T)).bind fun v2 => if v2 < nI c then (if ((rwm hm T) (11, 22, 0) 2) = 0 then (some 1) else (some 0)) else (some 0))) = _
  obtain ⟨h1, h2, h3⟩ := hW.w
  have h1' : T 9 = nI (tn (T 9)) := h1
  rw [its_0, its_3, Option.bind_some, Option.bind_some, rwm_e]
  unfold lkT
  by_cases h : c = tn (T 9)
  · rw [if_pos (by rw [h]; exact h1.symm), if_neg (by rw [h, ← h1']; exact Int32.lt_irrefl)]
  · have g1 : ¬ nI c = T 9 := by rw [h1', n_eq (by omega) (by omega)]; exact h
    have g2 : nI c < T 9 := by rw [h1', n_lt (by omega) (by omega)]; omega
    rw [if_neg g1, if_pos g2]
    by_cases g3 : T 12 < nI c
    · rw [if_pos g3, if_pos g3]
      by_cases g4 : T 2 = 0
      · rw [if_pos g4, if_pos g4]
      · rw [if_neg g4, if_neg g4]
    · rw [if_neg g3, if_neg g3]
theorem m_reason (hl : LA hm L A nb) (hW : WF tb T L A nb) (ht : tb < 1000000000) {b t : Nat} (hb : b < nb) (ht2 : t < 1000000000) : fX10_reasonOf (nI b) (nI t) (rwm hm T) = some (faT T A b (nI t)) := by
  show (if ((rwm hm T) (11, 22, 0) 5) = m1 then ((fX10_isLocked ((rwm hm T) (11, 22, 0) 1) (rwm hm T)).bind fun v1 => if v1 = 0 then ((fX10_backIn (nI b) (nI t) (rwm hm T)).bind fun v2 => if 0 < v2 then (some 4) else ((fX10_wouldJam (nI b) (nI t) (rwm hm T)).bind fun v3 => if v3 = 0 then (some 0) else (some 5))) else (some 2)) else (some 1)) = _
  unfold faT
  rw [rwm_e]
  by_cases h : T 5 = m1
  · rw [if_pos h, if_pos h]
    obtain ⟨h1, h2⟩ := hW.co
    have h1' : T 1 = nI (tn (T 1)) := h1
    rw [h1', m_lock hW h2, Option.bind_some]
    by_cases h3 : lkT T (nI (tn (T 1))) = 0
    · rw [if_pos h3, if_pos h3, m_back2 hl hW ht hb ht2, Option.bind_some]
      by_cases h4 : nI t < baT T A b
      · rw [if_pos h4, if_pos]
        · unfold sfT; rw [if_pos h4]
        · rcases ba_b hW hb ht with ⟨h6, h7⟩ | ⟨s, r, h0, h6, h7, h8, h8', h9, h10⟩
          · rw [h7] at h4; exact absurd h4 (n_neg (by omega))
          · obtain ⟨_, hti⟩ := hW.ti
            rw [h10] at h4 ⊢
            have h4' := (n_lt (by omega) (by omega)).mp h4
            rw [n_sub (by omega), n_lit 0, n_lt (by omega) (by omega)]; omega
      · rw [if_neg h4, if_neg (Int32.lt_irrefl), m_jam hl hW ht hb ht2 h4]
    · rw [if_neg h3, if_neg h3]
  · rw [if_neg h, if_neg h]
end
section
variable {hm : HP} {T L A : Tr0} {tb nb : Nat}
theorem m_begins : fX10_begins (rwm hm T) = some (rwm hm (beT T)) := by
  show (fX10_counts 13 (rwm hm T)).bind (fun hp3 => (fX10_its 5 hp3).bind fun v4 => some (up hp3 (11, 22, 0) 3 ((hp3 (11, 22, 0) 3) + v4))) = _
  rw [cnt_13, Option.bind_some, its_5, Option.bind_some, rwm_up, rwm_e]; rfl
theorem m_ends {v : Int32} : fX10_ends v (rwm hm T) = some (v, rwm hm (enT T v)) := by
  show (if v = 0 then (some (v, (up (up (rwm hm T) (11, 22, 0) 36 v) (11, 22, 0) 37 m1))) else ((fX10_counts 9 (rwm hm T)).bind fun hp3 => some (v, (up (up hp3 (11, 22, 0) 36 v) (11, 22, 0) 37 m1)))) = _
  unfold enT
  by_cases h : v = 0
  · rw [if_pos h, if_pos h, rwm_up, rwm_up]
  · rw [if_neg h, if_neg h, cnt_9, Option.bind_some, rwm_up, rwm_up]
theorem m_advances : fX10_advances (rwm hm T) = some (rwm hm (adT T)) := by
  show (fX10_its 3 (up (rwm hm T) (11, 22, 0) 1 ((rwm hm T) (11, 22, 0) 1 + 1))).bind (fun v1 => (fX10_its 4 (up (rwm hm T) (11, 22, 0) 1 ((rwm hm T) (11, 22, 0) 1 + 1))).bind fun v2 => if ((up (rwm hm T) (11, 22, 0) 1 ((rwm hm T) (11, 22, 0) 1 + 1)) (11, 22, 0) 1) = (v1 - v2) then ((fX10_counts 10 (up (rwm hm T) (11, 22, 0) 1 ((rwm hm T) (11, 22, 0) 1 + 1))).bind fun hp5 => some hp5) else (some (up (rwm hm T) (11, 22, 0) 1 ((rwm hm T) (11, 22, 0) 1 + 1)))) = _
  rw [rwm_up, rwm_e, its_3, Option.bind_some, its_4, Option.bind_some, rwm_e, cnt_10, Option.bind_some]
  show (if T 1 + 1 = T 12 - T 13 then _ else _) = _
  unfold adT
  by_cases h : T 1 + 1 = T 12 - T 13
  · rw [if_pos h, if_pos h]; rfl
  · rw [if_neg h, if_neg h]
theorem m_runsOn (h8 : T 8 = 0 ∨ T 8 = 1) (h7 : isN (T 7)) (h18 : isN (T 18)) (hl : tn (T 7) < tn (T 18)) (hb : tn (T 18) ≤ 60) : fX10_runsOn (rwm hm T) = some (rwm hm (roT T)) := by
  show (if ((rwm hm T) (11, 22, 0) 8) = 1 then ((fX10_its 9 (rwm hm T)).bind fun v1 => (fX10_in (((rwm hm T) (11, 22, 0) 7) + 1) 0 (v1 - 1) (rwm hm T)).bind fun v2 => if v2 = 0 then ((fX10_counts 11 (up (rwm hm T) (11, 22, 0) 8 (1 - ((rwm hm T) (11, 22, 0) 8)))).bind fun hp5 => some hp5) else (some (up (rwm hm T) (11, 22, 0) 7 (((rwm hm T) (11, 22, 0) 7) + 1)))) else ((fX10_its 9 (rwm hm T)).bind fun v1 => (fX10_in (((rwm hm T) (11, 22, 0) 7) + m1) 0 (v1 - 1) (rwm hm T)).bind fun v2 => if v2 = 0 then ((fX10_counts 11 (up (rwm hm T) (11, 22, 0) 8 (1 - ((rwm hm T) (11, 22, 0) 8)))).bind fun hp5 => some hp5) else (some (up (rwm hm T) (11, 22, 0) 7 (((rwm hm T) (11, 22, 0) 7) + m1))))) = _
  rw [rwm_e, its_9, Option.bind_some, Option.bind_some]
  have e7 := isN_i h7
  have e18 := isN_i h18
  have z0 : (0 : Int32).toInt = 0 := rfl
  have z1 : (1 : Int32).toInt = 1 := rfl
  have zm : m1.toInt = -1 := m1_i
  unfold roT
  rcases h8 with h8 | h8
  · rw [if_neg (by rw [h8]; decide), if_neg (by rw [h8]; decide)]
    by_cases h : T 7 = 0
    · rw [if_pos h, in_no (Or.inl (by rw [lt_i, add_i, z0, h, z0, zm]; decide)), Option.bind_some, if_pos rfl, rwm_up, cnt_11, Option.bind_some, h8]; rfl
    · have h' : tn (T 7) ≠ 0 := fun q => h (by rw [eqi, e7, z0, q]; rfl)
      rw [if_neg h, in_yes (by rw [lt_i, add_i, z0, zm]; omega) (by rw [lt_i, add_i, sub_i, z1, zm]; omega), Option.bind_some, if_neg (by decide), rwm_up]
      have : T 7 + m1 = T 7 - 1 := by rw [eqi, add_i, sub_i, z1, zm]; omega
      rw [this]
  · rw [if_pos h8, if_pos h8]
    by_cases h : T 7 + 1 < T 18
    · have h' := lt_i.mp h
      rw [add_i, z1] at h'
      rw [if_pos h, in_yes (by rw [lt_i, add_i, z0, z1]; omega) (by rw [lt_i, add_i, sub_i, z1]; omega), Option.bind_some, if_neg (by decide), rwm_up]
    · have h' : ¬ (T 7 + 1).toInt < (T 18).toInt := fun q => h (lt_i.mpr q)
      rw [add_i, z1] at h'
      rw [if_neg h, in_no (Or.inr (by rw [lt_i, add_i, sub_i, z1]; omega)), Option.bind_some, if_pos rfl, rwm_up, cnt_11, Option.bind_some, h8]; rfl
end
section
variable {hm : HP} {T L A : Tr0} {tb nb : Nat}
theorem m_prints91 {ink : Int32} (h8 : T 8 = 0 ∨ T 8 = 1) (h7 : isN (T 7)) (h18 : isN (T 18)) (hl : tn (T 7) < tn (T 18)) (hb : tn (T 18) ≤ 60) (hi : ink = T (130 + tn (T 7))) : fX10_prints_91 ink (rwm hm T) = some (rwm (up hm (10, 0, 0) 25 ink) (feT (uT T 25 (T 25 + 1)))) := by
  have h7' : T 7 = nI (tn (T 7)) := h7
  have ix : (130 + (rwm hm T) (11, 22, 0) 7) = nI (130 + tn (T 7)) := by rw [rwm_e, ← n_add, ← h7']; rfl
  show (fX10_its 11 (rwm hm T)).bind (fun v1 => if inb (130 + ((rwm hm T) (11, 22, 0) 7)) 1150 = true then ((fX10_counts 3 (up (up (rwm hm T) (11, 22, 0) ((130 + ((rwm hm T) (11, 22, 0) 7)).toNatClampNeg) (imax 0 (ink - v1))) (10, 0, 0) 25 ink)).bind fun hp4 => (fX10_runsOn hp4).bind fun hp7 => some hp7) else none) = _
  rw [its_11, Option.bind_some, ix, if_pos (inb_n (by omega) (by omega)), n_c (by omega), rwm_up, rwm_up2 (by decide), cnt_3, Option.bind_some]
  have a : ∀ j x, j < 130 → uT T (130 + tn (T 7)) x j = T j := fun j x h => uT_n (by omega)
  have b : ∀ j x y, j < 25 → uT (uT T (130 + tn (T 7)) x) 25 y j = T j := fun j x y h => by rw [uT_n (by omega), a j x (by omega)]
  rw [m_runsOn (by rw [b _ _ _ (by omega)]; exact h8) (by rw [b _ _ _ (by omega)]; exact h7) (by rw [b _ _ _ (by omega)]; exact h18) (by rw [b _ _ _ (by omega), b _ _ _ (by omega)]; exact hl) (by rw [b _ _ _ (by omega)]; exact hb), Option.bind_some, a 25 _ (by omega)]
  congr 2
  unfold feT
  have e7 : uT T 25 (T 25 + 1) 7 = T 7 := uT_n (by omega)
  have e130 : uT T 25 (T 25 + 1) (130 + tn (T 7)) = T (130 + tn (T 7)) := uT_n (by omega)
  have e20 : uT T 25 (T 25 + 1) 20 = T 20 := uT_n (by omega)
  rw [e7, e130, e20, ← hi]
  congr 1
  funext j
  unfold uT
  by_cases h1 : j = 25
  · rw [if_pos h1, if_neg (by omega), if_pos h1]
  · rw [if_neg h1, if_neg h1]
theorem m_prints {x : Int32} (h8 : T 8 = 0 ∨ T 8 = 1) (h7 : isN (T 7)) (h18 : isN (T 18)) (hl : tn (T 7) < tn (T 18)) (hb : tn (T 18) ≤ 60) (h0 : isN (T 0)) (h1 : isN (T 1)) (hl0 : tn (T 0) < 12) (hl1 : tn (T 1) < 40) : fX10_prints x (rwm hm T) = some (rwm (up hm (10, 0, 0) 25 (T (130 + tn (T 7)))) (prT T x)) := by
  have h7' : T 7 = nI (tn (T 7)) := h7
  have h0' : T 0 = nI (tn (T 0)) := h0
  have h1' : T 1 = nI (tn (T 1)) := h1
  have hp : plT T < 480 := by unfold plT; omega
  have ix : (130 + (rwm hm T) (11, 22, 0) 7) = nI (130 + tn (T 7)) := by rw [rwm_e, ← n_add, ← h7']; rfl
  have ip : (40 * ((rwm hm T) (11, 22, 0) 0)) + ((rwm hm T) (11, 22, 0) 1) = nI (plT T) := by
    unfold plT; rw [rwm_e, ← n_add, ← n_mul, ← h0', ← h1']; rfl
  have i190 : (190 + nI (plT T)) = nI (190 + plT T) := n_add 190 _
  have i670 : (670 + nI (plT T)) = nI (670 + plT T) := n_add 670 _
  have key : ∀ S : Tr0, (∀ j, j ≠ 34 → S j = T j) → fX10_prints_53 x (nI (plT T)) (T (130 + tn (T 7))) (rwm hm S) = some (rwm (up hm (10, 0, 0) 25 (T (130 + tn (T 7)))) (feT (uT (uT (uT S (190 + plT T) x) (670 + plT T) (imin 9 (T (670 + plT T) + T (130 + tn (T 7))))) 25 (S 25 + 1)))) := by
    intro S hS
    show (if inb (190 + nI (plT T)) 1150 = true then (if inb (670 + nI (plT T)) 1150 = true then (if inb (670 + nI (plT T)) 1150 = true then (fX10_prints_91 (T (130 + tn (T 7))) (up (up (rwm hm S) (11, 22, 0) ((190 + nI (plT T)).toNatClampNeg) x) (11, 22, 0) ((670 + nI (plT T)).toNatClampNeg) (imin 9 (((up (rwm hm S) (11, 22, 0) ((190 + nI (plT T)).toNatClampNeg) x) (11, 22, 0) (670 + nI (plT T)).toNatClampNeg) + T (130 + tn (T 7)))))) else none) else none) else none) = _
    rw [i190, i670, if_pos (inb_n (by omega) (by omega)), if_pos (inb_n (by omega) (by omega)), if_pos (inb_n (by omega) (by omega)), n_c (by omega), n_c (by omega), rwm_up, rwm_e, rwm_up]
    have a : ∀ j, j < 190 → j ≠ 34 → (uT (uT S (190 + plT T) x) (670 + plT T) (imin 9 ((uT S (190 + plT T) x) (670 + plT T) + T (130 + tn (T 7))))) j = T j := fun j h h' => by
      rw [uT_n (by omega), uT_n (by omega), hS j h']
    have a25 : (uT (uT S (190 + plT T) x) (670 + plT T) (imin 9 ((uT S (190 + plT T) x) (670 + plT T) + T (130 + tn (T 7))))) 25 = S 25 := by
      rw [uT_n (by omega), uT_n (by omega)]
    rw [m_prints91 (by rw [a 8 (by omega) (by omega)]; exact h8) (by rw [a 7 (by omega) (by omega)]; exact h7) (by rw [a 18 (by omega) (by omega)]; exact h18) (by rw [a 7 (by omega) (by omega), a 18 (by omega) (by omega)]; exact hl) (by rw [a 18 (by omega) (by omega)]; exact hb) (by rw [a 7 (by omega) (by omega), a _ (by omega) (by omega)]), a25, uT_n (show 670 + plT T ≠ 190 + plT T by omega), hS _ (by omega)]
  show (if inb (130 + ((rwm hm T) (11, 22, 0) 7)) 1150 = true then (if inb (190 + ((40 * ((rwm hm T) (11, 22, 0) 0)) + ((rwm hm T) (11, 22, 0) 1))) 1150 = true then (if ((rwm hm T) (11, 22, 0) (190 + ((40 * ((rwm hm T) (11, 22, 0) 0)) + ((rwm hm T) (11, 22, 0) 1))).toNatClampNeg) = 0 then (fX10_prints_53 x ((40 * ((rwm hm T) (11, 22, 0) 0)) + ((rwm hm T) (11, 22, 0) 1)) ((rwm hm T) (11, 22, 0) (130 + ((rwm hm T) (11, 22, 0) 7)).toNatClampNeg) (rwm hm T)) else ((fX10_counts 12 (rwm hm T)).bind fun hp10 => fX10_prints_53 x ((40 * ((rwm hm T) (11, 22, 0) 0)) + ((rwm hm T) (11, 22, 0) 1)) ((rwm hm T) (11, 22, 0) (130 + ((rwm hm T) (11, 22, 0) 7)).toNatClampNeg) hp10)) else none) else none) = _
  rw [ip, ix, i190, if_pos (inb_n (by omega) (by omega)), if_pos (inb_n (by omega) (by omega)), n_c (by omega), n_c (by omega), rwm_e]
  unfold prT ovT
  by_cases h : T (190 + plT T) = 0
  · rw [if_pos h, if_pos h]; exact key T (fun _ _ => rfl)
  · rw [if_neg h, if_neg h, cnt_12, Option.bind_some]; exact key _ (fun j hj => uT_n hj)
end
section
variable {hm : HP} {T L A : Tr0} {tb nb : Nat}
theorem LA_up (hl : LA hm L A nb) {k : Nat} {x : Int32} (h : k ≠ 2) : LA (up hm (10, 0, 0) k x) L A nb := by
  refine ⟨?_, ?_, ?_⟩
  · rw [up_n (by decide)]; exact hl.1
  · rw [up_n (by decide)]; exact hl.2.1
  · rw [up_e, uT_n (fun q => h q.symm)]; exact hl.2.2
theorem idx_b {a b : Nat} : (nI a + (2 * nI b) + 1) = nI (a + 2 * b + 1) := by
  show nI a + nI 2 * nI b + nI 1 = _
  rw [n_mul, n_add, n_add]
theorem m_strikes (hl : LA hm L A nb) (hW : WF tb T L A nb) {b : Nat} (hb : b < nb) {sh : Int32} (hc : tn (T 1) < tn (T 9)) : fX10_strikes (nI b) sh (rwm hm T) = some (rwm (up hm (10, 0, 0) 25 (T (130 + tn (T 7)))) (skT T L b sh)) := by
  have hnb := hW.nb
  have hw := hW.w
  have hln := hW.ln
  have hli := hW.li
  have hco := hW.co
  have hhe := hW.he
  have hlg := hW.lg
  have key : ∀ (S : Tr0) (x : Int32), (∀ j, (j < 38 ∨ 90 ≤ j) → j ≠ 4 → S j = T j) → (fX10_prints x (rwm hm S)).bind (fun hp3 => (fX10_advances hp3).bind fun hp6 => some hp6) = some (rwm (up hm (10, 0, 0) 25 (T (130 + tn (T 7)))) (adT (prT S x))) := by
    intro S x hS
    have e7 : S 7 = T 7 := hS 7 (by omega) (by omega)
    rw [m_prints (by rw [hS 8 (by omega) (by omega)]; exact hW.fo) (by rw [e7]; exact hhe.1) (by rw [hS 18 (by omega) (by omega)]; exact hlg.1) (by rw [e7, hS 18 (by omega) (by omega)]; exact hhe.2) (by rw [hS 18 (by omega) (by omega)]; exact hlg.2.2) (by rw [hS 0 (by omega) (by omega)]; exact hli.1) (by rw [hS 1 (by omega) (by omega)]; exact hco.1) (by rw [hS 0 (by omega) (by omega)]; omega) (by rw [hS 1 (by omega) (by omega)]; omega), Option.bind_some, m_advances, Option.bind_some, e7, hS (130 + tn (T 7)) (by omega) (by omega)]
  show (if inb ((nI 38 + (2 * nI b)) + 0) 1150 = true then (if inb ((nI 38 + (2 * nI b)) + 1) 1150 = true then (if inb ((nI 38 + (2 * nI b)) + 1) 1150 = true then (fX10_strikes_43 (nI b) sh (up (up (up (rwm hm T) (11, 22, 0) (((nI 38 + (2 * nI b)) + 0).toNatClampNeg) ((rwm hm T) (11, 22, 0) 3)) (11, 22, 0) (((nI 38 + (2 * nI b)) + 1).toNatClampNeg) (((up (rwm hm T) (11, 22, 0) (((nI 38 + (2 * nI b)) + 0).toNatClampNeg) ((rwm hm T) (11, 22, 0) 3)) (11, 22, 0) ((nI 38 + (2 * nI b)) + 1).toNatClampNeg) + 1)) (11, 22, 0) 4 (nI b))) else none) else none) else none) = _
  rw [idx_a (by omega) (by omega), idx_b, if_pos (inb_n (by omega) (by omega)), if_pos (inb_n (by omega) (by omega)), if_pos (inb_n (by omega) (by omega)), n_c (by omega), n_c (by omega), rwm_up, rwm_up, rwm_up, rwm_e, rwm_e, uT_n (show 38 + 2 * b + 1 ≠ 38 + 2 * b by omega)]
  have e39 : 38 + 2 * b + 1 = 39 + 2 * b := by omega
  rw [e39]
  show (if sh = 0 then (if inb (nI b) 26 = true then ((fX10_prints (hm (11, 20, 0) (nI b).toNatClampNeg) (rwm hm (uT (uT (uT T (38 + 2 * b) (T 3)) (39 + 2 * b) (T (39 + 2 * b) + 1)) 4 (nI b)))).bind fun hp3 => (fX10_advances hp3).bind fun hp6 => some hp6) else none) else (if inb (nI b) 26 = true then ((fX10_prints ((hm (11, 20, 0) (nI b).toNatClampNeg) - 32) (rwm hm (uT (uT (uT T (38 + 2 * b) (T 3)) (39 + 2 * b) (T (39 + 2 * b) + 1)) 4 (nI b)))).bind fun hp3 => (fX10_advances hp3).bind fun hp6 => some hp6) else none)) = _
  have hS : ∀ j, (j < 38 ∨ 90 ≤ j) → j ≠ 4 → (uT (uT (uT T (38 + 2 * b) (T 3)) (39 + 2 * b) (T (39 + 2 * b) + 1)) 4 (nI b)) j = T j := fun j h h' => by
    rw [uT_n h', uT_n (by omega), uT_n (by omega)]
  rw [if_pos (inb_n (by omega) (by omega)), hl.1, n_c (by omega), key _ _ hS, key _ _ hS]
  unfold skT
  by_cases h : sh = 0
  · rw [if_pos h, if_pos h]
  · rw [if_neg h, if_neg h, if_pos (inb_n (by omega) (by omega))]
end
section
variable {T : Tr0} {A : Tr0} {tb nb : Nat}
theorem beT_o {j : Nat} (h : j ≠ 3) (h' : j ≠ 35) : beT T j = T j := by unfold beT; rw [uT_n h, uT_n h']
theorem beT_3 : beT T 3 = T 3 + T 14 := rfl
end
section
variable {hm : HP} {T L A : Tr0} {tb nb : Nat}
/-- the time goes on -/
theorem WF_beT (hW : WF tb T L A nb) (ht : tb < 1000000000) : WF (tb + 999) (beT T) L A nb := by
  have e : ∀ j, j ≠ 3 → j ≠ 35 → beT T j = T j := fun j h h' => beT_o h h'
  obtain ⟨h1, h2⟩ := hW.ti
  obtain ⟨h3, h4, h5⟩ := hW.pc
  have h1' : T 3 = nI (tn (T 3)) := h1
  have h3' : T 14 = nI (tn (T 14)) := h3
  have e3 : beT T 3 = nI (tn (T 3) + tn (T 14)) := by rw [beT_3, ← n_add, ← h1', ← h3']
  have e3' : tn (beT T 3) = tn (T 3) + tn (T 14) := by rw [e3, n_t (by omega)]
  intro i
  match i with
  | 0 => exact hW 0
  | 1 => exact hW 1
  | 2 => exact hW 2
  | 3 => exact hW 3
  | 4 => exact hW 4
  | 5 => exact hW 5
  | 6 => exact hW 6
  | 7 => exact hW 7
  | 8 => exact hW 8
  | 9 => exact hW 9
  | 10 => exact hW 10
  | 11 => exact hW 11
  | 12 => exact ⟨by rw [e3]; exact isN_n (by omega), by rw [e3']; omega⟩
  | 13 => exact hW 13
  | 14 => exact hW 14
  | 15 => exact hW 15
  | 16 => exact hW 16
  | 17 => exact hW 17
  | 18 =>
    intro b hb
    rw [e _ (by omega) (by omega), e3']
    rcases hW.st b hb with h | ⟨h, h'⟩
    · exact Or.inl h
    · exact Or.inr ⟨h, by omega⟩
  | 19 => exact hW 19
  | 20 => exact hW 20
  | 21 => intro c hc; rw [e _ (by omega) (by omega)]; exact hW.sp c hc
  | 22 => intro c hc; rw [e _ (by omega) (by omega)]; exact hW.ii c hc
  | 23 => intro l c hl hc; rw [e _ (by omega) (by omega)]; exact hW.sn l c hl hc
  | 24 => intro l c hl hc h; rw [e _ (by omega) (by omega), e _ (by omega) (by omega)]; exact hW.em l c hl hc h
  | 25 => intro l c hl hc; rw [e _ (by omega) (by omega)]; exact hW.dk l c hl hc
  | n + 26 => exact trivial
/-- the heap of the reference after a letter's key: the latest ink is kept too -/
def liH (hm : HP) (T A : Tr0) (b : Nat) : HP := if lvT T A b = 0 then up hm (10, 0, 0) 25 (T (130 + tn (T 7))) else hm
theorem faT_lock {T : Tr0} {b : Nat} {t : Int32} (h : faT T A b t = 0) : lkT T (T 1) = 0 := by
  unfold faT at h
  by_cases h1 : T 5 = m1
  · rw [if_pos h1] at h
    by_cases h2 : lkT T (T 1) = 0
    · exact h2
    · rw [if_neg h2] at h; exact absurd h (by decide)
  · rw [if_neg h1] at h; exact absurd h (by decide)
theorem lock_lt (hW : WF tb T L A nb) (h : lkT T (T 1) = 0) : tn (T 1) < tn (T 9) := by
  have h1 := isN_i hW.co.1
  have h2 := isN_i hW.w.1
  unfold lkT at h
  by_cases h3 : T 1 < T 9
  · have := lt_i.mp h3; omega
  · rw [if_neg h3] at h; exact absurd h (by decide)
theorem m_letterKey (hl : LA hm L A nb) (hW : WF tb T L A nb) (ht : tb < 900000000) {b : Nat} (hb : b < nb) {sh : Int32} : fX10_letterKey (nI b) sh (rwm hm T) = some (lvT T A b, rwm (liH hm T A b) (leT T L A b sh)) := by
  have hB := WF_beT hW (by omega)
  have h3 : beT T 3 = nI (tn (beT T 3)) := hB.ti.1
  have h3' := hB.ti.2
  show (fX10_begins (rwm hm T)).bind (fun hp8 => (fX10_reasonOf (nI b) (hp8 (11, 22, 0) 3) hp8).bind fun v9 => if v9 = 5 then (fX10_letterKey_28 v9 (up hp8 (11, 22, 0) 5 (nI b))) else (if v9 = 0 then ((fX10_strikes (nI b) sh hp8).bind fun hp12 => fX10_letterKey_60 v9 hp12) else (fX10_letterKey_60 v9 hp8))) = _
  rw [m_begins, Option.bind_some, rwm_e, h3, m_reason hl hB (by omega) hb (by omega), Option.bind_some, ← h3]
  show (if lvT T A b = 5 then _ else (if lvT T A b = 0 then _ else _)) = _
  unfold leT liH
  by_cases h5 : lvT T A b = 5
  · rw [if_pos h5, if_pos h5]
    show ((fX10_counts 8 (up (up (rwm hm (beT T)) (11, 22, 0) 5 (nI b)) (11, 22, 0) 6 ((up (rwm hm (beT T)) (11, 22, 0) 5 (nI b)) (11, 22, 0) 4))).bind fun hp5 => (fX10_ends (lvT T A b) hp5).bind fun q2 => some (q2.1, q2.2)) = _
    rw [rwm_up, rwm_e, rwm_up, cnt_8, Option.bind_some, m_ends, Option.bind_some, if_neg (by rw [h5]; decide)]; rfl
  · rw [if_neg h5, if_neg h5]
    by_cases h0 : lvT T A b = 0
    · rw [if_pos h0, if_pos h0, if_pos h0, m_strikes hl hB hb (lock_lt hB (faT_lock h0)), Option.bind_some]
      show (fX10_ends (lvT T A b) _).bind (fun q2 => some (q2.1, q2.2)) = _
      rw [m_ends, Option.bind_some, beT_o (show 7 ≠ 3 by decide) (by decide), beT_o (by omega) (by omega)]
    · rw [if_neg h0, if_neg h0, if_neg h0]
      show (fX10_ends (lvT T A b) _).bind (fun q2 => some (q2.1, q2.2)) = _
      rw [m_ends, Option.bind_some]
end
section
variable {hm : HP} {T L A : Tr0} {tb nb : Nat}
theorem m_stopFrom_aux (hW : WF tb T L A nb) : ∀ (k n j c : Nat), j + k = tn (T 9) ∨ (k = 0 ∧ tn (T 9) ≤ j ∧ j ≤ 50) → k < n → fX10_stopFrom_4 n (nI c) (nI j) (rwm hm T) = some (tabF T k j (nI c)) := by
  obtain ⟨hw, hw1, hw2⟩ := hW.w
  have hw' : T 9 = nI (tn (T 9)) := hw
  intro k
  induction k with
  | zero =>
    intro n j c hk hn
    cases n with
    | zero => omega
    | succ n =>
      show (fX10_its 0 (rwm hm T)).bind (fun v1 => if nI j < v1 then _ else ((fX10_its 3 (rwm hm T)).bind fun v2 => some (imax (nI c) v2))) = _
      rw [its_0, its_3, Option.bind_some, Option.bind_some, hw', if_neg (by rw [n_lt (by omega) (by omega)]; omega)]; rfl
  | succ k ih =>
    intro n j c hk hn
    cases n with
    | zero => omega
    | succ n =>
      show (fX10_its 0 (rwm hm T)).bind (fun v1 => if nI j < v1 then (if inb (90 + nI j) 1150 = true then (if ((rwm hm T) (11, 22, 0) (90 + nI j).toNatClampNeg) = 1 then (some (nI j)) else (fX10_stopFrom_4 n (nI c) (nI j + 1) (rwm hm T))) else none) else _) = _
      have i90 : (90 + nI j) = nI (90 + j) := n_add 90 _
      rw [its_0, Option.bind_some, hw', if_pos (by rw [n_lt (by omega) (by omega)]; omega), i90, if_pos (inb_n (by omega) (by omega)), n_c (by omega), rwm_e, ← nI_succ, ih n (j + 1) c (by omega) (by omega)]
      show _ = some (if T (90 + j) = 0 then tabF T k (j + 1) (nI c) else nI j)
      rcases hW.sp j (by omega) with h | h
      · rw [if_neg (by rw [h]; decide), if_pos h]
      · rw [if_pos h, if_neg (by rw [h]; decide)]
theorem m_stopFrom (hW : WF tb T L A nb) {c : Nat} (hc : c ≤ tn (T 9)) : fX10_stopFrom (nI c) (rwm hm T) = some (tabT T c) := by
  obtain ⟨hw, hw1, hw2⟩ := hW.w
  have hf := FU_ge
  show fX10_stopFrom_4 FU (nI c) (nI c + 1) (rwm hm T) = _
  rw [← nI_succ, m_stopFrom_aux hW (tn (T 9) - (c + 1)) FU (c + 1) c (by omega) (by omega)]; rfl
theorem m_backFrom {c : Int32} : fX10_backFrom c (rwm hm T) = some (bkT T c) := by
  show (if c = 0 then (if (1 : Int32) = 0 then (some (c - 1)) else (some c)) else ((fX10_its 2 (rwm hm T)).bind fun v1 => if c = v1 then (if ((rwm hm T) (11, 22, 0) 2) = 0 then (if (1 : Int32) = 0 then (some (c - 1)) else (some c)) else (if (0 : Int32) = 0 then (some (c - 1)) else (some c))) else (if (0 : Int32) = 0 then (some (c - 1)) else (some c)))) = _
  rw [its_2, Option.bind_some, rwm_e, if_neg (show ¬ (1 : Int32) = 0 by decide), if_pos (show (0 : Int32) = 0 from rfl)]
  unfold bkT
  split
  · rfl
  · split
    · split <;> rfl
    · rfl
theorem m_spaceKey (hW : WF tb T L A nb) : fX10_spaceKey (rwm hm T) = some (ovR T 0, if ovR T 0 = 0 then rwm hm (doT T 0) else rwm hm T) := by
  have hco := hW.co
  have h1' : T 1 = nI (tn (T 1)) := hco.1
  show (if ((rwm hm T) (11, 22, 0) 5) = m1 then ((fX10_isLocked ((rwm hm T) (11, 22, 0) 1) (rwm hm T)).bind fun v7 => if v7 = 0 then (if (0 : Int32) = 0 then ((fX10_counts 4 (rwm hm T)).bind fun hp3 => (fX10_advances hp3).bind fun hp6 => some (0, hp6)) else (some (0, rwm hm T))) else (if (2 : Int32) = 0 then ((fX10_counts 4 (rwm hm T)).bind fun hp3 => (fX10_advances hp3).bind fun hp6 => some (2, hp6)) else (some (2, rwm hm T)))) else (if (1 : Int32) = 0 then ((fX10_counts 4 (rwm hm T)).bind fun hp3 => (fX10_advances hp3).bind fun hp6 => some (1, hp6)) else (some (1, rwm hm T)))) = _
  rw [rwm_e, h1', m_lock hW hco.2, Option.bind_some, if_neg (show ¬ (1 : Int32) = 0 by decide), if_neg (show ¬ (2 : Int32) = 0 by decide), if_pos (show (0 : Int32) = 0 from rfl), cnt_4, Option.bind_some, m_advances, Option.bind_some, ← h1']
  have hv : ovR T 0 = if T 5 = m1 then (if lkT T (T 1) = 0 then 0 else 2) else 1 := rfl
  rw [hv]
  by_cases h : T 5 = m1
  · rw [if_pos h, if_pos h]
    by_cases h2 : lkT T (T 1) = 0
    · rw [if_pos h2, if_pos h2, if_pos rfl]; rfl
    · rw [if_neg h2, if_neg h2, if_neg (by decide)]
  · rw [if_neg h, if_neg h, if_neg (by decide)]
end
section
variable {hm : HP} {T L A : Tr0} {tb nb : Nat}
theorem m_frees (hW : WF tb T L A nb) : fX10_frees (rwm hm T) = some (rwm hm (frT T)) := by
  have hnb := hW.nb
  have hf := FU_ge
  obtain ⟨n, hn⟩ : ∃ n, FU = n + 3 := ⟨FU - 3, by omega⟩
  show fX10_frees_2 FU (nI 5) (rwm hm T) = _
  rw [hn]
  have step : ∀ (k q : Nat) (S : Tr0), k < 7 → (S k = m1 ∨ (isN (S k) ∧ tn (S k) < 26)) → fX10_frees_2 (q + 1) (nI k) (rwm hm S) = fX10_frees_2 q (nI (k + 1)) (rwm hm (if S k = m1 then S else uT (uT S (38 + 2 * tn (S k)) m1) k m1)) := by
    intro k q S hk hS
    show (if nI k < nI 7 then (if inb (nI k) 1150 = true then (if ((rwm hm S) (11, 22, 0) (nI k).toNatClampNeg) = m1 then (fX10_frees_2 q (nI k + 1) (rwm hm S)) else (if inb (nI k) 1150 = true then (if inb ((nI 38 + (2 * ((rwm hm S) (11, 22, 0) (nI k).toNatClampNeg))) + 0) 1150 = true then (if inb (nI k) 1150 = true then (fX10_frees_2 q (nI k + 1) (up (up (rwm hm S) (11, 22, 0) (((nI 38 + (2 * ((rwm hm S) (11, 22, 0) (nI k).toNatClampNeg))) + 0).toNatClampNeg) m1) (11, 22, 0) ((nI k).toNatClampNeg) m1)) else none) else none) else none)) else none) else _) = _
    rw [if_pos (show nI k < nI 7 by rw [n_lt (by omega) (by omega)]; exact hk), if_pos (inb_n (by omega) (by omega)), n_c (by omega), rwm_e, ← nI_succ]
    by_cases h : S k = m1
    · rw [if_pos h, if_pos h]
    · obtain ⟨h1, h2⟩ := hS.resolve_left h
      have h1' : S k = nI (tn (S k)) := h1
      rw [if_neg h, if_neg h]
      generalize hl : tn (S k) = l at h1' h2 ⊢
      rw [h1', idx_a (by omega) (by omega), if_pos (inb_n (show k < 1150 by omega) (by omega)), if_pos (inb_n (show 38 + 2 * l < 1150 by omega) (by omega)), if_pos (inb_n (show k < 1150 by omega) (by omega)), n_c (by omega), rwm_up, rwm_up]
  rcases hW.ja with ⟨h5, h6⟩ | ⟨h5, h6, h5', h6'⟩
  · rw [step 5 (n + 2) T (by omega) (Or.inl h5), if_pos h5, step 6 (n + 1) T (by omega) (Or.inl h6), if_pos h6]
    show (if nI 7 < nI 7 then _ else (some (up (rwm hm T) (11, 22, 0) 3 (((rwm hm T) (11, 22, 0) 3) + 100)))) = _
    rw [if_neg (show ¬ nI 7 < nI 7 from Int32.lt_irrefl), rwm_up, rwm_e]
    unfold frT
    rw [if_pos h5]
  · have n5 : ¬ T 5 = m1 := by rw [show T 5 = nI (tn (T 5)) from h5]; exact n_m1 (tn_lt _)
    have n6 : ¬ T 6 = m1 := by rw [show T 6 = nI (tn (T 6)) from h6]; exact n_m1 (tn_lt _)
    have e6 : (uT (uT T (38 + 2 * tn (T 5)) m1) 5 m1) 6 = T 6 := by rw [uT_n (by decide), uT_n (by omega)]
    rw [step 5 (n + 2) T (by omega) (Or.inr ⟨h5, by omega⟩), if_neg n5, step 6 (n + 1) _ (by omega) (Or.inr ⟨by rw [e6]; exact h6, by rw [e6]; omega⟩), e6, if_neg n6]
    show (if nI 7 < nI 7 then _ else (some (up (rwm hm _) (11, 22, 0) 3 (((rwm hm _) (11, 22, 0) 3) + 100)))) = _
    rw [if_neg (show ¬ nI 7 < nI 7 from Int32.lt_irrefl), rwm_up, rwm_e]
    unfold frT
    rw [if_neg n5, uT_n (show 3 ≠ 6 by decide), uT_n (show 3 ≠ 38 + 2 * tn (T 6) by omega), uT_n (show 3 ≠ 5 by decide), uT_n (show 3 ≠ 38 + 2 * tn (T 5) by omega)]
theorem m_goes (hW : WF tb T L A nb) {k : Nat} (hk : k < 6) : fX10_goes (nI k) (rwm hm T) = some (ovR T (nI k), rwm hm (if ovR T (nI k) = 0 then doT T (nI k) else T)) := by
  have hco := hW.co
  have h1' : T 1 = nI (tn (T 1)) := hco.1
  have lits : ∀ j, j < 6 → (nI k = nI j ↔ k = j) := fun j hj => n_eq (by omega) (by omega)
  show (if nI k = nI 0 then ((fX10_spaceKey (rwm hm T)).bind fun q12 => some (q12.1, q12.2)) else (if nI k = nI 4 then (some (0, (up (rwm hm T) (11, 22, 0) 2 1))) else (if nI k = nI 5 then ((fX10_frees (rwm hm T)).bind fun hp10 => some (0, hp10)) else (if ((rwm hm T) (11, 22, 0) 5) = m1 then (if nI k = nI 3 then ((fX10_returnKey (rwm hm T)).bind fun q7 => some (q7.1, q7.2)) else (if nI k = nI 1 then (fX10_goes_90 (nI k) 5 (rwm hm T)) else (fX10_goes_90 (nI k) 6 (rwm hm T)))) else (some (1, rwm hm T)))))) = _
  have r0 : ∀ x : Int32, x = 0 ∨ x = 6 → True := fun _ _ => trivial
  match k, hk with
  | 0, _ =>
    rw [if_pos rfl, m_spaceKey hW, Option.bind_some]
    show some (ovR T 0, if ovR T 0 = 0 then rwm hm (doT T 0) else rwm hm T) = some (ovR T 0, rwm hm (if ovR T 0 = 0 then doT T 0 else T))
    by_cases h : ovR T 0 = 0
    · rw [if_pos h, if_pos h]
    · rw [if_neg h, if_neg h]
  | 1, _ =>
    rw [if_neg (by decide), if_neg (by decide), if_neg (by decide), if_neg (show ¬ nI 1 = nI 3 by decide), if_pos (show nI 1 = nI 1 from rfl), rwm_e]
    have hv : ovR T (nI 1) = if T 5 = m1 then 0 else 1 := rfl
    rw [hv]
    by_cases h : T 5 = m1
    · rw [if_pos h, if_pos h, if_pos rfl]
      show (fX10_counts 5 (rwm hm T)).bind (fun hp3 => if nI 1 = nI 1 then ((fX10_stopFrom (hp3 (11, 22, 0) 1) hp3).bind fun v5 => fX10_goes_126 22 0 1 v5 hp3) else ((fX10_backFrom (hp3 (11, 22, 0) 1) hp3).bind fun v4 => fX10_goes_126 22 0 1 v4 hp3)) = _
      have hW' : WF tb (uT T 27 (T 27 + 1)) L A nb := by
        have e : ∀ j, j ≠ 27 → uT T 27 (T 27 + 1) j = T j := fun j h => uT_n h
        intro i
        match i with
        | 0 => exact hW 0
        | 1 => exact hW 1
        | 2 => exact hW 2
        | 3 => exact hW 3
        | 4 => exact hW 4
        | 5 => exact hW 5
        | 6 => exact hW 6
        | 7 => exact hW 7
        | 8 => exact hW 8
        | 9 => exact hW 9
        | 10 => exact hW 10
        | 11 => exact hW 11
        | 12 => exact hW 12
        | 13 => exact hW 13
        | 14 => exact hW 14
        | 15 => exact hW 15
        | 16 => exact hW 16
        | 17 => exact hW 17
        | 18 => intro b hb; rw [e _ (by omega)]; exact hW.st b hb
        | 19 => exact hW 19
        | 20 => exact hW 20
        | 21 => intro c hc; rw [e _ (by omega)]; exact hW.sp c hc
        | 22 => intro c hc; rw [e _ (by omega)]; exact hW.ii c hc
        | 23 => intro l c hl hc; rw [e _ (by omega)]; exact hW.sn l c hl hc
        | 24 => intro l c hl hc h; rw [e _ (by omega), e _ (by omega)]; exact hW.em l c hl hc h
        | 25 => intro l c hl hc; rw [e _ (by omega)]; exact hW.dk l c hl hc
        | n + 26 => exact trivial
      rw [cnt_5, Option.bind_some, if_pos rfl, rwm_e, uT_n (show 1 ≠ 27 by decide), h1', m_stopFrom hW' hco.2, Option.bind_some]
      show (some (0, up (rwm hm (uT T 27 (T 27 + 1))) (11, 22, 0) 1 (tabT (uT T 27 (T 27 + 1)) (tn (T 1))))) = _
      rw [rwm_up]
      have et : ∀ k j c, j + k ≤ 100 → tabF (uT T 27 (T 27 + 1)) k j c = tabF T k j c := by
        intro k
        induction k with
        | zero => intro j c _; rfl
        | succ k ih =>
          intro j c hj
          show (if (uT T 27 (T 27 + 1)) (90 + j) = 0 then tabF (uT T 27 (T 27 + 1)) k (j + 1) c else nI j) = (if T (90 + j) = 0 then tabF T k (j + 1) c else nI j)
          rw [uT_n (show 90 + j ≠ 27 by omega), ih (j + 1) c (by omega)]
      have : tabT (uT T 27 (T 27 + 1)) (tn (T 1)) = tabT T (tn (T 1)) := et _ _ _ (by have := hW.w; have := hco.2; show tn (T 1) + 1 + (tn (T 9) - (tn (T 1) + 1)) ≤ 100; omega)
      rw [this]; rfl
    · rw [if_neg h, if_neg h, if_neg (by decide)]
  | 2, _ =>
    rw [if_neg (by decide), if_neg (by decide), if_neg (by decide), if_neg (show ¬ nI 2 = nI 3 by decide), if_neg (show ¬ nI 2 = nI 1 by decide), rwm_e]
    have hv : ovR T (nI 2) = if T 5 = m1 then 0 else 1 := rfl
    rw [hv]
    by_cases h : T 5 = m1
    · rw [if_pos h, if_pos h, if_pos rfl]
      show (fX10_counts 6 (rwm hm T)).bind (fun hp3 => if nI 2 = nI 1 then ((fX10_stopFrom (hp3 (11, 22, 0) 1) hp3).bind fun v5 => fX10_goes_126 22 0 1 v5 hp3) else ((fX10_backFrom (hp3 (11, 22, 0) 1) hp3).bind fun v4 => fX10_goes_126 22 0 1 v4 hp3)) = _
      rw [cnt_6, Option.bind_some, if_neg (by decide), rwm_e, m_backFrom, Option.bind_some]
      show (some (0, up (rwm hm (uT T 28 (T 28 + 1))) (11, 22, 0) 1 (bkT (uT T 28 (T 28 + 1)) ((uT T 28 (T 28 + 1)) 1)))) = _
      rw [rwm_up]; rfl
    · rw [if_neg h, if_neg h, if_neg (by decide)]
  | 3, _ =>
    rw [if_neg (by decide), if_neg (by decide), if_neg (by decide), if_pos (show nI 3 = nI 3 from rfl), rwm_e]
    have hv : ovR T (nI 3) = if T 5 = m1 then (if T 0 + T 21 < T 10 then 0 else 6) else 1 := rfl
    rw [hv]
    by_cases h : T 5 = m1
    · rw [if_pos h, if_pos h]
      show ((fX10_its 12 (rwm hm T)).bind fun v1 => (fX10_its 1 (rwm hm T)).bind fun v2 => if (((rwm hm T) (11, 22, 0) 0) + v1) < v2 then ((fX10_counts 7 (rwm hm T)).bind fun hp5 => (fX10_its 12 hp5).bind fun v6 => (fX10_its 2 (up hp5 (11, 22, 0) 0 ((hp5 (11, 22, 0) 0) + v6))).bind fun v7 => some ((0 : Int32), (up (up (up hp5 (11, 22, 0) 0 ((hp5 (11, 22, 0) 0) + v6)) (11, 22, 0) 1 v7) (11, 22, 0) 2 0))) else (some (6, rwm hm T))).bind (fun q7 => some (q7.1, q7.2)) = _
      rw [its_12, its_1, Option.bind_some, Option.bind_some, rwm_e]
      by_cases h2 : T 0 + T 21 < T 10
      · rw [if_pos h2, if_pos h2, if_pos rfl, cnt_7, Option.bind_some, its_12, Option.bind_some, rwm_up, its_2, Option.bind_some, rwm_up, rwm_up, Option.bind_some]; rfl
      · rw [if_neg h2, if_neg h2, if_neg (by decide)]; rfl
    · rw [if_neg h, if_neg h, if_neg (by decide)]
  | 4, _ =>
    rw [if_neg (by decide), if_pos rfl, rwm_up]; rfl
  | 5, _ =>
    rw [if_neg (by decide), if_neg (by decide), if_pos rfl, m_frees hW, Option.bind_some]; rfl
theorem m_otherKey (hW : WF tb T L A nb) (ht : tb < 900000000) {k : Nat} (hk : k < 6) : fX10_otherKey (nI k) (rwm hm T) = some (ovR (beT T) (nI k), rwm hm (okT T (nI k))) := by
  show (fX10_begins (rwm hm T)).bind (fun hp3 => (fX10_goes (nI k) hp3).bind fun q5 => (fX10_ends q5.1 q5.2).bind fun q7 => some (q7.1, q7.2)) = _
  rw [m_begins, Option.bind_some, m_goes (WF_beT hW (by omega)) hk, Option.bind_some, m_ends, Option.bind_some]; rfl
end
