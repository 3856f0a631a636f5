/-! ===== what a machine is: a row of numbers ===== -/
section
abbrev Tr0 : Type := Nat → Int32
abbrev tn (x : Int32) : Nat := x.toNatClampNeg
def isN (x : Int32) : Prop := x = nI (tn x)
def sg (x : Int32) : Int32 := if x = 0 then 32 else x
def motp (hc : HP) (m : Nat) (T L A : Tr0) (nb : Nat) : Nat → Prop
  | 0 => ∀ k, k < 13 → hc (11, 0, m) k = T (9 + k)
  | 1 => ∀ k, k < 40 → hc (11, 4, m) k = T (90 + k)
  | 2 => hc (1, 0, m) 2 = T 0
  | 3 => hc (1, 0, m) 3 = T 1
  | 4 => hc (1, 0, m) 4 = T 2
  | 5 => hc (3, 0, m) 6 = T 3
  | 6 => hc (0, 0, m) 5 = nI nb
  | 7 => hc (0, 0, m) 6 = T 4
  | 8 => hc (0, 0, m) 7 = T 5
  | 9 => hc (0, 0, m) 8 = T 6
  | 10 => ∀ b, b < nb → hc (11, 5, m) b = L b
  | 11 => ∀ b, b < nb → hc (11, 6, m) b = A b
  | 12 => ∀ b, b < nb → hc (11, 7, m) b = T (38 + 2 * b)
  | 13 => ∀ b, b < nb → hc (11, 8, m) b = T (39 + 2 * b)
  | 14 => isB (hc (6, 0, m) 3) = true
  | _ => True
/-- the moving parts of machine m are those of a row -/
def Mot (hc : HP) (m : Nat) (T L A : Tr0) (nb : Nat) : Prop := ∀ i, motp hc m T L A nb i
def fulp (hc : HP) (m : Nat) (T : Tr0) : Nat → Prop
  | 0 => ∀ k, k < tn (T 18) → hc (11, 1, m) k = T (130 + k)
  | 1 => hc (6, 0, m) 2 = T 7
  | 2 => hc (6, 0, m) 3 = T 8
  | 3 => hc (6, 0, m) 4 = T 33
  | 4 => ∀ k, 3 ≤ k → k < 14 → k ≠ 11 → hc (11, 9, m) k = T (22 + k)
  | 5 => ∀ l c, l < 12 → c < tn (T 9) → hc (11, 2, m) (l * tn (T 9) + c) = sg (T (190 + 40 * l + c))
  | 6 => ∀ l c, l < 12 → c < tn (T 9) → hc (11, 3, m) (l * tn (T 9) + c) = T (670 + 40 * l + c)
  | _ => True
/-- and so are ribbon, page and counts -/
def Ful (hc : HP) (m : Nat) (T : Tr0) : Prop := ∀ i, fulp hc m T i
def Rea (hc : HP) (m : Nat) (T : Tr0) : Prop := hc (3, 0, m) 7 = T 36 ∧ hc (3, 0, m) 8 = T 37
def wfp (tb : Nat) (T L A : Tr0) (nb : Nat) : Nat → Prop
  | 0 => isN (T 9) ∧ 10 ≤ tn (T 9) ∧ tn (T 9) ≤ 40
  | 1 => isN (T 10) ∧ 1 ≤ tn (T 10) ∧ tn (T 10) ≤ 12
  | 2 => isN (T 11) ∧ isN (T 12) ∧ isN (T 13) ∧ tn (T 11) + 1 ≤ tn (T 12) ∧ tn (T 12) + 1 ≤ tn (T 9) ∧ tn (T 13) + tn (T 11) ≤ tn (T 12)
  | 3 => isN (T 14) ∧ 1 ≤ tn (T 14) ∧ tn (T 14) ≤ 999
  | 4 => isN (T 15) ∧ 1 ≤ tn (T 15) ∧ tn (T 15) ≤ 99
  | 5 => isN (T 16) ∧ isN (T 17) ∧ tn (T 16) ≤ 99 ∧ tn (T 17) ≤ 99
  | 6 => isN (T 18) ∧ 5 ≤ tn (T 18) ∧ tn (T 18) ≤ 60
  | 7 => isN (T 19) ∧ 1 ≤ tn (T 19) ∧ tn (T 19) ≤ 9
  | 8 => isN (T 20) ∧ isN (T 21) ∧ tn (T 20) ≤ 3 ∧ 1 ≤ tn (T 21) ∧ tn (T 21) ≤ 3
  | 9 => isN (T 0) ∧ tn (T 0) < tn (T 10)
  | 10 => isN (T 1) ∧ tn (T 1) ≤ tn (T 9)
  | 11 => T 2 = 0 ∨ T 2 = 1
  | 12 => isN (T 3) ∧ tn (T 3) ≤ tb
  | 13 => T 4 = m1 ∨ (isN (T 4) ∧ tn (T 4) < nb)
  | 14 => (T 5 = m1 ∧ T 6 = m1) ∨ (isN (T 5) ∧ isN (T 6) ∧ tn (T 5) < nb ∧ tn (T 6) < nb)
  | 15 => isN (T 7) ∧ tn (T 7) < tn (T 18)
  | 16 => T 8 = 0 ∨ T 8 = 1
  | 17 => nb ≤ 26
  | 18 => ∀ b, b < nb → T (38 + 2 * b) = m1 ∨ (isN (T (38 + 2 * b)) ∧ tn (T (38 + 2 * b)) ≤ tn (T 3))
  | 19 => ∀ b, b < nb → isN (L b) ∧ 97 ≤ tn (L b) ∧ tn (L b) ≤ 122
  | 20 => ∀ b, b < nb → isN (A b) ∧ tn (A b) ≤ 180
  | 21 => ∀ c, c < 40 → T (90 + c) = 0 ∨ T (90 + c) = 1
  | 22 => ∀ k, k < 60 → isN (T (130 + k)) ∧ tn (T (130 + k)) ≤ 9
  | 23 => ∀ l c, l < 12 → c < 40 → T (190 + 40 * l + c) ≠ 32
  | 24 => ∀ l c, l < 12 → c < 40 → (tn (T 10) ≤ l ∨ tn (T 9) ≤ c) → T (190 + 40 * l + c) = 0 ∧ T (670 + 40 * l + c) = 0
  | 25 => ∀ l c, l < 12 → c < 40 → isN (T (670 + 40 * l + c)) ∧ tn (T (670 + 40 * l + c)) ≤ 9
  | _ => True
/-- a row that a run of calls can come to, at most at time tb -/
def WF (tb : Nat) (T L A : Tr0) (nb : Nat) : Prop := ∀ i, wfp tb T L A nb i
theorem WF.w {tb nb : Nat} {T L A : Tr0} (h : WF tb T L A nb) : isN (T 9) ∧ 10 ≤ tn (T 9) ∧ tn (T 9) ≤ 40 := h 0
theorem WF.ln {tb nb : Nat} {T L A : Tr0} (h : WF tb T L A nb) : isN (T 10) ∧ 1 ≤ tn (T 10) ∧ tn (T 10) ≤ 12 := h 1
theorem WF.mg {tb nb : Nat} {T L A : Tr0} (h : WF tb T L A nb) : isN (T 11) ∧ isN (T 12) ∧ isN (T 13) ∧ tn (T 11) + 1 ≤ tn (T 12) ∧ tn (T 12) + 1 ≤ tn (T 9) ∧ tn (T 13) + tn (T 11) ≤ tn (T 12) := h 2
theorem WF.pc {tb nb : Nat} {T L A : Tr0} (h : WF tb T L A nb) : isN (T 14) ∧ 1 ≤ tn (T 14) ∧ tn (T 14) ≤ 999 := h 3
theorem WF.rs {tb nb : Nat} {T L A : Tr0} (h : WF tb T L A nb) : isN (T 15) ∧ 1 ≤ tn (T 15) ∧ tn (T 15) ≤ 99 := h 4
theorem WF.cn {tb nb : Nat} {T L A : Tr0} (h : WF tb T L A nb) : isN (T 16) ∧ isN (T 17) ∧ tn (T 16) ≤ 99 ∧ tn (T 17) ≤ 99 := h 5
theorem WF.lg {tb nb : Nat} {T L A : Tr0} (h : WF tb T L A nb) : isN (T 18) ∧ 5 ≤ tn (T 18) ∧ tn (T 18) ≤ 60 := h 6
theorem WF.ik {tb nb : Nat} {T L A : Tr0} (h : WF tb T L A nb) : isN (T 19) ∧ 1 ≤ tn (T 19) ∧ tn (T 19) ≤ 9 := h 7
theorem WF.ws {tb nb : Nat} {T L A : Tr0} (h : WF tb T L A nb) : isN (T 20) ∧ isN (T 21) ∧ tn (T 20) ≤ 3 ∧ 1 ≤ tn (T 21) ∧ tn (T 21) ≤ 3 := h 8
theorem WF.li {tb nb : Nat} {T L A : Tr0} (h : WF tb T L A nb) : isN (T 0) ∧ tn (T 0) < tn (T 10) := h 9
theorem WF.co {tb nb : Nat} {T L A : Tr0} (h : WF tb T L A nb) : isN (T 1) ∧ tn (T 1) ≤ tn (T 9) := h 10
theorem WF.re {tb nb : Nat} {T L A : Tr0} (h : WF tb T L A nb) : T 2 = 0 ∨ T 2 = 1 := h 11
theorem WF.ti {tb nb : Nat} {T L A : Tr0} (h : WF tb T L A nb) : isN (T 3) ∧ tn (T 3) ≤ tb := h 12
theorem WF.la {tb nb : Nat} {T L A : Tr0} (h : WF tb T L A nb) : T 4 = m1 ∨ (isN (T 4) ∧ tn (T 4) < nb) := h 13
theorem WF.ja {tb nb : Nat} {T L A : Tr0} (h : WF tb T L A nb) : (T 5 = m1 ∧ T 6 = m1) ∨ (isN (T 5) ∧ isN (T 6) ∧ tn (T 5) < nb ∧ tn (T 6) < nb) := h 14
theorem WF.he {tb nb : Nat} {T L A : Tr0} (h : WF tb T L A nb) : isN (T 7) ∧ tn (T 7) < tn (T 18) := h 15
theorem WF.fo {tb nb : Nat} {T L A : Tr0} (h : WF tb T L A nb) : T 8 = 0 ∨ T 8 = 1 := h 16
theorem WF.nb {tb nb : Nat} {T L A : Tr0} (h : WF tb T L A nb) : nb ≤ 26 := h 17
theorem WF.st {tb nb : Nat} {T L A : Tr0} (h : WF tb T L A nb) : ∀ b, b < nb → T (38 + 2 * b) = m1 ∨ (isN (T (38 + 2 * b)) ∧ tn (T (38 + 2 * b)) ≤ tn (T 3)) := h 18
theorem WF.le {tb nb : Nat} {T L A : Tr0} (h : WF tb T L A nb) : ∀ b, b < nb → isN (L b) ∧ 97 ≤ tn (L b) ∧ tn (L b) ≤ 122 := h 19
theorem WF.an {tb nb : Nat} {T L A : Tr0} (h : WF tb T L A nb) : ∀ b, b < nb → isN (A b) ∧ tn (A b) ≤ 180 := h 20
theorem WF.sp {tb nb : Nat} {T L A : Tr0} (h : WF tb T L A nb) : ∀ c, c < 40 → T (90 + c) = 0 ∨ T (90 + c) = 1 := h 21
theorem WF.ii {tb nb : Nat} {T L A : Tr0} (h : WF tb T L A nb) : ∀ k, k < 60 → isN (T (130 + k)) ∧ tn (T (130 + k)) ≤ 9 := h 22
theorem WF.sn {tb nb : Nat} {T L A : Tr0} (h : WF tb T L A nb) : ∀ l c, l < 12 → c < 40 → T (190 + 40 * l + c) ≠ 32 := h 23
theorem WF.em {tb nb : Nat} {T L A : Tr0} (h : WF tb T L A nb) : ∀ l c, l < 12 → c < 40 → (tn (T 10) ≤ l ∨ tn (T 9) ≤ c) → T (190 + 40 * l + c) = 0 ∧ T (670 + 40 * l + c) = 0 := h 24
theorem WF.dk {tb nb : Nat} {T L A : Tr0} (h : WF tb T L A nb) : ∀ l c, l < 12 → c < 40 → isN (T (670 + 40 * l + c)) ∧ tn (T (670 + 40 * l + c)) ≤ 9 := h 25
end
section
theorem tn_lt (x : Int32) : tn x < 2147483648 := Int32.toNatClampNeg_lt x
theorem n_t {k : Nat} (h : k < 2147483648) : tn (nI k) = k := n_c h
theorem isN_n {k : Nat} (h : k < 2147483648) : isN (nI k) := by unfold isN tn; rw [n_c h]
theorem isN_i {x : Int32} (h : isN x) : x.toInt = tn x := by
  have := tn_lt x
  have h2 : x.toInt = (nI (tn x)).toInt := congrArg Int32.toInt h
  rw [h2, n_i this]
/-- the reference's row, replaced -/
def rwm (hm : HP) (T : Tr0) : HP := fun r => if r = (11, 22, 0) then T else hm r
theorem rwm_e {hm : HP} {T : Tr0} : rwm hm T (11, 22, 0) = T := if_pos rfl
theorem rwm_n {hm : HP} {T : Tr0} {r : RF} (h : ¬ r = (11, 22, 0)) : rwm hm T r = hm r := if_neg h
theorem rwm_id (hm : HP) : rwm hm (hm (11, 22, 0)) = hm := by
  funext r; unfold rwm; split
  · rename_i h; rw [h]
  · rfl
theorem rwm_up {hm : HP} {T : Tr0} {k : Nat} {x : Int32} : up (rwm hm T) (11, 22, 0) k x = rwm hm (uT T k x) := by
  funext r j
  by_cases h : r = (11, 22, 0)
  · subst h; rw [up_e, rwm_e, rwm_e]
  · rw [up_n h, rwm_n h, rwm_n h]
theorem rwm_up2 {hm : HP} {T : Tr0} {r' : RF} {k : Nat} {x : Int32} (h' : ¬ r' = (11, 22, 0)) : up (rwm hm T) r' k x = rwm (up hm r' k x) T := by
  funext r j
  by_cases h : r = (11, 22, 0)
  · subst h; rw [up_n (fun q => h' q.symm), rwm_e, rwm_e]
  · rw [rwm_n h]
    unfold up
    rw [rwm_n h]
theorem rwm_rw {hm : HP} {T T' : Tr0} : rwm (rwm hm T) T' = rwm hm T' := by
  funext r; unfold rwm; split <;> rfl
end
