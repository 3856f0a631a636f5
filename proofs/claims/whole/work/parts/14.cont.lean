/-! ===== which instructions go on, call, end ===== -/
section CNT
variable {d pc len a b : Nat} {z : Int32} {ls : List (Option VL)} {st : List VL} {hp : HP}
def contI (i : Instr) : Bool := match i with
  | .invokevirtual _ => false | .invokestatic _ => false | .ireturn => false | .areturn => false | .dreturn => false | .freturn => false | .return_ => false | .new _ => false | _ => true
theorem brI_cont {cd : Jvm.ClassFile.Cond} {x y : Int32} {p q : Nat} {act : ACT} (h : brI cd x y (aC p ls st hp) (aC q ls st hp) = some act) : ∃ w, act = .inl w := by
  cases cd <;> simp only [brI] at h <;> split at h <;> (cases h; exact ⟨_, rfl⟩)
theorem swI_cont {x : Int32} {dflt : Int} {act : ACT} : ∀ (l : List (Int × Int)), swI x (fun o => aC (tg pc o) ls st hp) (aC (tg pc dflt) ls st hp) l = some act → ∃ w, act = .inl w
  | [], h => by
    cases (show aC (tg pc dflt) ls st hp = some act from h)
    exact ⟨_, rfl⟩
  | (k, o) :: l, h => by
    have h : (if x = Int32.ofInt k then aC (tg pc o) ls st hp else swI x (fun o => aC (tg pc o) ls st hp) (aC (tg pc dflt) ls st hp) l) = some act := h
    by_cases hx : x = Int32.ofInt k
    · rw [if_pos hx] at h
      cases h
      exact ⟨_, rfl⟩
    · rw [if_neg hx] at h
      exact swI_cont l h
set_option maxHeartbeats 2000000 in
theorem exec1_cont {i : Instr} {act : ACT} (hc : contI i = true) (he : exec1 i len a b z d pc ls st hp = some act) : ∃ w, act = .inl w := by
  cases i
  case if_icmp cd off =>
    rcases st with _ | ⟨y | _, _ | ⟨x | _, st⟩⟩
    all_goals try cases (show (none : Option ACT) = some act from he)
    exact brI_cont he
  case ifCond cd off =>
    rcases st with _ | ⟨x | _, st⟩
    all_goals try cases (show (none : Option ACT) = some act from he)
    exact brI_cont he
  case tableswitch =>
    rcases st with _ | ⟨x | _, st⟩
    all_goals try cases (show (none : Option ACT) = some act from he)
    exact swI_cont _ he
  case lookupswitch =>
    rcases st with _ | ⟨x | _, st⟩
    all_goals try cases (show (none : Option ACT) = some act from he)
    exact swI_cont _ he
  all_goals first
    | cases (show (false : Bool) = true from hc)
    | cases (show (none : Option ACT) = some act from he)
    | (simp only [exec1, aC] at he
       repeat' split at he
       all_goals first | (cases he; exact ⟨_, rfl⟩) | cases he)
theorem vcall_inv {idx μ : Nat} {args rest : List VL} (he : exec1 (.invokevirtual idx) len a b z d pc ls st hp = aCall μ args rest) : ¬ (a = 1004 ∨ a = 1005) ∧ μ = a ∧ ∃ r : RF, st = st.take (b % 16 - 1) ++ vR r :: rest ∧ args = vR r :: (st.take (b % 16 - 1)).reverse ∧ r.1 = b / 16 ∧ 1 ≤ b % 16 ∧ catL rest ≤ 8 ∧ (st.take (b % 16 - 1)).length = b % 16 - 1 := by
  replace he : (if a = 1004 then (match (generalizing := false) d, st with | _ + 5, .inr (.inl r) :: st => if r.1 = 20 ∧ catL st ≤ 8 then aC (pc + len) ls (vI (nI (txt r.2.1).length) :: st) hp else none | _, _ => none)
    else if a = 1005 then (match (generalizing := false) d, st with | _ + 5, .inl j :: .inr (.inl r) :: st => if r.1 = 20 ∧ catL st ≤ 8 then (if inb j (txt r.2.1).length = true then aC (pc + len) ls (vI ((txt r.2.1).getD j.toNatClampNeg 0) :: st) hp else none) else none | _, _ => none)
    else (match (generalizing := false) st.drop (b % 16 - 1) with | .inr (.inl r) :: rest => if r.1 = b / 16 ∧ 1 ≤ b % 16 ∧ catL rest ≤ 8 then aCall a (vR r :: (st.take (b % 16 - 1)).reverse) rest else none | _ => none)) = aCall μ args rest := he
  by_cases h0 : a = 1004
  · rw [if_pos h0] at he
    exfalso
    split at he
    · split at he <;> cases he
    · cases he
  · rw [if_neg h0] at he
    by_cases h1 : a = 1005
    · rw [if_pos h1] at he
      exfalso
      split at he
      · split at he
        · split at he <;> cases he
        · cases he
      · cases he
    · rw [if_neg h1] at he
      split at he
      · rename_i r rest0 hq
        by_cases h6 : r.1 = b / 16 ∧ 1 ≤ b % 16 ∧ catL rest0 ≤ 8
        · rw [if_pos h6] at he
          cases he
          have hl : (st.drop (b % 16 - 1)).length = rest.length + 1 := by rw [hq]; rfl
          rw [List.length_drop] at hl
          exact ⟨by omega, rfl, r, by rw [← hq, List.take_append_drop], rfl, h6.1, h6.2.1, h6.2.2, by rw [List.length_take]; omega⟩
        · rw [if_neg h6] at he
          cases he
      · cases he
theorem scall_inv {idx μ : Nat} {args rest : List VL} (he : exec1 (.invokestatic idx) len a b z d pc ls st hp = aCall μ args rest) : a < 1000 ∨ 1003 < a ∧ True := by
  rcases Nat.lt_or_ge a 1000 with h | h
  · exact Or.inl h
  · rcases Nat.lt_or_ge 1003 a with h2 | h2
    · exact Or.inr ⟨h2, trivial⟩
    · exfalso
      replace he : (if a = 1000 then (match (generalizing := false) d, st with | _ + 1, .inl y :: .inl x :: st => if catL st ≤ 8 then aC (pc + len) ls (vI (imax x y) :: st) hp else none | _, _ => none)
        else if a = 1001 then (match (generalizing := false) d, st with | _ + 1, .inl y :: .inl x :: st => if catL st ≤ 8 then aC (pc + len) ls (vI (imin x y) :: st) hp else none | _, _ => none)
        else if a = 1002 then (match (generalizing := false) d, st with | _ + 1, .inl x :: st => if catL st ≤ 8 then aC (pc + len) ls (vI (iabs x) :: st) hp else none | _, _ => none)
        else if a = 1003 then (match (generalizing := false) d, st with
          | _ + 2, .inl n :: .inl dp :: .inr (.inl r1) :: .inl sp :: .inr (.inl r0) :: st =>
            if r0.1 = 11 ∧ r1.1 = 11 ∧ ¬ r0 = r1 ∧ catL st ≤ 8 then (if sp = 0 ∧ dp = 0 ∧ ¬ n < 0 ∧ n.toNatClampNeg ≤ alen r0 ∧ n.toNatClampNeg ≤ alen r1 then aC (pc + len) ls st (cpA hp r0 r1 0 0 n.toNatClampNeg) else none) else none
          | _, _ => none)
        else if b ≤ st.length ∧ catL (st.drop b) ≤ 8 then aCall a (st.take b).reverse (st.drop b) else none) = aCall μ args rest := he
      rcases (show a = 1000 ∨ a = 1001 ∨ a = 1002 ∨ a = 1003 by omega) with h3 | h3 | h3 | h3
      · rw [if_pos h3] at he
        split at he
        · split at he <;> cases he
        · cases he
      · rw [if_neg (by omega), if_pos h3] at he
        split at he
        · split at he <;> cases he
        · cases he
      · rw [if_neg (by omega), if_neg (by omega), if_pos h3] at he
        split at he
        · split at he <;> cases he
        · cases he
      · rw [if_neg (by omega), if_neg (by omega), if_neg (by omega), if_pos h3] at he
        split at he
        · split at he
          · split at he <;> cases he
          · cases he
        · cases he
theorem scall_inv2 {idx μ : Nat} {args rest : List VL} (he : exec1 (.invokestatic idx) len a b z d pc ls st hp = aCall μ args rest) (h : a < 1000) : μ = a ∧ args = (st.take b).reverse ∧ rest = st.drop b ∧ b ≤ st.length ∧ catL (st.drop b) ≤ 8 := by
  have he2 : exec1 (.invokestatic idx) len a b z d pc ls st hp = if b ≤ st.length ∧ catL (st.drop b) ≤ 8 then aCall a (st.take b).reverse (st.drop b) else none := by
    simp only [exec1]
    rw [if_neg (by omega), if_neg (by omega), if_neg (by omega), if_neg (by omega)]
  rw [he2] at he
  by_cases h6 : b ≤ st.length ∧ catL (st.drop b) ≤ 8
  · rw [if_pos h6] at he
    cases he
    exact ⟨rfl, rfl, rfl, h6.1, h6.2⟩
  · rw [if_neg h6] at he
    cases he
end CNT
