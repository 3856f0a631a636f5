noncomputable section
def fX7_copyFrom (w : Nat) (m : Nat) (wr0 : Nat) (mr0 : Nat) (hp : HP) : Option HP := if (¬ ((11, wr0, mr0) : RF) = (11, w, m)) ∧ ¬ (imin (nI (alen (11, w, m))) (nI (alen (11, wr0, mr0)))) < 0 ∧ (imin (nI (alen (11, w, m))) (nI (alen (11, wr0, mr0)))).toNatClampNeg ≤ alen (11, wr0, mr0) ∧ (imin (nI (alen (11, w, m))) (nI (alen (11, wr0, mr0)))).toNatClampNeg ≤ alen (11, w, m) then (some (cpA hp (11, wr0, mr0) (11, w, m) 0 0 (imin (nI (alen (11, w, m))) (nI (alen (11, wr0, mr0)))).toNatClampNeg)) else none
theorem exX7_copyFrom {d : Nat} {w : Nat} {m : Nat} {wr0 : Nat} {mr0 : Nat} {hp : HP} {v : HP} (h : fX7_copyFrom w m wr0 mr0 hp = some v) : Calls (d + 2) 84 [vR (7, w, m), vR (7, wr0, mr0)] hp (rsV () v) := by
  replace h : (if (¬ ((11, wr0, mr0) : RF) = (11, w, m)) ∧ ¬ (imin (nI (alen (11, w, m))) (nI (alen (11, wr0, mr0)))) < 0 ∧ (imin (nI (alen (11, w, m))) (nI (alen (11, wr0, mr0)))).toNatClampNeg ≤ alen (11, wr0, mr0) ∧ (imin (nI (alen (11, w, m))) (nI (alen (11, wr0, mr0)))).toNatClampNeg ≤ alen (11, w, m) then (some (cpA hp (11, wr0, mr0) (11, w, m) 0 0 (imin (nI (alen (11, w, m))) (nI (alen (11, wr0, mr0)))).toNatClampNeg)) else none) = some v := h
  show Ex (d + 2) kX7_copyFrom 0 [some (vR (7, w, m)), some (vR (7, wr0, mr0))] [] hp _
  refine Ex.go 13 (pc' := 23) (ls' := [some (vR (7, w, m)), some (vR (7, wr0, mr0))]) (st' := [vI (imin (nI (alen (11, w, m))) (nI (alen (11, wr0, mr0)))), vI 0, vR (11, w, m), vI 0, vR (11, wr0, mr0)]) (hp' := hp) (fun _ => rfl) ?_
  by_cases hc : (¬ ((11, wr0, mr0) : RF) = (11, w, m)) ∧ ¬ (imin (nI (alen (11, w, m))) (nI (alen (11, wr0, mr0)))) < 0 ∧ (imin (nI (alen (11, w, m))) (nI (alen (11, wr0, mr0)))).toNatClampNeg ≤ alen (11, wr0, mr0) ∧ (imin (nI (alen (11, w, m))) (nI (alen (11, wr0, mr0)))).toNatClampNeg ≤ alen (11, w, m)
  · rw [if_pos hc] at h
    refine Ex.acp rfl rfl rfl hc ?_
    show Ex (d + 2) kX7_copyFrom 26 [some (vR (7, w, m)), some (vR (7, wr0, mr0))] [] (cpA hp (11, wr0, mr0) (11, w, m) 0 0 (imin (nI (alen (11, w, m))) (nI (alen (11, wr0, mr0)))).toNatClampNeg) _
    cases h
    exact Ex.ret rfl rfl rfl
  · rw [if_neg hc] at h
    cases h
def fX0_copyFrom_68 (m : Nat) (mr1 : Nat) (hp : HP) : Option HP := some (up hp (0, 0, m) 8 (hp (0, 0, mr1) 8))
theorem exX0_copyFrom_68 {d : Nat} {m : Nat} {mr1 : Nat} {hp : HP} {v : HP} (h : fX0_copyFrom_68 m mr1 hp = some v) : Ex (d + 3) kX0_copyFrom 68 [some (vR (0, 0, m)), some (vR (0, 0, mr1))] [] hp (rsV () v) := by
  replace h : (some (up hp (0, 0, m) 8 (hp (0, 0, mr1) 8))) = some v := h
  refine Ex.go 4 (pc' := 76) (ls' := [some (vR (0, 0, m)), some (vR (0, 0, mr1))]) (st' := []) (hp' := (up hp (0, 0, m) 8 (hp (0, 0, mr1) 8))) (fun _ => rfl) ?_
  cases h
  exact Ex.ret rfl rfl rfl
def fX0_copyFrom_60 (m : Nat) (mr1 : Nat) (hp : HP) : Option HP := fX0_copyFrom_68 m mr1 (up hp (0, 0, m) 7 (hp (0, 0, mr1) 7))
theorem exX0_copyFrom_60 {d : Nat} {m : Nat} {mr1 : Nat} {hp : HP} {v : HP} (h : fX0_copyFrom_60 m mr1 hp = some v) : Ex (d + 3) kX0_copyFrom 60 [some (vR (0, 0, m)), some (vR (0, 0, mr1))] [] hp (rsV () v) := by
  replace h : (fX0_copyFrom_68 m mr1 (up hp (0, 0, m) 7 (hp (0, 0, mr1) 7))) = some v := h
  refine Ex.go 4 (pc' := 68) (ls' := [some (vR (0, 0, m)), some (vR (0, 0, mr1))]) (st' := []) (hp' := (up hp (0, 0, m) 7 (hp (0, 0, mr1) 7))) (fun _ => rfl) ?_
  exact exX0_copyFrom_68 h
def fX0_copyFrom_52 (m : Nat) (mr1 : Nat) (hp : HP) : Option HP := fX0_copyFrom_60 m mr1 (up hp (0, 0, m) 6 (hp (0, 0, mr1) 6))
theorem exX0_copyFrom_52 {d : Nat} {m : Nat} {mr1 : Nat} {hp : HP} {v : HP} (h : fX0_copyFrom_52 m mr1 hp = some v) : Ex (d + 3) kX0_copyFrom 52 [some (vR (0, 0, m)), some (vR (0, 0, mr1))] [] hp (rsV () v) := by
  replace h : (fX0_copyFrom_60 m mr1 (up hp (0, 0, m) 6 (hp (0, 0, mr1) 6))) = some v := h
  refine Ex.go 4 (pc' := 60) (ls' := [some (vR (0, 0, m)), some (vR (0, 0, mr1))]) (st' := []) (hp' := (up hp (0, 0, m) 6 (hp (0, 0, mr1) 6))) (fun _ => rfl) ?_
  exact exX0_copyFrom_60 h
def fX0_copyFrom (m : Nat) (mr0 : Nat) (hp : HP) : Option HP := (fX7_copyFrom 5 m 5 mr0 hp).bind fun hp3 => (fX7_copyFrom 6 m 6 mr0 hp3).bind fun hp6 => (fX7_copyFrom 7 m 7 mr0 hp6).bind fun hp9 => (fX7_copyFrom 8 m 8 mr0 hp9).bind fun hp12 => fX0_copyFrom_52 m mr0 (up hp12 (0, 0, m) 5 (hp12 (0, 0, mr0) 5))
theorem exX0_copyFrom {d : Nat} {m : Nat} {mr0 : Nat} {hp : HP} {v : HP} (h : fX0_copyFrom m mr0 hp = some v) : Calls (d + 3) 0 [vR (0, 0, m), vR (0, 0, mr0)] hp (rsV () v) := by
  replace h : ((fX7_copyFrom 5 m 5 mr0 hp).bind fun hp3 => (fX7_copyFrom 6 m 6 mr0 hp3).bind fun hp6 => (fX7_copyFrom 7 m 7 mr0 hp6).bind fun hp9 => (fX7_copyFrom 8 m 8 mr0 hp9).bind fun hp12 => fX0_copyFrom_52 m mr0 (up hp12 (0, 0, m) 5 (hp12 (0, 0, mr0) 5))) = some v := h
  show Ex (d + 3) kX0_copyFrom 0 [some (vR (0, 0, m)), some (vR (0, 0, mr0))] [] hp _
  refine Ex.go 4 (pc' := 8) (ls' := [some (vR (0, 0, m)), some (vR (0, 0, mr0))]) (st' := [vR (7, 5, mr0), vR (7, 5, m)]) (hp' := hp) (fun _ => rfl) ?_
  obtain ⟨hp3, hv, h⟩ := Option.bind_eq_some_iff.mp h
  refine Ex.call (args := [vR (7, 5, m), vR (7, 5, mr0)]) (rest := []) rfl rfl rfl (exX7_copyFrom (d := d + 0) hv) ?_
  show Ex (d + 3) kX0_copyFrom 11 [some (vR (0, 0, m)), some (vR (0, 0, mr0))] [] hp3 _
  refine Ex.go 4 (pc' := 19) (ls' := [some (vR (0, 0, m)), some (vR (0, 0, mr0))]) (st' := [vR (7, 6, mr0), vR (7, 6, m)]) (hp' := hp3) (fun _ => rfl) ?_
  obtain ⟨hp6, hv, h⟩ := Option.bind_eq_some_iff.mp h
  refine Ex.call (args := [vR (7, 6, m), vR (7, 6, mr0)]) (rest := []) rfl rfl rfl (exX7_copyFrom (d := d + 0) hv) ?_
  show Ex (d + 3) kX0_copyFrom 22 [some (vR (0, 0, m)), some (vR (0, 0, mr0))] [] hp6 _
  refine Ex.go 4 (pc' := 30) (ls' := [some (vR (0, 0, m)), some (vR (0, 0, mr0))]) (st' := [vR (7, 7, mr0), vR (7, 7, m)]) (hp' := hp6) (fun _ => rfl) ?_
  obtain ⟨hp9, hv, h⟩ := Option.bind_eq_some_iff.mp h
  refine Ex.call (args := [vR (7, 7, m), vR (7, 7, mr0)]) (rest := []) rfl rfl rfl (exX7_copyFrom (d := d + 0) hv) ?_
  show Ex (d + 3) kX0_copyFrom 33 [some (vR (0, 0, m)), some (vR (0, 0, mr0))] [] hp9 _
  refine Ex.go 4 (pc' := 41) (ls' := [some (vR (0, 0, m)), some (vR (0, 0, mr0))]) (st' := [vR (7, 8, mr0), vR (7, 8, m)]) (hp' := hp9) (fun _ => rfl) ?_
  obtain ⟨hp12, hv, h⟩ := Option.bind_eq_some_iff.mp h
  refine Ex.call (args := [vR (7, 8, m), vR (7, 8, mr0)]) (rest := []) rfl rfl rfl (exX7_copyFrom (d := d + 0) hv) ?_
  show Ex (d + 3) kX0_copyFrom 44 [some (vR (0, 0, m)), some (vR (0, 0, mr0))] [] hp12 _
  refine Ex.go 4 (pc' := 52) (ls' := [some (vR (0, 0, m)), some (vR (0, 0, mr0))]) (st' := []) (hp' := (up hp12 (0, 0, m) 5 (hp12 (0, 0, mr0) 5))) (fun _ => rfl) ?_
  exact exX0_copyFrom_52 h
def fX7_fill_2 (n : Nat) (w : Nat) (m : Nat) (x1 : Int32) (x2 : Int32) (hp : HP) : Option HP := match n with
  | 0 => none
  | n + 1 => if x2 < (nI (alen (11, w, m))) then (if inb x2 (alen (11, w, m)) = true then (fX7_fill_2 n w m x1 (x2 + 1) (up hp (11, w, m) (x2.toNatClampNeg) x1)) else none) else (some hp)
theorem exX7_fill_2 {d : Nat} {w : Nat} {m : Nat} : ∀ (n : Nat) (x1 : Int32) (x2 : Int32) (hp : HP) (v : HP), fX7_fill_2 n w m x1 x2 hp = some v → Ex (d + 0) kX7_fill 2 [some (vR (7, w, m)), some (vI x1), some (vI x2)] [] hp (rsV () v) := by
  intro n
  induction n with
  | zero =>
    intro x1 x2 hp v h
    cases h
  | succ n ih =>
    intro x1 x2 hp v h
    replace h : (if x2 < (nI (alen (11, w, m))) then (if inb x2 (alen (11, w, m)) = true then (fX7_fill_2 n w m x1 (x2 + 1) (up hp (11, w, m) (x2.toNatClampNeg) x1)) else none) else (some hp)) = some v := h
    refine Ex.go 4 (pc' := 8) (ls' := [some (vR (7, w, m)), some (vI x1), some (vI x2)]) (st' := [vI (nI (alen (11, w, m))), vI x2]) (hp' := hp) (fun _ => rfl) ?_
    refine Ex.icmp rfl ?_
    by_cases hc : x2 < (nI (alen (11, w, m)))
    · rw [if_pos hc] at h
      rw [brI_ge_p hc]
      show Ex (d + 0) kX7_fill 11 [some (vR (7, w, m)), some (vI x1), some (vI x2)] [] hp _
      refine Ex.go 4 (pc' := 17) (ls' := [some (vR (7, w, m)), some (vI x1), some (vI x2)]) (st' := [vI x1, vI x2, vR (11, w, m)]) (hp' := hp) (fun _ => rfl) ?_
      by_cases hc : inb x2 (alen (11, w, m)) = true
      · rw [if_pos hc] at h
        refine Ex.iast rfl rfl hc rfl ?_
        show Ex (d + 0) kX7_fill 18 [some (vR (7, w, m)), some (vI x1), some (vI x2)] [] (up hp (11, w, m) (x2.toNatClampNeg) x1) _
        refine Ex.go 2 (pc' := 2) (ls' := [some (vR (7, w, m)), some (vI x1), some (vI (x2 + 1))]) (st' := []) (hp' := (up hp (11, w, m) (x2.toNatClampNeg) x1)) (fun _ => rfl) ?_
        exact ih _ _ _ _ h
      · rw [if_neg hc] at h
        cases h
    · rw [if_neg hc] at h
      rw [brI_ge_n hc]
      show Ex (d + 0) kX7_fill 24 [some (vR (7, w, m)), some (vI x1), some (vI x2)] [] hp _
      cases h
      exact Ex.ret rfl rfl rfl
def fX7_fill (w : Nat) (m : Nat) (a0 : Int32) (hp : HP) : Option HP := fX7_fill_2 FU w m a0 0 hp
theorem exX7_fill {d : Nat} {w : Nat} {m : Nat} {a0 : Int32} {hp : HP} {v : HP} (h : fX7_fill w m a0 hp = some v) : Calls (d + 0) 83 [vR (7, w, m), vI a0] hp (rsV () v) := by
  replace h : (fX7_fill_2 FU w m a0 0 hp) = some v := h
  show Ex (d + 0) kX7_fill 0 [some (vR (7, w, m)), some (vI a0), none] [] hp _
  refine Ex.go 2 (pc' := 2) (ls' := [some (vR (7, w, m)), some (vI a0), some (vI 0)]) (st' := []) (hp' := hp) (fun _ => rfl) ?_
  exact exX7_fill_2 FU _ _ _ _ h
def fX0_clear (m : Nat) (hp : HP) : Option HP := (fX7_fill 7 m m1 hp).bind fun hp3 => (fX7_fill 8 m 0 hp3).bind fun hp6 => some (up (up (up (up hp6 (0, 0, m) 5 0) (0, 0, m) 6 m1) (0, 0, m) 7 m1) (0, 0, m) 8 m1)
theorem exX0_clear {d : Nat} {m : Nat} {hp : HP} {v : HP} (h : fX0_clear m hp = some v) : Calls (d + 1) 1 [vR (0, 0, m)] hp (rsV () v) := by
  replace h : ((fX7_fill 7 m m1 hp).bind fun hp3 => (fX7_fill 8 m 0 hp3).bind fun hp6 => some (up (up (up (up hp6 (0, 0, m) 5 0) (0, 0, m) 6 m1) (0, 0, m) 7 m1) (0, 0, m) 8 m1)) = some v := h
  show Ex (d + 1) kX0_clear 0 [some (vR (0, 0, m))] [] hp _
  refine Ex.go 3 (pc' := 5) (ls' := [some (vR (0, 0, m))]) (st' := [vI m1, vR (7, 7, m)]) (hp' := hp) (fun _ => rfl) ?_
  obtain ⟨hp3, hv, h⟩ := Option.bind_eq_some_iff.mp h
  refine Ex.call (args := [vR (7, 7, m), vI m1]) (rest := []) rfl rfl rfl (exX7_fill (d := d + 0) hv) ?_
  show Ex (d + 1) kX0_clear 8 [some (vR (0, 0, m))] [] hp3 _
  refine Ex.go 3 (pc' := 13) (ls' := [some (vR (0, 0, m))]) (st' := [vI 0, vR (7, 8, m)]) (hp' := hp3) (fun _ => rfl) ?_
  obtain ⟨hp6, hv, h⟩ := Option.bind_eq_some_iff.mp h
  refine Ex.call (args := [vR (7, 8, m), vI 0]) (rest := []) rfl rfl rfl (exX7_fill (d := d + 0) hv) ?_
  show Ex (d + 1) kX0_clear 16 [some (vR (0, 0, m))] [] hp6 _
  refine Ex.go 12 (pc' := 36) (ls' := [some (vR (0, 0, m))]) (st' := []) (hp' := (up (up (up (up hp6 (0, 0, m) 5 0) (0, 0, m) 6 m1) (0, 0, m) 7 m1) (0, 0, m) 8 m1)) (fun _ => rfl) ?_
  cases h
  exact Ex.ret rfl rfl rfl
def fX7_put (w : Nat) (m : Nat) (a0 : Int32) (a1 : Int32) (hp : HP) : Option HP := if a0 < 0 then (some hp) else (if a0 < (nI (alen (11, w, m))) then (if inb a0 (alen (11, w, m)) = true then (some (up hp (11, w, m) (a0.toNatClampNeg) a1)) else none) else (some hp))
theorem exX7_put {d : Nat} {w : Nat} {m : Nat} {a0 : Int32} {a1 : Int32} {hp : HP} {v : HP} (h : fX7_put w m a0 a1 hp = some v) : Calls (d + 0) 82 [vR (7, w, m), vI a0, vI a1] hp (rsV () v) := by
  replace h : (if a0 < 0 then (some hp) else (if a0 < (nI (alen (11, w, m))) then (if inb a0 (alen (11, w, m)) = true then (some (up hp (11, w, m) (a0.toNatClampNeg) a1)) else none) else (some hp))) = some v := h
  show Ex (d + 0) kX7_put 0 [some (vR (7, w, m)), some (vI a0), some (vI a1)] [] hp _
  refine Ex.go 1 (pc' := 1) (ls' := [some (vR (7, w, m)), some (vI a0), some (vI a1)]) (st' := [vI a0]) (hp' := hp) (fun _ => rfl) ?_
  refine Ex.ifc rfl ?_
  by_cases hc : a0 < 0
  · rw [if_pos hc] at h
    rw [brI_lt_p hc]
    show Ex (d + 0) kX7_put 20 [some (vR (7, w, m)), some (vI a0), some (vI a1)] [] hp _
    cases h
    exact Ex.ret rfl rfl rfl
  · rw [if_neg hc] at h
    rw [brI_lt_n hc]
    show Ex (d + 0) kX7_put 4 [some (vR (7, w, m)), some (vI a0), some (vI a1)] [] hp _
    refine Ex.go 4 (pc' := 10) (ls' := [some (vR (7, w, m)), some (vI a0), some (vI a1)]) (st' := [vI (nI (alen (11, w, m))), vI a0]) (hp' := hp) (fun _ => rfl) ?_
    refine Ex.icmp rfl ?_
    by_cases hc : a0 < (nI (alen (11, w, m)))
    · rw [if_pos hc] at h
      rw [brI_ge_p hc]
      show Ex (d + 0) kX7_put 13 [some (vR (7, w, m)), some (vI a0), some (vI a1)] [] hp _
      refine Ex.go 4 (pc' := 19) (ls' := [some (vR (7, w, m)), some (vI a0), some (vI a1)]) (st' := [vI a1, vI a0, vR (11, w, m)]) (hp' := hp) (fun _ => rfl) ?_
      by_cases hc : inb a0 (alen (11, w, m)) = true
      · rw [if_pos hc] at h
        refine Ex.iast rfl rfl hc rfl ?_
        show Ex (d + 0) kX7_put 20 [some (vR (7, w, m)), some (vI a0), some (vI a1)] [] (up hp (11, w, m) (a0.toNatClampNeg) a1) _
        cases h
        exact Ex.ret rfl rfl rfl
      · rw [if_neg hc] at h
        cases h
    · rw [if_neg hc] at h
      rw [brI_ge_n hc]
      show Ex (d + 0) kX7_put 20 [some (vR (7, w, m)), some (vI a0), some (vI a1)] [] hp _
      cases h
      exact Ex.ret rfl rfl rfl
def fX0_add (m : Nat) (a0 : Int32) (a1 : Int32) (hp : HP) : Option HP := (fX7_put 5 m (hp (0, 0, m) 5) a0 hp).bind fun hp3 => (fX7_put 6 m (hp3 (0, 0, m) 5) a1 hp3).bind fun hp6 => some (up hp6 (0, 0, m) 5 ((hp6 (0, 0, m) 5) + 1))
theorem exX0_add {d : Nat} {m : Nat} {a0 : Int32} {a1 : Int32} {hp : HP} {v : HP} (h : fX0_add m a0 a1 hp = some v) : Calls (d + 1) 2 [vR (0, 0, m), vI a0, vI a1] hp (rsV () v) := by
  replace h : ((fX7_put 5 m (hp (0, 0, m) 5) a0 hp).bind fun hp3 => (fX7_put 6 m (hp3 (0, 0, m) 5) a1 hp3).bind fun hp6 => some (up hp6 (0, 0, m) 5 ((hp6 (0, 0, m) 5) + 1))) = some v := h
  show Ex (d + 1) kX0_add 0 [some (vR (0, 0, m)), some (vI a0), some (vI a1)] [] hp _
  refine Ex.go 5 (pc' := 9) (ls' := [some (vR (0, 0, m)), some (vI a0), some (vI a1)]) (st' := [vI a0, vI (hp (0, 0, m) 5), vR (7, 5, m)]) (hp' := hp) (fun _ => rfl) ?_
  obtain ⟨hp3, hv, h⟩ := Option.bind_eq_some_iff.mp h
  refine Ex.call (args := [vR (7, 5, m), vI (hp (0, 0, m) 5), vI a0]) (rest := []) rfl rfl rfl (exX7_put (d := d + 0) hv) ?_
  show Ex (d + 1) kX0_add 12 [some (vR (0, 0, m)), some (vI a0), some (vI a1)] [] hp3 _
  refine Ex.go 5 (pc' := 21) (ls' := [some (vR (0, 0, m)), some (vI a0), some (vI a1)]) (st' := [vI a1, vI (hp3 (0, 0, m) 5), vR (7, 6, m)]) (hp' := hp3) (fun _ => rfl) ?_
  obtain ⟨hp6, hv, h⟩ := Option.bind_eq_some_iff.mp h
  refine Ex.call (args := [vR (7, 6, m), vI (hp3 (0, 0, m) 5), vI a1]) (rest := []) rfl rfl rfl (exX7_put (d := d + 0) hv) ?_
  show Ex (d + 1) kX0_add 24 [some (vR (0, 0, m)), some (vI a0), some (vI a1)] [] hp6 _
  refine Ex.go 6 (pc' := 34) (ls' := [some (vR (0, 0, m)), some (vI a0), some (vI a1)]) (st' := []) (hp' := (up hp6 (0, 0, m) 5 ((hp6 (0, 0, m) 5) + 1))) (fun _ => rfl) ?_
  cases h
  exact Ex.ret rfl rfl rfl
def fX9_isCapital (a0 : Int32) (hp : HP) : Option Int32 := if a0 < 65 then (some 0) else (if 90 < a0 then (some 0) else (some 1))
theorem exX9_isCapital {d : Nat} {a0 : Int32} {hp : HP} {v : Int32} (h : fX9_isCapital a0 hp = some v) : Calls (d + 0) 154 [vI a0] hp (rsI v hp) := by
  replace h : (if a0 < 65 then (some 0) else (if 90 < a0 then (some 0) else (some 1))) = some v := h
  show Ex (d + 0) kX9_isCapital 0 [some (vI a0)] [] hp _
  refine Ex.go 2 (pc' := 3) (ls' := [some (vI a0)]) (st' := [vI 65, vI a0]) (hp' := hp) (fun _ => rfl) ?_
  refine Ex.icmp rfl ?_
  by_cases hc : a0 < 65
  · rw [if_pos hc] at h
    rw [brI_lt_p hc]
    show Ex (d + 0) kX9_isCapital 16 [some (vI a0)] [] hp _
    refine Ex.go 1 (pc' := 17) (ls' := [some (vI a0)]) (st' := [vI 0]) (hp' := hp) (fun _ => rfl) ?_
    cases h
    exact Ex.ret rfl rfl rfl
  · rw [if_neg hc] at h
    rw [brI_lt_n hc]
    show Ex (d + 0) kX9_isCapital 6 [some (vI a0)] [] hp _
    refine Ex.go 2 (pc' := 9) (ls' := [some (vI a0)]) (st' := [vI 90, vI a0]) (hp' := hp) (fun _ => rfl) ?_
    refine Ex.icmp rfl ?_
    by_cases hc : 90 < a0
    · rw [if_pos hc] at h
      rw [brI_gt_p hc]
      show Ex (d + 0) kX9_isCapital 16 [some (vI a0)] [] hp _
      refine Ex.go 1 (pc' := 17) (ls' := [some (vI a0)]) (st' := [vI 0]) (hp' := hp) (fun _ => rfl) ?_
      cases h
      exact Ex.ret rfl rfl rfl
    · rw [if_neg hc] at h
      rw [brI_gt_n hc]
      show Ex (d + 0) kX9_isCapital 12 [some (vI a0)] [] hp _
      refine Ex.go 2 (pc' := 17) (ls' := [some (vI a0)]) (st' := [vI 1]) (hp' := hp) (fun _ => rfl) ?_
      cases h
      exact Ex.ret rfl rfl rfl
def fX7_at (w : Nat) (m : Nat) (a0 : Int32) (hp : HP) : Option Int32 := if a0 < 0 then (some 0) else (if a0 < (nI (alen (11, w, m))) then (if inb a0 (alen (11, w, m)) = true then (some (hp (11, w, m) a0.toNatClampNeg)) else none) else (some 0))
theorem exX7_at {d : Nat} {w : Nat} {m : Nat} {a0 : Int32} {hp : HP} {v : Int32} (h : fX7_at w m a0 hp = some v) : Calls (d + 0) 81 [vR (7, w, m), vI a0] hp (rsI v hp) := by
  replace h : (if a0 < 0 then (some 0) else (if a0 < (nI (alen (11, w, m))) then (if inb a0 (alen (11, w, m)) = true then (some (hp (11, w, m) a0.toNatClampNeg)) else none) else (some 0))) = some v := h
  show Ex (d + 0) kX7_at 0 [some (vR (7, w, m)), some (vI a0)] [] hp _
  refine Ex.go 1 (pc' := 1) (ls' := [some (vR (7, w, m)), some (vI a0)]) (st' := [vI a0]) (hp' := hp) (fun _ => rfl) ?_
  refine Ex.ifc rfl ?_
  by_cases hc : a0 < 0
  · rw [if_pos hc] at h
    rw [brI_lt_p hc]
    show Ex (d + 0) kX7_at 22 [some (vR (7, w, m)), some (vI a0)] [] hp _
    refine Ex.go 1 (pc' := 23) (ls' := [some (vR (7, w, m)), some (vI a0)]) (st' := [vI 0]) (hp' := hp) (fun _ => rfl) ?_
    cases h
    exact Ex.ret rfl rfl rfl
  · rw [if_neg hc] at h
    rw [brI_lt_n hc]
    show Ex (d + 0) kX7_at 4 [some (vR (7, w, m)), some (vI a0)] [] hp _
    refine Ex.go 4 (pc' := 10) (ls' := [some (vR (7, w, m)), some (vI a0)]) (st' := [vI (nI (alen (11, w, m))), vI a0]) (hp' := hp) (fun _ => rfl) ?_
    refine Ex.icmp rfl ?_
    by_cases hc : a0 < (nI (alen (11, w, m)))
    · rw [if_pos hc] at h
      rw [brI_ge_p hc]
      show Ex (d + 0) kX7_at 13 [some (vR (7, w, m)), some (vI a0)] [] hp _
      refine Ex.go 3 (pc' := 18) (ls' := [some (vR (7, w, m)), some (vI a0)]) (st' := [vI a0, vR (11, w, m)]) (hp' := hp) (fun _ => rfl) ?_
      by_cases hc : inb a0 (alen (11, w, m)) = true
      · rw [if_pos hc] at h
        refine Ex.iald rfl rfl hc rfl ?_
        show Ex (d + 0) kX7_at 19 [some (vR (7, w, m)), some (vI a0)] [vI (hp (11, w, m) a0.toNatClampNeg)] hp _
        refine Ex.go 1 (pc' := 23) (ls' := [some (vR (7, w, m)), some (vI a0)]) (st' := [vI (hp (11, w, m) a0.toNatClampNeg)]) (hp' := hp) (fun _ => rfl) ?_
        cases h
        exact Ex.ret rfl rfl rfl
      · rw [if_neg hc] at h
        cases h
    · rw [if_neg hc] at h
      rw [brI_ge_n hc]
      show Ex (d + 0) kX7_at 22 [some (vR (7, w, m)), some (vI a0)] [] hp _
      refine Ex.go 1 (pc' := 23) (ls' := [some (vR (7, w, m)), some (vI a0)]) (st' := [vI 0]) (hp' := hp) (fun _ => rfl) ?_
      cases h
      exact Ex.ret rfl rfl rfl
def fX0_withLetter_21 (n : Nat) (m : Nat) (x2 : Int32) (x3 : Int32) (hp : HP) : Option Int32 := match n with
  | 0 => none
  | n + 1 => if x3 < (hp (0, 0, m) 5) then ((fX7_at 5 m x3 hp).bind fun v1 => if v1 = x2 then (some x3) else (fX0_withLetter_21 n m x2 (x3 + 1) hp)) else (some m1)
theorem exX0_withLetter_21 {d : Nat} {m : Nat} : ∀ (n : Nat) (x2 : Int32) (x3 : Int32) (j1 : Option VL) (hp : HP) (v : Int32), fX0_withLetter_21 n m x2 x3 hp = some v → Ex (d + 1) kX0_withLetter 21 [some (vR (0, 0, m)), j1, some (vI x2), some (vI x3)] [] hp (rsI v hp) := by
  intro n
  induction n with
  | zero =>
    intro x2 x3 j1 hp v h
    cases h
  | succ n ih =>
    intro x2 x3 j1 hp v h
    replace h : (if x3 < (hp (0, 0, m) 5) then ((fX7_at 5 m x3 hp).bind fun v1 => if v1 = x2 then (some x3) else (fX0_withLetter_21 n m x2 (x3 + 1) hp)) else (some m1)) = some v := h
    refine Ex.go 3 (pc' := 26) (ls' := [some (vR (0, 0, m)), j1, some (vI x2), some (vI x3)]) (st' := [vI (hp (0, 0, m) 5), vI x3]) (hp' := hp) (fun _ => rfl) ?_
    refine Ex.icmp rfl ?_
    by_cases hc : x3 < (hp (0, 0, m) 5)
    · rw [if_pos hc] at h
      rw [brI_ge_p hc]
      show Ex (d + 1) kX0_withLetter 29 [some (vR (0, 0, m)), j1, some (vI x2), some (vI x3)] [] hp _
      refine Ex.go 3 (pc' := 34) (ls' := [some (vR (0, 0, m)), j1, some (vI x2), some (vI x3)]) (st' := [vI x3, vR (7, 5, m)]) (hp' := hp) (fun _ => rfl) ?_
      obtain ⟨v1, hv, h⟩ := Option.bind_eq_some_iff.mp h
      refine Ex.call (args := [vR (7, 5, m), vI x3]) (rest := []) rfl rfl rfl (exX7_at (d := d + 0) hv) ?_
      show Ex (d + 1) kX0_withLetter 37 [some (vR (0, 0, m)), j1, some (vI x2), some (vI x3)] [vI v1] hp _
      refine Ex.go 1 (pc' := 38) (ls' := [some (vR (0, 0, m)), j1, some (vI x2), some (vI x3)]) (st' := [vI x2, vI v1]) (hp' := hp) (fun _ => rfl) ?_
      refine Ex.icmp rfl ?_
      by_cases hc : v1 = x2
      · rw [if_pos hc] at h
        rw [brI_ne_p hc]
        show Ex (d + 1) kX0_withLetter 41 [some (vR (0, 0, m)), j1, some (vI x2), some (vI x3)] [] hp _
        refine Ex.go 1 (pc' := 42) (ls' := [some (vR (0, 0, m)), j1, some (vI x2), some (vI x3)]) (st' := [vI x3]) (hp' := hp) (fun _ => rfl) ?_
        cases h
        exact Ex.ret rfl rfl rfl
      · rw [if_neg hc] at h
        rw [brI_ne_n hc]
        show Ex (d + 1) kX0_withLetter 43 [some (vR (0, 0, m)), j1, some (vI x2), some (vI x3)] [] hp _
        refine Ex.go 2 (pc' := 21) (ls' := [some (vR (0, 0, m)), j1, some (vI x2), some (vI (x3 + 1))]) (st' := []) (hp' := hp) (fun _ => rfl) ?_
        exact ih _ _ _ _ _ h
    · rw [if_neg hc] at h
      rw [brI_ge_n hc]
      show Ex (d + 1) kX0_withLetter 49 [some (vR (0, 0, m)), j1, some (vI x2), some (vI x3)] [] hp _
      refine Ex.go 1 (pc' := 50) (ls' := [some (vR (0, 0, m)), j1, some (vI x2), some (vI x3)]) (st' := [vI m1]) (hp' := hp) (fun _ => rfl) ?_
      cases h
      exact Ex.ret rfl rfl rfl
def fX0_withLetter_18 (m : Nat) (y0 : Int32) (hp : HP) : Option Int32 := fX0_withLetter_21 FU m y0 0 hp
theorem exX0_withLetter_18 {d : Nat} {m : Nat} {y0 : Int32} {j1 : Option VL} {j2 : Option VL} {j3 : Option VL} {hp : HP} {v : Int32} (h : fX0_withLetter_18 m y0 hp = some v) : Ex (d + 1) kX0_withLetter 18 [some (vR (0, 0, m)), j1, j2, j3] [vI y0] hp (rsI v hp) := by
  replace h : (fX0_withLetter_21 FU m y0 0 hp) = some v := h
  refine Ex.go 3 (pc' := 21) (ls' := [some (vR (0, 0, m)), j1, some (vI y0), some (vI 0)]) (st' := []) (hp' := hp) (fun _ => rfl) ?_
  exact exX0_withLetter_21 FU _ _ _ _ _ h
def fX0_withLetter (m : Nat) (a0 : Int32) (hp : HP) : Option Int32 := (fX9_isCapital a0 hp).bind fun v2 => if v2 = 0 then (fX0_withLetter_18 m a0 hp) else (fX0_withLetter_18 m ((a0 - 65) + 97) hp)
theorem exX0_withLetter {d : Nat} {m : Nat} {a0 : Int32} {hp : HP} {v : Int32} (h : fX0_withLetter m a0 hp = some v) : Calls (d + 1) 3 [vR (0, 0, m), vI a0] hp (rsI v hp) := by
  replace h : ((fX9_isCapital a0 hp).bind fun v2 => if v2 = 0 then (fX0_withLetter_18 m a0 hp) else (fX0_withLetter_18 m ((a0 - 65) + 97) hp)) = some v := h
  show Ex (d + 1) kX0_withLetter 0 [some (vR (0, 0, m)), some (vI a0), none, none] [] hp _
  refine Ex.go 1 (pc' := 1) (ls' := [some (vR (0, 0, m)), some (vI a0), none, none]) (st' := [vI a0]) (hp' := hp) (fun _ => rfl) ?_
  obtain ⟨v2, hv, h⟩ := Option.bind_eq_some_iff.mp h
  refine Ex.call (args := [vI a0]) (rest := []) rfl rfl rfl (exX9_isCapital (d := d + 0) hv) ?_
  show Ex (d + 1) kX0_withLetter 4 [some (vR (0, 0, m)), some (vI a0), none, none] [vI v2] hp _
  refine Ex.ifc rfl ?_
  by_cases hc : v2 = 0
  · rw [if_pos hc] at h
    rw [brI_eq_p hc]
    show Ex (d + 1) kX0_withLetter 17 [some (vR (0, 0, m)), some (vI a0), none, none] [] hp _
    refine Ex.go 1 (pc' := 18) (ls' := [some (vR (0, 0, m)), some (vI a0), none, none]) (st' := [vI a0]) (hp' := hp) (fun _ => rfl) ?_
    exact exX0_withLetter_18 h
  · rw [if_neg hc] at h
    rw [brI_eq_n hc]
    show Ex (d + 1) kX0_withLetter 7 [some (vR (0, 0, m)), some (vI a0), none, none] [] hp _
    refine Ex.go 6 (pc' := 18) (ls' := [some (vR (0, 0, m)), some (vI a0), none, none]) (st' := [vI ((a0 - 65) + 97)]) (hp' := hp) (fun _ => rfl) ?_
    exact exX0_withLetter_18 h
def fX0_riseOf (m : Nat) (a0 : Int32) (hp : HP) : Option Int32 := (fX7_at 0 m 6 hp).bind fun v1 => (fX7_at 6 m a0 hp).bind fun v2 => some (v1 + (idv (iabs (v2 - 90)) 10))
theorem exX0_riseOf {d : Nat} {m : Nat} {a0 : Int32} {hp : HP} {v : Int32} (h : fX0_riseOf m a0 hp = some v) : Calls (d + 1) 4 [vR (0, 0, m), vI a0] hp (rsI v hp) := by
  replace h : ((fX7_at 0 m 6 hp).bind fun v1 => (fX7_at 6 m a0 hp).bind fun v2 => some (v1 + (idv (iabs (v2 - 90)) 10))) = some v := h
  show Ex (d + 1) kX0_riseOf 0 [some (vR (0, 0, m)), some (vI a0)] [] hp _
  refine Ex.go 3 (pc' := 6) (ls' := [some (vR (0, 0, m)), some (vI a0)]) (st' := [vI 6, vR (7, 0, m)]) (hp' := hp) (fun _ => rfl) ?_
  obtain ⟨v1, hv, h⟩ := Option.bind_eq_some_iff.mp h
  refine Ex.call (args := [vR (7, 0, m), vI 6]) (rest := []) rfl rfl rfl (exX7_at (d := d + 0) hv) ?_
  show Ex (d + 1) kX0_riseOf 9 [some (vR (0, 0, m)), some (vI a0)] [vI v1] hp _
  refine Ex.go 3 (pc' := 14) (ls' := [some (vR (0, 0, m)), some (vI a0)]) (st' := [vI a0, vR (7, 6, m), vI v1]) (hp' := hp) (fun _ => rfl) ?_
  obtain ⟨v2, hv, h⟩ := Option.bind_eq_some_iff.mp h
  refine Ex.call (args := [vR (7, 6, m), vI a0]) (rest := [vI v1]) rfl rfl rfl (exX7_at (d := d + 0) hv) ?_
  show Ex (d + 1) kX0_riseOf 17 [some (vR (0, 0, m)), some (vI a0)] [vI v2, vI v1] hp _
  refine Ex.go 4 (pc' := 25) (ls' := [some (vR (0, 0, m)), some (vI a0)]) (st' := [vI 10, vI (iabs (v2 - 90)), vI v1]) (hp' := hp) (fun _ => rfl) ?_
  refine Ex.idiv rfl (by decide) ?_
  show Ex (d + 1) kX0_riseOf 26 [some (vR (0, 0, m)), some (vI a0)] [vI (idv (iabs (v2 - 90)) 10), vI v1] hp _
  refine Ex.go 1 (pc' := 27) (ls' := [some (vR (0, 0, m)), some (vI a0)]) (st' := [vI (v1 + (idv (iabs (v2 - 90)) 10))]) (hp' := hp) (fun _ => rfl) ?_
  cases h
  exact Ex.ret rfl rfl rfl
def fX0_backAt (m : Nat) (a0 : Int32) (hp : HP) : Option Int32 := (fX7_at 7 m a0 hp).bind fun v1 => if v1 = m1 then (some 0) else ((fX0_riseOf m a0 hp).bind fun v2 => some (v1 + (2 * v2)))
theorem exX0_backAt {d : Nat} {m : Nat} {a0 : Int32} {hp : HP} {v : Int32} (h : fX0_backAt m a0 hp = some v) : Calls (d + 2) 5 [vR (0, 0, m), vI a0] hp (rsI v hp) := by
  replace h : ((fX7_at 7 m a0 hp).bind fun v1 => if v1 = m1 then (some 0) else ((fX0_riseOf m a0 hp).bind fun v2 => some (v1 + (2 * v2)))) = some v := h
  show Ex (d + 2) kX0_backAt 0 [some (vR (0, 0, m)), some (vI a0), none] [] hp _
  refine Ex.go 3 (pc' := 5) (ls' := [some (vR (0, 0, m)), some (vI a0), none]) (st' := [vI a0, vR (7, 7, m)]) (hp' := hp) (fun _ => rfl) ?_
  obtain ⟨v1, hv, h⟩ := Option.bind_eq_some_iff.mp h
  refine Ex.call (args := [vR (7, 7, m), vI a0]) (rest := []) rfl rfl rfl (exX7_at (d := d + 1) hv) ?_
  show Ex (d + 2) kX0_backAt 8 [some (vR (0, 0, m)), some (vI a0), none] [vI v1] hp _
  refine Ex.go 3 (pc' := 11) (ls' := [some (vR (0, 0, m)), some (vI a0), some (vI v1)]) (st' := [vI m1, vI v1]) (hp' := hp) (fun _ => rfl) ?_
  refine Ex.icmp rfl ?_
  by_cases hc : v1 = m1
  · rw [if_pos hc] at h
    rw [brI_ne_p hc]
    show Ex (d + 2) kX0_backAt 14 [some (vR (0, 0, m)), some (vI a0), some (vI v1)] [] hp _
    refine Ex.go 2 (pc' := 27) (ls' := [some (vR (0, 0, m)), some (vI a0), some (vI v1)]) (st' := [vI 0]) (hp' := hp) (fun _ => rfl) ?_
    cases h
    exact Ex.ret rfl rfl rfl
  · rw [if_neg hc] at h
    rw [brI_ne_n hc]
    show Ex (d + 2) kX0_backAt 18 [some (vR (0, 0, m)), some (vI a0), some (vI v1)] [] hp _
    refine Ex.go 4 (pc' := 22) (ls' := [some (vR (0, 0, m)), some (vI a0), some (vI v1)]) (st' := [vI a0, vR (0, 0, m), vI 2, vI v1]) (hp' := hp) (fun _ => rfl) ?_
    obtain ⟨v2, hv, h⟩ := Option.bind_eq_some_iff.mp h
    refine Ex.call (args := [vR (0, 0, m), vI a0]) (rest := [vI 2, vI v1]) rfl rfl rfl (exX0_riseOf (d := d + 0) hv) ?_
    show Ex (d + 2) kX0_backAt 25 [some (vR (0, 0, m)), some (vI a0), some (vI v1)] [vI v2, vI 2, vI v1] hp _
    refine Ex.go 2 (pc' := 27) (ls' := [some (vR (0, 0, m)), some (vI a0), some (vI v1)]) (st' := [vI (v1 + (2 * v2))]) (hp' := hp) (fun _ => rfl) ?_
    cases h
    exact Ex.ret rfl rfl rfl
def fX0_notBackAt_24 (m : Nat) (x1 : Int32) (x2 : Int32) (x3 : Int32) (k4 : Int32 → Int32 → Int32 → HP → Option Int32) (hp : HP) : Option Int32 := k4 x1 x2 (x3 + 1) hp
theorem exX0_notBackAt_24 {d : Nat} {m : Nat} {x1 : Int32} {x2 : Int32} {x3 : Int32} {hp : HP} {v : Int32} {k4 : Int32 → Int32 → Int32 → HP → Option Int32} (hk4 : ∀ (x1 : Int32) (x2 : Int32) (x3 : Int32) (hp : HP) (v : Int32), k4 x1 x2 x3 hp = some v → Ex (d + 3) kX0_notBackAt 4 [some (vR (0, 0, m)), some (vI x1), some (vI x2), some (vI x3)] [] hp (rsI v hp)) (h : fX0_notBackAt_24 m x1 x2 x3 k4 hp = some v) : Ex (d + 3) kX0_notBackAt 24 [some (vR (0, 0, m)), some (vI x1), some (vI x2), some (vI x3)] [] hp (rsI v hp) := by
  replace h : (k4 x1 x2 (x3 + 1) hp) = some v := h
  refine Ex.go 2 (pc' := 4) (ls' := [some (vR (0, 0, m)), some (vI x1), some (vI x2), some (vI (x3 + 1))]) (st' := []) (hp' := hp) (fun _ => rfl) ?_
  exact hk4 _ _ _ _ _ h
def fX0_notBackAt_4 (n : Nat) (m : Nat) (x1 : Int32) (x2 : Int32) (x3 : Int32) (hp : HP) : Option Int32 := match n with
  | 0 => none
  | n + 1 => if x3 < (hp (0, 0, m) 5) then ((fX0_backAt m x3 hp).bind fun v1 => if x1 < v1 then (fX0_notBackAt_24 m x1 (x2 + 1) x3 (fun x1 x2 x3 hq => fX0_notBackAt_4 n m x1 x2 x3 hq) hp) else (fX0_notBackAt_24 m x1 x2 x3 (fun x1 x2 x3 hq => fX0_notBackAt_4 n m x1 x2 x3 hq) hp)) else (some x2)
theorem exX0_notBackAt_4 {d : Nat} {m : Nat} : ∀ (n : Nat) (x1 : Int32) (x2 : Int32) (x3 : Int32) (hp : HP) (v : Int32), fX0_notBackAt_4 n m x1 x2 x3 hp = some v → Ex (d + 3) kX0_notBackAt 4 [some (vR (0, 0, m)), some (vI x1), some (vI x2), some (vI x3)] [] hp (rsI v hp) := by
  intro n
  induction n with
  | zero =>
    intro x1 x2 x3 hp v h
    cases h
  | succ n ih =>
    intro x1 x2 x3 hp v h
    replace h : (if x3 < (hp (0, 0, m) 5) then ((fX0_backAt m x3 hp).bind fun v1 => if x1 < v1 then (fX0_notBackAt_24 m x1 (x2 + 1) x3 (fun x1 x2 x3 hq => fX0_notBackAt_4 n m x1 x2 x3 hq) hp) else (fX0_notBackAt_24 m x1 x2 x3 (fun x1 x2 x3 hq => fX0_notBackAt_4 n m x1 x2 x3 hq) hp)) else (some x2)) = some v := h
    refine Ex.go 3 (pc' := 9) (ls' := [some (vR (0, 0, m)), some (vI x1), some (vI x2), some (vI x3)]) (st' := [vI (hp (0, 0, m) 5), vI x3]) (hp' := hp) (fun _ => rfl) ?_
    refine Ex.icmp rfl ?_
    by_cases hc : x3 < (hp (0, 0, m) 5)
    · rw [if_pos hc] at h
      rw [brI_ge_p hc]
      show Ex (d + 3) kX0_notBackAt 12 [some (vR (0, 0, m)), some (vI x1), some (vI x2), some (vI x3)] [] hp _
      refine Ex.go 3 (pc' := 15) (ls' := [some (vR (0, 0, m)), some (vI x1), some (vI x2), some (vI x3)]) (st' := [vI x3, vR (0, 0, m), vI x1]) (hp' := hp) (fun _ => rfl) ?_
      obtain ⟨v1, hv, h⟩ := Option.bind_eq_some_iff.mp h
      refine Ex.call (args := [vR (0, 0, m), vI x3]) (rest := [vI x1]) rfl rfl rfl (exX0_backAt (d := d + 0) hv) ?_
      show Ex (d + 3) kX0_notBackAt 18 [some (vR (0, 0, m)), some (vI x1), some (vI x2), some (vI x3)] [vI v1, vI x1] hp _
      refine Ex.icmp rfl ?_
      by_cases hc : x1 < v1
      · rw [if_pos hc] at h
        rw [brI_ge_p hc]
        show Ex (d + 3) kX0_notBackAt 21 [some (vR (0, 0, m)), some (vI x1), some (vI x2), some (vI x3)] [] hp _
        refine Ex.go 1 (pc' := 24) (ls' := [some (vR (0, 0, m)), some (vI x1), some (vI (x2 + 1)), some (vI x3)]) (st' := []) (hp' := hp) (fun _ => rfl) ?_
        exact exX0_notBackAt_24 (fun q0 q1 q2 q3 q4 hv => ih q0 q1 q2 q3 q4 hv) h
      · rw [if_neg hc] at h
        rw [brI_ge_n hc]
        show Ex (d + 3) kX0_notBackAt 24 [some (vR (0, 0, m)), some (vI x1), some (vI x2), some (vI x3)] [] hp _
        exact exX0_notBackAt_24 (fun q0 q1 q2 q3 q4 hv => ih q0 q1 q2 q3 q4 hv) h
    · rw [if_neg hc] at h
      rw [brI_ge_n hc]
      show Ex (d + 3) kX0_notBackAt 30 [some (vR (0, 0, m)), some (vI x1), some (vI x2), some (vI x3)] [] hp _
      refine Ex.go 1 (pc' := 31) (ls' := [some (vR (0, 0, m)), some (vI x1), some (vI x2), some (vI x3)]) (st' := [vI x2]) (hp' := hp) (fun _ => rfl) ?_
      cases h
      exact Ex.ret rfl rfl rfl
def fX0_notBackAt (m : Nat) (a0 : Int32) (hp : HP) : Option Int32 := fX0_notBackAt_4 FU m a0 0 0 hp
theorem exX0_notBackAt {d : Nat} {m : Nat} {a0 : Int32} {hp : HP} {v : Int32} (h : fX0_notBackAt m a0 hp = some v) : Calls (d + 3) 6 [vR (0, 0, m), vI a0] hp (rsI v hp) := by
  replace h : (fX0_notBackAt_4 FU m a0 0 0 hp) = some v := h
  show Ex (d + 3) kX0_notBackAt 0 [some (vR (0, 0, m)), some (vI a0), none, none] [] hp _
  refine Ex.go 4 (pc' := 4) (ls' := [some (vR (0, 0, m)), some (vI a0), some (vI 0), some (vI 0)]) (st' := []) (hp' := hp) (fun _ => rfl) ?_
  exact exX0_notBackAt_4 FU _ _ _ _ _ h
def fX0_areJammed (m : Nat) (hp : HP) : Option Int32 := if (hp (0, 0, m) 7) = m1 then (some 0) else (some 1)
theorem exX0_areJammed {d : Nat} {m : Nat} {hp : HP} {v : Int32} (h : fX0_areJammed m hp = some v) : Calls (d + 0) 7 [vR (0, 0, m)] hp (rsI v hp) := by
  replace h : (if (hp (0, 0, m) 7) = m1 then (some 0) else (some 1)) = some v := h
  show Ex (d + 0) kX0_areJammed 0 [some (vR (0, 0, m))] [] hp _
  refine Ex.go 3 (pc' := 5) (ls' := [some (vR (0, 0, m))]) (st' := [vI m1, vI (hp (0, 0, m) 7)]) (hp' := hp) (fun _ => rfl) ?_
  refine Ex.icmp rfl ?_
  by_cases hc : (hp (0, 0, m) 7) = m1
  · rw [if_pos hc] at h
    rw [brI_eq_p hc]
    show Ex (d + 0) kX0_areJammed 12 [some (vR (0, 0, m))] [] hp _
    refine Ex.go 1 (pc' := 13) (ls' := [some (vR (0, 0, m))]) (st' := [vI 0]) (hp' := hp) (fun _ => rfl) ?_
    cases h
    exact Ex.ret rfl rfl rfl
  · rw [if_neg hc] at h
    rw [brI_eq_n hc]
    show Ex (d + 0) kX0_areJammed 8 [some (vR (0, 0, m))] [] hp _
    refine Ex.go 2 (pc' := 13) (ls' := [some (vR (0, 0, m))]) (st' := [vI 1]) (hp' := hp) (fun _ => rfl) ?_
    cases h
    exact Ex.ret rfl rfl rfl
def fX0_isJammed (m : Nat) (a0 : Int32) (hp : HP) : Option Int32 := if a0 = (hp (0, 0, m) 7) then (some 1) else (if a0 = (hp (0, 0, m) 8) then (some 1) else (some 0))
theorem exX0_isJammed {d : Nat} {m : Nat} {a0 : Int32} {hp : HP} {v : Int32} (h : fX0_isJammed m a0 hp = some v) : Calls (d + 0) 8 [vR (0, 0, m), vI a0] hp (rsI v hp) := by
  replace h : (if a0 = (hp (0, 0, m) 7) then (some 1) else (if a0 = (hp (0, 0, m) 8) then (some 1) else (some 0))) = some v := h
  show Ex (d + 0) kX0_isJammed 0 [some (vR (0, 0, m)), some (vI a0)] [] hp _
  refine Ex.go 3 (pc' := 5) (ls' := [some (vR (0, 0, m)), some (vI a0)]) (st' := [vI (hp (0, 0, m) 7), vI a0]) (hp' := hp) (fun _ => rfl) ?_
  refine Ex.icmp rfl ?_
  by_cases hc : a0 = (hp (0, 0, m) 7)
  · rw [if_pos hc] at h
    rw [brI_eq_p hc]
    show Ex (d + 0) kX0_isJammed 16 [some (vR (0, 0, m)), some (vI a0)] [] hp _
    refine Ex.go 2 (pc' := 21) (ls' := [some (vR (0, 0, m)), some (vI a0)]) (st' := [vI 1]) (hp' := hp) (fun _ => rfl) ?_
    cases h
    exact Ex.ret rfl rfl rfl
  · rw [if_neg hc] at h
    rw [brI_eq_n hc]
    show Ex (d + 0) kX0_isJammed 8 [some (vR (0, 0, m)), some (vI a0)] [] hp _
    refine Ex.go 3 (pc' := 13) (ls' := [some (vR (0, 0, m)), some (vI a0)]) (st' := [vI (hp (0, 0, m) 8), vI a0]) (hp' := hp) (fun _ => rfl) ?_
    refine Ex.icmp rfl ?_
    by_cases hc : a0 = (hp (0, 0, m) 8)
    · rw [if_pos hc] at h
      rw [brI_ne_p hc]
      show Ex (d + 0) kX0_isJammed 16 [some (vR (0, 0, m)), some (vI a0)] [] hp _
      refine Ex.go 2 (pc' := 21) (ls' := [some (vR (0, 0, m)), some (vI a0)]) (st' := [vI 1]) (hp' := hp) (fun _ => rfl) ?_
      cases h
      exact Ex.ret rfl rfl rfl
    · rw [if_neg hc] at h
      rw [brI_ne_n hc]
      show Ex (d + 0) kX0_isJammed 20 [some (vR (0, 0, m)), some (vI a0)] [] hp _
      refine Ex.go 1 (pc' := 21) (ls' := [some (vR (0, 0, m)), some (vI a0)]) (st' := [vI 0]) (hp' := hp) (fun _ => rfl) ?_
      cases h
      exact Ex.ret rfl rfl rfl
def fX0_roomOf (m : Nat) (a0 : Int32) (a1 : Int32) (hp : HP) : Option Int32 := (fX7_at 6 m a0 hp).bind fun v1 => (fX7_at 6 m a1 hp).bind fun v2 => (fX7_at 0 m 7 hp).bind fun v3 => (fX7_at 0 m 8 hp).bind fun v4 => some (v3 + (imax 0 (v4 - (iabs (v1 - v2)))))
theorem exX0_roomOf {d : Nat} {m : Nat} {a0 : Int32} {a1 : Int32} {hp : HP} {v : Int32} (h : fX0_roomOf m a0 a1 hp = some v) : Calls (d + 1) 10 [vR (0, 0, m), vI a0, vI a1] hp (rsI v hp) := by
  replace h : ((fX7_at 6 m a0 hp).bind fun v1 => (fX7_at 6 m a1 hp).bind fun v2 => (fX7_at 0 m 7 hp).bind fun v3 => (fX7_at 0 m 8 hp).bind fun v4 => some (v3 + (imax 0 (v4 - (iabs (v1 - v2)))))) = some v := h
  show Ex (d + 1) kX0_roomOf 0 [some (vR (0, 0, m)), some (vI a0), some (vI a1), none] [] hp _
  refine Ex.go 3 (pc' := 5) (ls' := [some (vR (0, 0, m)), some (vI a0), some (vI a1), none]) (st' := [vI a0, vR (7, 6, m)]) (hp' := hp) (fun _ => rfl) ?_
  obtain ⟨v1, hv, h⟩ := Option.bind_eq_some_iff.mp h
  refine Ex.call (args := [vR (7, 6, m), vI a0]) (rest := []) rfl rfl rfl (exX7_at (d := d + 0) hv) ?_
  show Ex (d + 1) kX0_roomOf 8 [some (vR (0, 0, m)), some (vI a0), some (vI a1), none] [vI v1] hp _
  refine Ex.go 3 (pc' := 13) (ls' := [some (vR (0, 0, m)), some (vI a0), some (vI a1), none]) (st' := [vI a1, vR (7, 6, m), vI v1]) (hp' := hp) (fun _ => rfl) ?_
  obtain ⟨v2, hv, h⟩ := Option.bind_eq_some_iff.mp h
  refine Ex.call (args := [vR (7, 6, m), vI a1]) (rest := [vI v1]) rfl rfl rfl (exX7_at (d := d + 0) hv) ?_
  show Ex (d + 1) kX0_roomOf 16 [some (vR (0, 0, m)), some (vI a0), some (vI a1), none] [vI v2, vI v1] hp _
  refine Ex.go 6 (pc' := 27) (ls' := [some (vR (0, 0, m)), some (vI a0), some (vI a1), some (vI (iabs (v1 - v2)))]) (st' := [vI 7, vR (7, 0, m)]) (hp' := hp) (fun _ => rfl) ?_
  obtain ⟨v3, hv, h⟩ := Option.bind_eq_some_iff.mp h
  refine Ex.call (args := [vR (7, 0, m), vI 7]) (rest := []) rfl rfl rfl (exX7_at (d := d + 0) hv) ?_
  show Ex (d + 1) kX0_roomOf 30 [some (vR (0, 0, m)), some (vI a0), some (vI a1), some (vI (iabs (v1 - v2)))] [vI v3] hp _
  refine Ex.go 4 (pc' := 37) (ls' := [some (vR (0, 0, m)), some (vI a0), some (vI a1), some (vI (iabs (v1 - v2)))]) (st' := [vI 8, vR (7, 0, m), vI 0, vI v3]) (hp' := hp) (fun _ => rfl) ?_
  obtain ⟨v4, hv, h⟩ := Option.bind_eq_some_iff.mp h
  refine Ex.call (args := [vR (7, 0, m), vI 8]) (rest := [vI 0, vI v3]) rfl rfl rfl (exX7_at (d := d + 0) hv) ?_
  show Ex (d + 1) kX0_roomOf 40 [some (vR (0, 0, m)), some (vI a0), some (vI a1), some (vI (iabs (v1 - v2)))] [vI v4, vI 0, vI v3] hp _
  refine Ex.go 4 (pc' := 46) (ls' := [some (vR (0, 0, m)), some (vI a0), some (vI a1), some (vI (iabs (v1 - v2)))]) (st' := [vI (v3 + (imax 0 (v4 - (iabs (v1 - v2)))))]) (hp' := hp) (fun _ => rfl) ?_
  cases h
  exact Ex.ret rfl rfl rfl
def fX0_strikeFault (m : Nat) (a0 : Int32) (a1 : Int32) (hp : HP) : Option Int32 := (fX0_backAt m a0 hp).bind fun v1 => if a1 < v1 then (some 4) else (if (hp (0, 0, m) 6) = m1 then (some 0) else (if (hp (0, 0, m) 6) = a0 then (some 0) else ((fX0_backAt m (hp (0, 0, m) 6) hp).bind fun v2 => if a1 < v2 then ((fX0_riseOf m a0 hp).bind fun v3 => (fX7_at 7 m (hp (0, 0, m) 6) hp).bind fun v4 => (fX0_riseOf m (hp (0, 0, m) 6) hp).bind fun v5 => (fX0_roomOf m a0 (hp (0, 0, m) 6) hp).bind fun v6 => if (iabs (((a1 + v3) - v4) - v5)) < v6 then (some 5) else (some 0)) else (some 0))))
theorem exX0_strikeFault {d : Nat} {m : Nat} {a0 : Int32} {a1 : Int32} {hp : HP} {v : Int32} (h : fX0_strikeFault m a0 a1 hp = some v) : Calls (d + 3) 9 [vR (0, 0, m), vI a0, vI a1] hp (rsI v hp) := by
  replace h : ((fX0_backAt m a0 hp).bind fun v1 => if a1 < v1 then (some 4) else (if (hp (0, 0, m) 6) = m1 then (some 0) else (if (hp (0, 0, m) 6) = a0 then (some 0) else ((fX0_backAt m (hp (0, 0, m) 6) hp).bind fun v2 => if a1 < v2 then ((fX0_riseOf m a0 hp).bind fun v3 => (fX7_at 7 m (hp (0, 0, m) 6) hp).bind fun v4 => (fX0_riseOf m (hp (0, 0, m) 6) hp).bind fun v5 => (fX0_roomOf m a0 (hp (0, 0, m) 6) hp).bind fun v6 => if (iabs (((a1 + v3) - v4) - v5)) < v6 then (some 5) else (some 0)) else (some 0))))) = some v := h
  show Ex (d + 3) kX0_strikeFault 0 [some (vR (0, 0, m)), some (vI a0), some (vI a1), none] [] hp _
  refine Ex.go 3 (pc' := 3) (ls' := [some (vR (0, 0, m)), some (vI a0), some (vI a1), none]) (st' := [vI a0, vR (0, 0, m), vI a1]) (hp' := hp) (fun _ => rfl) ?_
  obtain ⟨v1, hv, h⟩ := Option.bind_eq_some_iff.mp h
  refine Ex.call (args := [vR (0, 0, m), vI a0]) (rest := [vI a1]) rfl rfl rfl (exX0_backAt (d := d + 0) hv) ?_
  show Ex (d + 3) kX0_strikeFault 6 [some (vR (0, 0, m)), some (vI a0), some (vI a1), none] [vI v1, vI a1] hp _
  refine Ex.icmp rfl ?_
  by_cases hc : a1 < v1
  · rw [if_pos hc] at h
    rw [brI_ge_p hc]
    show Ex (d + 3) kX0_strikeFault 9 [some (vR (0, 0, m)), some (vI a0), some (vI a1), none] [] hp _
    refine Ex.go 1 (pc' := 10) (ls' := [some (vR (0, 0, m)), some (vI a0), some (vI a1), none]) (st' := [vI 4]) (hp' := hp) (fun _ => rfl) ?_
    cases h
    exact Ex.ret rfl rfl rfl
  · rw [if_neg hc] at h
    rw [brI_ge_n hc]
    show Ex (d + 3) kX0_strikeFault 11 [some (vR (0, 0, m)), some (vI a0), some (vI a1), none] [] hp _
    refine Ex.go 3 (pc' := 16) (ls' := [some (vR (0, 0, m)), some (vI a0), some (vI a1), none]) (st' := [vI m1, vI (hp (0, 0, m) 6)]) (hp' := hp) (fun _ => rfl) ?_
    refine Ex.icmp rfl ?_
    by_cases hc : (hp (0, 0, m) 6) = m1
    · rw [if_pos hc] at h
      rw [brI_eq_p hc]
      show Ex (d + 3) kX0_strikeFault 39 [some (vR (0, 0, m)), some (vI a0), some (vI a1), none] [] hp _
      refine Ex.go 1 (pc' := 40) (ls' := [some (vR (0, 0, m)), some (vI a0), some (vI a1), none]) (st' := [vI 0]) (hp' := hp) (fun _ => rfl) ?_
      cases h
      exact Ex.ret rfl rfl rfl
    · rw [if_neg hc] at h
      rw [brI_eq_n hc]
      show Ex (d + 3) kX0_strikeFault 19 [some (vR (0, 0, m)), some (vI a0), some (vI a1), none] [] hp _
      refine Ex.go 3 (pc' := 24) (ls' := [some (vR (0, 0, m)), some (vI a0), some (vI a1), none]) (st' := [vI a0, vI (hp (0, 0, m) 6)]) (hp' := hp) (fun _ => rfl) ?_
      refine Ex.icmp rfl ?_
      by_cases hc : (hp (0, 0, m) 6) = a0
      · rw [if_pos hc] at h
        rw [brI_eq_p hc]
        show Ex (d + 3) kX0_strikeFault 39 [some (vR (0, 0, m)), some (vI a0), some (vI a1), none] [] hp _
        refine Ex.go 1 (pc' := 40) (ls' := [some (vR (0, 0, m)), some (vI a0), some (vI a1), none]) (st' := [vI 0]) (hp' := hp) (fun _ => rfl) ?_
        cases h
        exact Ex.ret rfl rfl rfl
      · rw [if_neg hc] at h
        rw [brI_eq_n hc]
        show Ex (d + 3) kX0_strikeFault 27 [some (vR (0, 0, m)), some (vI a0), some (vI a1), none] [] hp _
        refine Ex.go 4 (pc' := 33) (ls' := [some (vR (0, 0, m)), some (vI a0), some (vI a1), none]) (st' := [vI (hp (0, 0, m) 6), vR (0, 0, m), vI a1]) (hp' := hp) (fun _ => rfl) ?_
        obtain ⟨v2, hv, h⟩ := Option.bind_eq_some_iff.mp h
        refine Ex.call (args := [vR (0, 0, m), vI (hp (0, 0, m) 6)]) (rest := [vI a1]) rfl rfl rfl (exX0_backAt (d := d + 0) hv) ?_
        show Ex (d + 3) kX0_strikeFault 36 [some (vR (0, 0, m)), some (vI a0), some (vI a1), none] [vI v2, vI a1] hp _
        refine Ex.icmp rfl ?_
        by_cases hc : a1 < v2
        · rw [if_pos hc] at h
          rw [brI_lt_p hc]
          show Ex (d + 3) kX0_strikeFault 41 [some (vR (0, 0, m)), some (vI a0), some (vI a1), none] [] hp _
          refine Ex.go 3 (pc' := 44) (ls' := [some (vR (0, 0, m)), some (vI a0), some (vI a1), none]) (st' := [vI a0, vR (0, 0, m), vI a1]) (hp' := hp) (fun _ => rfl) ?_
          obtain ⟨v3, hv, h⟩ := Option.bind_eq_some_iff.mp h
          refine Ex.call (args := [vR (0, 0, m), vI a0]) (rest := [vI a1]) rfl rfl rfl (exX0_riseOf (d := d + 1) hv) ?_
          show Ex (d + 3) kX0_strikeFault 47 [some (vR (0, 0, m)), some (vI a0), some (vI a1), none] [vI v3, vI a1] hp _
          refine Ex.go 5 (pc' := 56) (ls' := [some (vR (0, 0, m)), some (vI a0), some (vI a1), none]) (st' := [vI (hp (0, 0, m) 6), vR (7, 7, m), vI (a1 + v3)]) (hp' := hp) (fun _ => rfl) ?_
          obtain ⟨v4, hv, h⟩ := Option.bind_eq_some_iff.mp h
          refine Ex.call (args := [vR (7, 7, m), vI (hp (0, 0, m) 6)]) (rest := [vI (a1 + v3)]) rfl rfl rfl (exX7_at (d := d + 2) hv) ?_
          show Ex (d + 3) kX0_strikeFault 59 [some (vR (0, 0, m)), some (vI a0), some (vI a1), none] [vI v4, vI (a1 + v3)] hp _
          refine Ex.go 4 (pc' := 65) (ls' := [some (vR (0, 0, m)), some (vI a0), some (vI a1), none]) (st' := [vI (hp (0, 0, m) 6), vR (0, 0, m), vI ((a1 + v3) - v4)]) (hp' := hp) (fun _ => rfl) ?_
          obtain ⟨v5, hv, h⟩ := Option.bind_eq_some_iff.mp h
          refine Ex.call (args := [vR (0, 0, m), vI (hp (0, 0, m) 6)]) (rest := [vI ((a1 + v3) - v4)]) rfl rfl rfl (exX0_riseOf (d := d + 1) hv) ?_
          show Ex (d + 3) kX0_strikeFault 68 [some (vR (0, 0, m)), some (vI a0), some (vI a1), none] [vI v5, vI ((a1 + v3) - v4)] hp _
          refine Ex.go 8 (pc' := 80) (ls' := [some (vR (0, 0, m)), some (vI a0), some (vI a1), some (vI (((a1 + v3) - v4) - v5))]) (st' := [vI (hp (0, 0, m) 6), vI a0, vR (0, 0, m), vI (iabs (((a1 + v3) - v4) - v5))]) (hp' := hp) (fun _ => rfl) ?_
          obtain ⟨v6, hv, h⟩ := Option.bind_eq_some_iff.mp h
          refine Ex.call (args := [vR (0, 0, m), vI a0, vI (hp (0, 0, m) 6)]) (rest := [vI (iabs (((a1 + v3) - v4) - v5))]) rfl rfl rfl (exX0_roomOf (d := d + 1) hv) ?_
          show Ex (d + 3) kX0_strikeFault 83 [some (vR (0, 0, m)), some (vI a0), some (vI a1), some (vI (((a1 + v3) - v4) - v5))] [vI v6, vI (iabs (((a1 + v3) - v4) - v5))] hp _
          refine Ex.icmp rfl ?_
          by_cases hc : (iabs (((a1 + v3) - v4) - v5)) < v6
          · rw [if_pos hc] at h
            rw [brI_ge_p hc]
            show Ex (d + 3) kX0_strikeFault 86 [some (vR (0, 0, m)), some (vI a0), some (vI a1), some (vI (((a1 + v3) - v4) - v5))] [] hp _
            refine Ex.go 2 (pc' := 91) (ls' := [some (vR (0, 0, m)), some (vI a0), some (vI a1), some (vI (((a1 + v3) - v4) - v5))]) (st' := [vI 5]) (hp' := hp) (fun _ => rfl) ?_
            cases h
            exact Ex.ret rfl rfl rfl
          · rw [if_neg hc] at h
            rw [brI_ge_n hc]
            show Ex (d + 3) kX0_strikeFault 90 [some (vR (0, 0, m)), some (vI a0), some (vI a1), some (vI (((a1 + v3) - v4) - v5))] [] hp _
            refine Ex.go 1 (pc' := 91) (ls' := [some (vR (0, 0, m)), some (vI a0), some (vI a1), some (vI (((a1 + v3) - v4) - v5))]) (st' := [vI 0]) (hp' := hp) (fun _ => rfl) ?_
            cases h
            exact Ex.ret rfl rfl rfl
        · rw [if_neg hc] at h
          rw [brI_lt_n hc]
          show Ex (d + 3) kX0_strikeFault 39 [some (vR (0, 0, m)), some (vI a0), some (vI a1), none] [] hp _
          refine Ex.go 1 (pc' := 40) (ls' := [some (vR (0, 0, m)), some (vI a0), some (vI a1), none]) (st' := [vI 0]) (hp' := hp) (fun _ => rfl) ?_
          cases h
          exact Ex.ret rfl rfl rfl
def fX0_noteStrike (m : Nat) (a0 : Int32) (a1 : Int32) (hp : HP) : Option HP := (fX7_put 7 m a0 a1 hp).bind fun hp3 => (fX7_at 8 m a0 hp3).bind fun v4 => (fX7_put 8 m a0 (v4 + 1) hp3).bind fun hp7 => some (up hp7 (0, 0, m) 6 a0)
theorem exX0_noteStrike {d : Nat} {m : Nat} {a0 : Int32} {a1 : Int32} {hp : HP} {v : HP} (h : fX0_noteStrike m a0 a1 hp = some v) : Calls (d + 1) 11 [vR (0, 0, m), vI a0, vI a1] hp (rsV () v) := by
  replace h : ((fX7_put 7 m a0 a1 hp).bind fun hp3 => (fX7_at 8 m a0 hp3).bind fun v4 => (fX7_put 8 m a0 (v4 + 1) hp3).bind fun hp7 => some (up hp7 (0, 0, m) 6 a0)) = some v := h
  show Ex (d + 1) kX0_noteStrike 0 [some (vR (0, 0, m)), some (vI a0), some (vI a1)] [] hp _
  refine Ex.go 4 (pc' := 6) (ls' := [some (vR (0, 0, m)), some (vI a0), some (vI a1)]) (st' := [vI a1, vI a0, vR (7, 7, m)]) (hp' := hp) (fun _ => rfl) ?_
  obtain ⟨hp3, hv, h⟩ := Option.bind_eq_some_iff.mp h
  refine Ex.call (args := [vR (7, 7, m), vI a0, vI a1]) (rest := []) rfl rfl rfl (exX7_put (d := d + 0) hv) ?_
  show Ex (d + 1) kX0_noteStrike 9 [some (vR (0, 0, m)), some (vI a0), some (vI a1)] [] hp3 _
  refine Ex.go 6 (pc' := 19) (ls' := [some (vR (0, 0, m)), some (vI a0), some (vI a1)]) (st' := [vI a0, vR (7, 8, m), vI a0, vR (7, 8, m)]) (hp' := hp3) (fun _ => rfl) ?_
  obtain ⟨v4, hv, h⟩ := Option.bind_eq_some_iff.mp h
  refine Ex.call (args := [vR (7, 8, m), vI a0]) (rest := [vI a0, vR (7, 8, m)]) rfl rfl rfl (exX7_at (d := d + 0) hv) ?_
  show Ex (d + 1) kX0_noteStrike 22 [some (vR (0, 0, m)), some (vI a0), some (vI a1)] [vI v4, vI a0, vR (7, 8, m)] hp3 _
  refine Ex.go 2 (pc' := 24) (ls' := [some (vR (0, 0, m)), some (vI a0), some (vI a1)]) (st' := [vI (v4 + 1), vI a0, vR (7, 8, m)]) (hp' := hp3) (fun _ => rfl) ?_
  obtain ⟨hp7, hv, h⟩ := Option.bind_eq_some_iff.mp h
  refine Ex.call (args := [vR (7, 8, m), vI a0, vI (v4 + 1)]) (rest := []) rfl rfl rfl (exX7_put (d := d + 0) hv) ?_
  show Ex (d + 1) kX0_noteStrike 27 [some (vR (0, 0, m)), some (vI a0), some (vI a1)] [] hp7 _
  refine Ex.go 3 (pc' := 32) (ls' := [some (vR (0, 0, m)), some (vI a0), some (vI a1)]) (st' := []) (hp' := (up hp7 (0, 0, m) 6 a0)) (fun _ => rfl) ?_
  cases h
  exact Ex.ret rfl rfl rfl
def fX0_jamWithLatest_5 (m : Nat) (hp : HP) : Option HP := some (up hp (0, 0, m) 8 (hp (0, 0, m) 6))
theorem exX0_jamWithLatest_5 {d : Nat} {m : Nat} {j1 : Option VL} {hp : HP} {v : HP} (h : fX0_jamWithLatest_5 m hp = some v) : Ex (d + 0) kX0_jamWithLatest 5 [some (vR (0, 0, m)), j1] [] hp (rsV () v) := by
  replace h : (some (up hp (0, 0, m) 8 (hp (0, 0, m) 6))) = some v := h
  refine Ex.go 4 (pc' := 13) (ls' := [some (vR (0, 0, m)), j1]) (st' := []) (hp' := (up hp (0, 0, m) 8 (hp (0, 0, m) 6))) (fun _ => rfl) ?_
  cases h
  exact Ex.ret rfl rfl rfl
def fX0_jamWithLatest (m : Nat) (a0 : Int32) (hp : HP) : Option HP := fX0_jamWithLatest_5 m (up hp (0, 0, m) 7 a0)
theorem exX0_jamWithLatest {d : Nat} {m : Nat} {a0 : Int32} {hp : HP} {v : HP} (h : fX0_jamWithLatest m a0 hp = some v) : Calls (d + 0) 12 [vR (0, 0, m), vI a0] hp (rsV () v) := by
  replace h : (fX0_jamWithLatest_5 m (up hp (0, 0, m) 7 a0)) = some v := h
  show Ex (d + 0) kX0_jamWithLatest 0 [some (vR (0, 0, m)), some (vI a0)] [] hp _
  refine Ex.go 3 (pc' := 5) (ls' := [some (vR (0, 0, m)), some (vI a0)]) (st' := []) (hp' := (up hp (0, 0, m) 7 a0)) (fun _ => rfl) ?_
  exact exX0_jamWithLatest_5 h
def fX0_free (m : Nat) (hp : HP) : Option HP := (fX7_put 7 m (hp (0, 0, m) 7) m1 hp).bind fun hp3 => (fX7_put 7 m (hp3 (0, 0, m) 8) m1 hp3).bind fun hp6 => some (up (up hp6 (0, 0, m) 7 m1) (0, 0, m) 8 m1)
theorem exX0_free {d : Nat} {m : Nat} {hp : HP} {v : HP} (h : fX0_free m hp = some v) : Calls (d + 1) 13 [vR (0, 0, m)] hp (rsV () v) := by
  replace h : ((fX7_put 7 m (hp (0, 0, m) 7) m1 hp).bind fun hp3 => (fX7_put 7 m (hp3 (0, 0, m) 8) m1 hp3).bind fun hp6 => some (up (up hp6 (0, 0, m) 7 m1) (0, 0, m) 8 m1)) = some v := h
  show Ex (d + 1) kX0_free 0 [some (vR (0, 0, m))] [] hp _
  refine Ex.go 5 (pc' := 9) (ls' := [some (vR (0, 0, m))]) (st' := [vI m1, vI (hp (0, 0, m) 7), vR (7, 7, m)]) (hp' := hp) (fun _ => rfl) ?_
  obtain ⟨hp3, hv, h⟩ := Option.bind_eq_some_iff.mp h
  refine Ex.call (args := [vR (7, 7, m), vI (hp (0, 0, m) 7), vI m1]) (rest := []) rfl rfl rfl (exX7_put (d := d + 0) hv) ?_
  show Ex (d + 1) kX0_free 12 [some (vR (0, 0, m))] [] hp3 _
  refine Ex.go 5 (pc' := 21) (ls' := [some (vR (0, 0, m))]) (st' := [vI m1, vI (hp3 (0, 0, m) 8), vR (7, 7, m)]) (hp' := hp3) (fun _ => rfl) ?_
  obtain ⟨hp6, hv, h⟩ := Option.bind_eq_some_iff.mp h
  refine Ex.call (args := [vR (7, 7, m), vI (hp3 (0, 0, m) 8), vI m1]) (rest := []) rfl rfl rfl (exX7_put (d := d + 0) hv) ?_
  show Ex (d + 1) kX0_free 24 [some (vR (0, 0, m))] [] hp6 _
  refine Ex.go 6 (pc' := 34) (ls' := [some (vR (0, 0, m))]) (st' := []) (hp' := (up (up hp6 (0, 0, m) 7 m1) (0, 0, m) 8 m1)) (fun _ => rfl) ?_
  cases h
  exact Ex.ret rfl rfl rfl
def fX0_leastPace_76 (m : Nat) (x6 : Int32) (hp : HP) : Option Int32 := some x6
theorem exX0_leastPace_76 {d : Nat} {m : Nat} {x6 : Int32} {j1 : Option VL} {j2 : Option VL} {j3 : Option VL} {j4 : Option VL} {j5 : Option VL} {j7 : Option VL} {hp : HP} {v : Int32} (h : fX0_leastPace_76 m x6 hp = some v) : Ex (d + 2) kX0_leastPace 76 [some (vR (0, 0, m)), j1, j2, j3, j4, j5, some (vI x6), j7] [] hp (rsI v hp) := by
  replace h : (some x6) = some v := h
  refine Ex.go 1 (pc' := 78) (ls' := [some (vR (0, 0, m)), j1, j2, j3, j4, j5, some (vI x6), j7]) (st' := [vI x6]) (hp' := hp) (fun _ => rfl) ?_
  cases h
  exact Ex.ret rfl rfl rfl
def fX0_leastPace_63 (m : Nat) (x1 : Int32) (x2 : Int32) (x3 : Int32) (x4 : Int32) (x5 : Int32) (x6 : Int32) (y0 : Int32) (k32 : Int32 → Int32 → Int32 → Int32 → Int32 → Int32 → HP → Option Int32) (hp : HP) : Option Int32 := if x6 < x3 then (if y0 = 0 then (k32 x1 x2 x3 x4 x5 (x6 + 1) hp) else (fX0_leastPace_76 m x6 hp)) else (fX0_leastPace_76 m x6 hp)
theorem exX0_leastPace_63 {d : Nat} {m : Nat} {x1 : Int32} {x2 : Int32} {x3 : Int32} {x4 : Int32} {x5 : Int32} {x6 : Int32} {y0 : Int32} {j7 : Option VL} {hp : HP} {v : Int32} {k32 : Int32 → Int32 → Int32 → Int32 → Int32 → Int32 → HP → Option Int32} (hk32 : ∀ (x1 : Int32) (x2 : Int32) (x3 : Int32) (x4 : Int32) (x5 : Int32) (x6 : Int32) (j7 : Option VL) (hp : HP) (v : Int32), k32 x1 x2 x3 x4 x5 x6 hp = some v → Ex (d + 2) kX0_leastPace 32 [some (vR (0, 0, m)), some (vI x1), some (vI x2), some (vI x3), some (vI x4), some (vI x5), some (vI x6), j7] [] hp (rsI v hp)) (h : fX0_leastPace_63 m x1 x2 x3 x4 x5 x6 y0 k32 hp = some v) : Ex (d + 2) kX0_leastPace 63 [some (vR (0, 0, m)), some (vI x1), some (vI x2), some (vI x3), some (vI x4), some (vI x5), some (vI x6), j7] [vI y0] hp (rsI v hp) := by
  replace h : (if x6 < x3 then (if y0 = 0 then (k32 x1 x2 x3 x4 x5 (x6 + 1) hp) else (fX0_leastPace_76 m x6 hp)) else (fX0_leastPace_76 m x6 hp)) = some v := h
  refine Ex.go 3 (pc' := 68) (ls' := [some (vR (0, 0, m)), some (vI x1), some (vI x2), some (vI x3), some (vI x4), some (vI x5), some (vI x6), some (vI y0)]) (st' := [vI x3, vI x6]) (hp' := hp) (fun _ => rfl) ?_
  refine Ex.icmp rfl ?_
  by_cases hc : x6 < x3
  · rw [if_pos hc] at h
    rw [brI_ge_p hc]
    show Ex (d + 2) kX0_leastPace 71 [some (vR (0, 0, m)), some (vI x1), some (vI x2), some (vI x3), some (vI x4), some (vI x5), some (vI x6), some (vI y0)] [] hp _
    refine Ex.go 1 (pc' := 73) (ls' := [some (vR (0, 0, m)), some (vI x1), some (vI x2), some (vI x3), some (vI x4), some (vI x5), some (vI x6), some (vI y0)]) (st' := [vI y0]) (hp' := hp) (fun _ => rfl) ?_
    refine Ex.ifc rfl ?_
    by_cases hc : y0 = 0
    · rw [if_pos hc] at h
      rw [brI_eq_p hc]
      show Ex (d + 2) kX0_leastPace 79 [some (vR (0, 0, m)), some (vI x1), some (vI x2), some (vI x3), some (vI x4), some (vI x5), some (vI x6), some (vI y0)] [] hp _
      refine Ex.go 2 (pc' := 32) (ls' := [some (vR (0, 0, m)), some (vI x1), some (vI x2), some (vI x3), some (vI x4), some (vI x5), some (vI (x6 + 1)), some (vI y0)]) (st' := []) (hp' := hp) (fun _ => rfl) ?_
      exact hk32 _ _ _ _ _ _ _ _ _ h
    · rw [if_neg hc] at h
      rw [brI_eq_n hc]
      show Ex (d + 2) kX0_leastPace 76 [some (vR (0, 0, m)), some (vI x1), some (vI x2), some (vI x3), some (vI x4), some (vI x5), some (vI x6), some (vI y0)] [] hp _
      exact exX0_leastPace_76 h
  · rw [if_neg hc] at h
    rw [brI_ge_n hc]
    show Ex (d + 2) kX0_leastPace 76 [some (vR (0, 0, m)), some (vI x1), some (vI x2), some (vI x3), some (vI x4), some (vI x5), some (vI x6), some (vI y0)] [] hp _
    exact exX0_leastPace_76 h
def fX0_leastPace_62 (m : Nat) (x1 : Int32) (x2 : Int32) (x3 : Int32) (x4 : Int32) (x5 : Int32) (x6 : Int32) (k32 : Int32 → Int32 → Int32 → Int32 → Int32 → Int32 → HP → Option Int32) (hp : HP) : Option Int32 := fX0_leastPace_63 m x1 x2 x3 x4 x5 x6 0 k32 hp
theorem exX0_leastPace_62 {d : Nat} {m : Nat} {x1 : Int32} {x2 : Int32} {x3 : Int32} {x4 : Int32} {x5 : Int32} {x6 : Int32} {j7 : Option VL} {hp : HP} {v : Int32} {k32 : Int32 → Int32 → Int32 → Int32 → Int32 → Int32 → HP → Option Int32} (hk32 : ∀ (x1 : Int32) (x2 : Int32) (x3 : Int32) (x4 : Int32) (x5 : Int32) (x6 : Int32) (j7 : Option VL) (hp : HP) (v : Int32), k32 x1 x2 x3 x4 x5 x6 hp = some v → Ex (d + 2) kX0_leastPace 32 [some (vR (0, 0, m)), some (vI x1), some (vI x2), some (vI x3), some (vI x4), some (vI x5), some (vI x6), j7] [] hp (rsI v hp)) (h : fX0_leastPace_62 m x1 x2 x3 x4 x5 x6 k32 hp = some v) : Ex (d + 2) kX0_leastPace 62 [some (vR (0, 0, m)), some (vI x1), some (vI x2), some (vI x3), some (vI x4), some (vI x5), some (vI x6), j7] [] hp (rsI v hp) := by
  replace h : (fX0_leastPace_63 m x1 x2 x3 x4 x5 x6 0 k32 hp) = some v := h
  refine Ex.go 1 (pc' := 63) (ls' := [some (vR (0, 0, m)), some (vI x1), some (vI x2), some (vI x3), some (vI x4), some (vI x5), some (vI x6), j7]) (st' := [vI 0]) (hp' := hp) (fun _ => rfl) ?_
  exact exX0_leastPace_63 hk32 h
def fX0_leastPace_32 (n : Nat) (m : Nat) (x1 : Int32) (x2 : Int32) (x3 : Int32) (x4 : Int32) (x5 : Int32) (x6 : Int32) (hp : HP) : Option Int32 := match n with
  | 0 => none
  | n + 1 => if 999 < x6 then (some m1) else (if x1 = x2 then (fX0_leastPace_62 m x1 x2 x3 x4 x5 x6 (fun x1 x2 x3 x4 x5 x6 hq => fX0_leastPace_32 n m x1 x2 x3 x4 x5 x6 hq) hp) else (if (iabs (x6 + x4)) < x5 then (fX0_leastPace_62 m x1 x2 x3 x4 x5 x6 (fun x1 x2 x3 x4 x5 x6 hq => fX0_leastPace_32 n m x1 x2 x3 x4 x5 x6 hq) hp) else (fX0_leastPace_63 m x1 x2 x3 x4 x5 x6 1 (fun x1 x2 x3 x4 x5 x6 hq => fX0_leastPace_32 n m x1 x2 x3 x4 x5 x6 hq) hp)))
theorem exX0_leastPace_32 {d : Nat} {m : Nat} : ∀ (n : Nat) (x1 : Int32) (x2 : Int32) (x3 : Int32) (x4 : Int32) (x5 : Int32) (x6 : Int32) (j7 : Option VL) (hp : HP) (v : Int32), fX0_leastPace_32 n m x1 x2 x3 x4 x5 x6 hp = some v → Ex (d + 2) kX0_leastPace 32 [some (vR (0, 0, m)), some (vI x1), some (vI x2), some (vI x3), some (vI x4), some (vI x5), some (vI x6), j7] [] hp (rsI v hp) := by
  intro n
  induction n with
  | zero =>
    intro x1 x2 x3 x4 x5 x6 j7 hp v h
    cases h
  | succ n ih =>
    intro x1 x2 x3 x4 x5 x6 j7 hp v h
    replace h : (if 999 < x6 then (some m1) else (if x1 = x2 then (fX0_leastPace_62 m x1 x2 x3 x4 x5 x6 (fun x1 x2 x3 x4 x5 x6 hq => fX0_leastPace_32 n m x1 x2 x3 x4 x5 x6 hq) hp) else (if (iabs (x6 + x4)) < x5 then (fX0_leastPace_62 m x1 x2 x3 x4 x5 x6 (fun x1 x2 x3 x4 x5 x6 hq => fX0_leastPace_32 n m x1 x2 x3 x4 x5 x6 hq) hp) else (fX0_leastPace_63 m x1 x2 x3 x4 x5 x6 1 (fun x1 x2 x3 x4 x5 x6 hq => fX0_leastPace_32 n m x1 x2 x3 x4 x5 x6 hq) hp)))) = some v := h
    refine Ex.go 2 (pc' := 37) (ls' := [some (vR (0, 0, m)), some (vI x1), some (vI x2), some (vI x3), some (vI x4), some (vI x5), some (vI x6), j7]) (st' := [vI 999, vI x6]) (hp' := hp) (fun _ => rfl) ?_
    refine Ex.icmp rfl ?_
    by_cases hc : 999 < x6
    · rw [if_pos hc] at h
      rw [brI_gt_p hc]
      show Ex (d + 2) kX0_leastPace 85 [some (vR (0, 0, m)), some (vI x1), some (vI x2), some (vI x3), some (vI x4), some (vI x5), some (vI x6), j7] [] hp _
      refine Ex.go 1 (pc' := 86) (ls' := [some (vR (0, 0, m)), some (vI x1), some (vI x2), some (vI x3), some (vI x4), some (vI x5), some (vI x6), j7]) (st' := [vI m1]) (hp' := hp) (fun _ => rfl) ?_
      cases h
      exact Ex.ret rfl rfl rfl
    · rw [if_neg hc] at h
      rw [brI_gt_n hc]
      show Ex (d + 2) kX0_leastPace 40 [some (vR (0, 0, m)), some (vI x1), some (vI x2), some (vI x3), some (vI x4), some (vI x5), some (vI x6), j7] [] hp _
      refine Ex.go 2 (pc' := 42) (ls' := [some (vR (0, 0, m)), some (vI x1), some (vI x2), some (vI x3), some (vI x4), some (vI x5), some (vI x6), j7]) (st' := [vI x2, vI x1]) (hp' := hp) (fun _ => rfl) ?_
      refine Ex.icmp rfl ?_
      by_cases hc : x1 = x2
      · rw [if_pos hc] at h
        rw [brI_eq_p hc]
        show Ex (d + 2) kX0_leastPace 62 [some (vR (0, 0, m)), some (vI x1), some (vI x2), some (vI x3), some (vI x4), some (vI x5), some (vI x6), j7] [] hp _
        exact exX0_leastPace_62 (fun q0 q1 q2 q3 q4 q5 q6 q7 q8 hv => ih q0 q1 q2 q3 q4 q5 q6 q7 q8 hv) h
      · rw [if_neg hc] at h
        rw [brI_eq_n hc]
        show Ex (d + 2) kX0_leastPace 45 [some (vR (0, 0, m)), some (vI x1), some (vI x2), some (vI x3), some (vI x4), some (vI x5), some (vI x6), j7] [] hp _
        refine Ex.go 5 (pc' := 55) (ls' := [some (vR (0, 0, m)), some (vI x1), some (vI x2), some (vI x3), some (vI x4), some (vI x5), some (vI x6), j7]) (st' := [vI x5, vI (iabs (x6 + x4))]) (hp' := hp) (fun _ => rfl) ?_
        refine Ex.icmp rfl ?_
        by_cases hc : (iabs (x6 + x4)) < x5
        · rw [if_pos hc] at h
          rw [brI_lt_p hc]
          show Ex (d + 2) kX0_leastPace 62 [some (vR (0, 0, m)), some (vI x1), some (vI x2), some (vI x3), some (vI x4), some (vI x5), some (vI x6), j7] [] hp _
          exact exX0_leastPace_62 (fun q0 q1 q2 q3 q4 q5 q6 q7 q8 hv => ih q0 q1 q2 q3 q4 q5 q6 q7 q8 hv) h
        · rw [if_neg hc] at h
          rw [brI_lt_n hc]
          show Ex (d + 2) kX0_leastPace 58 [some (vR (0, 0, m)), some (vI x1), some (vI x2), some (vI x3), some (vI x4), some (vI x5), some (vI x6), j7] [] hp _
          refine Ex.go 2 (pc' := 63) (ls' := [some (vR (0, 0, m)), some (vI x1), some (vI x2), some (vI x3), some (vI x4), some (vI x5), some (vI x6), j7]) (st' := [vI 1]) (hp' := hp) (fun _ => rfl) ?_
          exact exX0_leastPace_63 (fun q0 q1 q2 q3 q4 q5 q6 q7 q8 hv => ih q0 q1 q2 q3 q4 q5 q6 q7 q8 hv) h
def fX0_leastPace (m : Nat) (a0 : Int32) (a1 : Int32) (hp : HP) : Option Int32 := (fX0_riseOf m a0 hp).bind fun v1 => (fX0_riseOf m a1 hp).bind fun v2 => (fX0_riseOf m a0 hp).bind fun v3 => (fX0_roomOf m a0 a1 hp).bind fun v4 => fX0_leastPace_32 FU m a0 a1 (2 * v1) (v2 - v3) v4 1 hp
theorem exX0_leastPace {d : Nat} {m : Nat} {a0 : Int32} {a1 : Int32} {hp : HP} {v : Int32} (h : fX0_leastPace m a0 a1 hp = some v) : Calls (d + 2) 14 [vR (0, 0, m), vI a0, vI a1] hp (rsI v hp) := by
  replace h : ((fX0_riseOf m a0 hp).bind fun v1 => (fX0_riseOf m a1 hp).bind fun v2 => (fX0_riseOf m a0 hp).bind fun v3 => (fX0_roomOf m a0 a1 hp).bind fun v4 => fX0_leastPace_32 FU m a0 a1 (2 * v1) (v2 - v3) v4 1 hp) = some v := h
  show Ex (d + 2) kX0_leastPace 0 [some (vR (0, 0, m)), some (vI a0), some (vI a1), none, none, none, none, none] [] hp _
  refine Ex.go 3 (pc' := 3) (ls' := [some (vR (0, 0, m)), some (vI a0), some (vI a1), none, none, none, none, none]) (st' := [vI a0, vR (0, 0, m), vI 2]) (hp' := hp) (fun _ => rfl) ?_
  obtain ⟨v1, hv, h⟩ := Option.bind_eq_some_iff.mp h
  refine Ex.call (args := [vR (0, 0, m), vI a0]) (rest := [vI 2]) rfl rfl rfl (exX0_riseOf (d := d + 0) hv) ?_
  show Ex (d + 2) kX0_leastPace 6 [some (vR (0, 0, m)), some (vI a0), some (vI a1), none, none, none, none, none] [vI v1, vI 2] hp _
  refine Ex.go 4 (pc' := 10) (ls' := [some (vR (0, 0, m)), some (vI a0), some (vI a1), some (vI (2 * v1)), none, none, none, none]) (st' := [vI a1, vR (0, 0, m)]) (hp' := hp) (fun _ => rfl) ?_
  obtain ⟨v2, hv, h⟩ := Option.bind_eq_some_iff.mp h
  refine Ex.call (args := [vR (0, 0, m), vI a1]) (rest := []) rfl rfl rfl (exX0_riseOf (d := d + 0) hv) ?_
  show Ex (d + 2) kX0_leastPace 13 [some (vR (0, 0, m)), some (vI a0), some (vI a1), some (vI (2 * v1)), none, none, none, none] [vI v2] hp _
  refine Ex.go 2 (pc' := 15) (ls' := [some (vR (0, 0, m)), some (vI a0), some (vI a1), some (vI (2 * v1)), none, none, none, none]) (st' := [vI a0, vR (0, 0, m), vI v2]) (hp' := hp) (fun _ => rfl) ?_
  obtain ⟨v3, hv, h⟩ := Option.bind_eq_some_iff.mp h
  refine Ex.call (args := [vR (0, 0, m), vI a0]) (rest := [vI v2]) rfl rfl rfl (exX0_riseOf (d := d + 0) hv) ?_
  show Ex (d + 2) kX0_leastPace 18 [some (vR (0, 0, m)), some (vI a0), some (vI a1), some (vI (2 * v1)), none, none, none, none] [vI v3, vI v2] hp _
  refine Ex.go 5 (pc' := 24) (ls' := [some (vR (0, 0, m)), some (vI a0), some (vI a1), some (vI (2 * v1)), some (vI (v2 - v3)), none, none, none]) (st' := [vI a1, vI a0, vR (0, 0, m)]) (hp' := hp) (fun _ => rfl) ?_
  obtain ⟨v4, hv, h⟩ := Option.bind_eq_some_iff.mp h
  refine Ex.call (args := [vR (0, 0, m), vI a0, vI a1]) (rest := []) rfl rfl rfl (exX0_roomOf (d := d + 0) hv) ?_
  show Ex (d + 2) kX0_leastPace 27 [some (vR (0, 0, m)), some (vI a0), some (vI a1), some (vI (2 * v1)), some (vI (v2 - v3)), none, none, none] [vI v4] hp _
  refine Ex.go 3 (pc' := 32) (ls' := [some (vR (0, 0, m)), some (vI a0), some (vI a1), some (vI (2 * v1)), some (vI (v2 - v3)), some (vI v4), some (vI 1), none]) (st' := []) (hp' := hp) (fun _ => rfl) ?_
  exact exX0_leastPace_32 FU _ _ _ _ _ _ _ _ _ h
def fX0_slowestPair_68 (m : Nat) (x1 : Int32) (x2 : Int32) (x3 : Int32) (x4 : Int32) (k6 : Int32 → Int32 → Int32 → HP → Option Int32) (k17 : Int32 → Int32 → Int32 → Int32 → HP → Option Int32) (hp : HP) : Option Int32 := k17 x1 x2 x3 (x4 + 1) hp
theorem exX0_slowestPair_68 {d : Nat} {m : Nat} {x1 : Int32} {x2 : Int32} {x3 : Int32} {x4 : Int32} {j5 : Option VL} {j6 : Option VL} {hp : HP} {v : Int32} {k6 : Int32 → Int32 → Int32 → HP → Option Int32} {k17 : Int32 → Int32 → Int32 → Int32 → HP → Option Int32} (hk6 : ∀ (x1 : Int32) (x2 : Int32) (x3 : Int32) (j4 : Option VL) (j5 : Option VL) (j6 : Option VL) (hp : HP) (v : Int32), k6 x1 x2 x3 hp = some v → Ex (d + 3) kX0_slowestPair 6 [some (vR (0, 0, m)), some (vI x1), some (vI x2), some (vI x3), j4, j5, j6] [] hp (rsI v hp)) (hk17 : ∀ (x1 : Int32) (x2 : Int32) (x3 : Int32) (x4 : Int32) (j5 : Option VL) (j6 : Option VL) (hp : HP) (v : Int32), k17 x1 x2 x3 x4 hp = some v → Ex (d + 3) kX0_slowestPair 17 [some (vR (0, 0, m)), some (vI x1), some (vI x2), some (vI x3), some (vI x4), j5, j6] [] hp (rsI v hp)) (h : fX0_slowestPair_68 m x1 x2 x3 x4 k6 k17 hp = some v) : Ex (d + 3) kX0_slowestPair 68 [some (vR (0, 0, m)), some (vI x1), some (vI x2), some (vI x3), some (vI x4), j5, j6] [] hp (rsI v hp) := by
  replace h : (k17 x1 x2 x3 (x4 + 1) hp) = some v := h
  refine Ex.go 2 (pc' := 17) (ls' := [some (vR (0, 0, m)), some (vI x1), some (vI x2), some (vI x3), some (vI (x4 + 1)), j5, j6]) (st' := []) (hp' := hp) (fun _ => rfl) ?_
  exact hk17 _ _ _ _ _ _ _ _ h
def fX0_slowestPair_49 (m : Nat) (x1 : Int32) (x2 : Int32) (x3 : Int32) (x4 : Int32) (y0 : Int32) (k6 : Int32 → Int32 → Int32 → HP → Option Int32) (k17 : Int32 → Int32 → Int32 → Int32 → HP → Option Int32) (hp : HP) : Option Int32 := if x2 < y0 then (fX0_slowestPair_68 m ((100 * x3) + x4) y0 x3 x4 k6 k17 hp) else (fX0_slowestPair_68 m x1 x2 x3 x4 k6 k17 hp)
theorem exX0_slowestPair_49 {d : Nat} {m : Nat} {x1 : Int32} {x2 : Int32} {x3 : Int32} {x4 : Int32} {y0 : Int32} {j5 : Option VL} {j6 : Option VL} {hp : HP} {v : Int32} {k6 : Int32 → Int32 → Int32 → HP → Option Int32} {k17 : Int32 → Int32 → Int32 → Int32 → HP → Option Int32} (hk6 : ∀ (x1 : Int32) (x2 : Int32) (x3 : Int32) (j4 : Option VL) (j5 : Option VL) (j6 : Option VL) (hp : HP) (v : Int32), k6 x1 x2 x3 hp = some v → Ex (d + 3) kX0_slowestPair 6 [some (vR (0, 0, m)), some (vI x1), some (vI x2), some (vI x3), j4, j5, j6] [] hp (rsI v hp)) (hk17 : ∀ (x1 : Int32) (x2 : Int32) (x3 : Int32) (x4 : Int32) (j5 : Option VL) (j6 : Option VL) (hp : HP) (v : Int32), k17 x1 x2 x3 x4 hp = some v → Ex (d + 3) kX0_slowestPair 17 [some (vR (0, 0, m)), some (vI x1), some (vI x2), some (vI x3), some (vI x4), j5, j6] [] hp (rsI v hp)) (h : fX0_slowestPair_49 m x1 x2 x3 x4 y0 k6 k17 hp = some v) : Ex (d + 3) kX0_slowestPair 49 [some (vR (0, 0, m)), some (vI x1), some (vI x2), some (vI x3), some (vI x4), j5, j6] [vI y0] hp (rsI v hp) := by
  replace h : (if x2 < y0 then (fX0_slowestPair_68 m ((100 * x3) + x4) y0 x3 x4 k6 k17 hp) else (fX0_slowestPair_68 m x1 x2 x3 x4 k6 k17 hp)) = some v := h
  refine Ex.go 3 (pc' := 54) (ls' := [some (vR (0, 0, m)), some (vI x1), some (vI x2), some (vI x3), some (vI x4), j5, some (vI y0)]) (st' := [vI x2, vI y0]) (hp' := hp) (fun _ => rfl) ?_
  refine Ex.icmp rfl ?_
  by_cases hc : x2 < y0
  · rw [if_pos hc] at h
    rw [brI_le_p hc]
    show Ex (d + 3) kX0_slowestPair 57 [some (vR (0, 0, m)), some (vI x1), some (vI x2), some (vI x3), some (vI x4), j5, some (vI y0)] [] hp _
    refine Ex.go 8 (pc' := 68) (ls' := [some (vR (0, 0, m)), some (vI ((100 * x3) + x4)), some (vI y0), some (vI x3), some (vI x4), j5, some (vI y0)]) (st' := []) (hp' := hp) (fun _ => rfl) ?_
    exact exX0_slowestPair_68 hk6 hk17 h
  · rw [if_neg hc] at h
    rw [brI_le_n hc]
    show Ex (d + 3) kX0_slowestPair 68 [some (vR (0, 0, m)), some (vI x1), some (vI x2), some (vI x3), some (vI x4), j5, some (vI y0)] [] hp _
    exact exX0_slowestPair_68 hk6 hk17 h
def fX0_slowestPair_17 (n : Nat) (m : Nat) (x1 : Int32) (x2 : Int32) (x3 : Int32) (x4 : Int32) (k6 : Int32 → Int32 → Int32 → HP → Option Int32) (hp : HP) : Option Int32 := match n with
  | 0 => none
  | n + 1 => if x4 < (hp (0, 0, m) 5) then ((fX0_leastPace m x3 x4 hp).bind fun v1 => if v1 = m1 then (fX0_slowestPair_49 m x1 x2 x3 x4 1000 k6 (fun x1 x2 x3 x4 hq => fX0_slowestPair_17 n m x1 x2 x3 x4 k6 hq) hp) else (fX0_slowestPair_49 m x1 x2 x3 x4 v1 k6 (fun x1 x2 x3 x4 hq => fX0_slowestPair_17 n m x1 x2 x3 x4 k6 hq) hp)) else (k6 x1 x2 (x3 + 1) hp)
theorem exX0_slowestPair_17 {d : Nat} {m : Nat} {k6 : Int32 → Int32 → Int32 → HP → Option Int32} (hk6 : ∀ (x1 : Int32) (x2 : Int32) (x3 : Int32) (j4 : Option VL) (j5 : Option VL) (j6 : Option VL) (hp : HP) (v : Int32), k6 x1 x2 x3 hp = some v → Ex (d + 3) kX0_slowestPair 6 [some (vR (0, 0, m)), some (vI x1), some (vI x2), some (vI x3), j4, j5, j6] [] hp (rsI v hp)) : ∀ (n : Nat) (x1 : Int32) (x2 : Int32) (x3 : Int32) (x4 : Int32) (j5 : Option VL) (j6 : Option VL) (hp : HP) (v : Int32), fX0_slowestPair_17 n m x1 x2 x3 x4 k6 hp = some v → Ex (d + 3) kX0_slowestPair 17 [some (vR (0, 0, m)), some (vI x1), some (vI x2), some (vI x3), some (vI x4), j5, j6] [] hp (rsI v hp) := by
  intro n
  induction n with
  | zero =>
    intro x1 x2 x3 x4 j5 j6 hp v h
    cases h
  | succ n ih =>
    intro x1 x2 x3 x4 j5 j6 hp v h
    replace h : (if x4 < (hp (0, 0, m) 5) then ((fX0_leastPace m x3 x4 hp).bind fun v1 => if v1 = m1 then (fX0_slowestPair_49 m x1 x2 x3 x4 1000 k6 (fun x1 x2 x3 x4 hq => fX0_slowestPair_17 n m x1 x2 x3 x4 k6 hq) hp) else (fX0_slowestPair_49 m x1 x2 x3 x4 v1 k6 (fun x1 x2 x3 x4 hq => fX0_slowestPair_17 n m x1 x2 x3 x4 k6 hq) hp)) else (k6 x1 x2 (x3 + 1) hp)) = some v := h
    refine Ex.go 3 (pc' := 23) (ls' := [some (vR (0, 0, m)), some (vI x1), some (vI x2), some (vI x3), some (vI x4), j5, j6]) (st' := [vI (hp (0, 0, m) 5), vI x4]) (hp' := hp) (fun _ => rfl) ?_
    refine Ex.icmp rfl ?_
    by_cases hc : x4 < (hp (0, 0, m) 5)
    · rw [if_pos hc] at h
      rw [brI_ge_p hc]
      show Ex (d + 3) kX0_slowestPair 26 [some (vR (0, 0, m)), some (vI x1), some (vI x2), some (vI x3), some (vI x4), j5, j6] [] hp _
      refine Ex.go 3 (pc' := 30) (ls' := [some (vR (0, 0, m)), some (vI x1), some (vI x2), some (vI x3), some (vI x4), j5, j6]) (st' := [vI x4, vI x3, vR (0, 0, m)]) (hp' := hp) (fun _ => rfl) ?_
      obtain ⟨v1, hv, h⟩ := Option.bind_eq_some_iff.mp h
      refine Ex.call (args := [vR (0, 0, m), vI x3, vI x4]) (rest := []) rfl rfl rfl (exX0_leastPace (d := d + 0) hv) ?_
      show Ex (d + 3) kX0_slowestPair 33 [some (vR (0, 0, m)), some (vI x1), some (vI x2), some (vI x3), some (vI x4), j5, j6] [vI v1] hp _
      refine Ex.go 3 (pc' := 38) (ls' := [some (vR (0, 0, m)), some (vI x1), some (vI x2), some (vI x3), some (vI x4), some (vI v1), j6]) (st' := [vI m1, vI v1]) (hp' := hp) (fun _ => rfl) ?_
      refine Ex.icmp rfl ?_
      by_cases hc : v1 = m1
      · rw [if_pos hc] at h
        rw [brI_ne_p hc]
        show Ex (d + 3) kX0_slowestPair 41 [some (vR (0, 0, m)), some (vI x1), some (vI x2), some (vI x3), some (vI x4), some (vI v1), j6] [] hp _
        refine Ex.go 2 (pc' := 49) (ls' := [some (vR (0, 0, m)), some (vI x1), some (vI x2), some (vI x3), some (vI x4), some (vI v1), j6]) (st' := [vI 1000]) (hp' := hp) (fun _ => rfl) ?_
        exact exX0_slowestPair_49 hk6 (fun q0 q1 q2 q3 q4 q5 q6 q7 hv => ih q0 q1 q2 q3 q4 q5 q6 q7 hv) h
      · rw [if_neg hc] at h
        rw [brI_ne_n hc]
        show Ex (d + 3) kX0_slowestPair 47 [some (vR (0, 0, m)), some (vI x1), some (vI x2), some (vI x3), some (vI x4), some (vI v1), j6] [] hp _
        refine Ex.go 1 (pc' := 49) (ls' := [some (vR (0, 0, m)), some (vI x1), some (vI x2), some (vI x3), some (vI x4), some (vI v1), j6]) (st' := [vI v1]) (hp' := hp) (fun _ => rfl) ?_
        exact exX0_slowestPair_49 hk6 (fun q0 q1 q2 q3 q4 q5 q6 q7 hv => ih q0 q1 q2 q3 q4 q5 q6 q7 hv) h
    · rw [if_neg hc] at h
      rw [brI_ge_n hc]
      show Ex (d + 3) kX0_slowestPair 74 [some (vR (0, 0, m)), some (vI x1), some (vI x2), some (vI x3), some (vI x4), j5, j6] [] hp _
      refine Ex.go 2 (pc' := 6) (ls' := [some (vR (0, 0, m)), some (vI x1), some (vI x2), some (vI (x3 + 1)), some (vI x4), j5, j6]) (st' := []) (hp' := hp) (fun _ => rfl) ?_
      exact hk6 _ _ _ _ _ _ _ _ h
def fX0_slowestPair_6 (n : Nat) (m : Nat) (x1 : Int32) (x2 : Int32) (x3 : Int32) (hp : HP) : Option Int32 := match n with
  | 0 => none
  | n + 1 => if x3 < (hp (0, 0, m) 5) then (fX0_slowestPair_17 FU m x1 x2 x3 0 (fun x1 x2 x3 hq => fX0_slowestPair_6 n m x1 x2 x3 hq) hp) else (some x1)
theorem exX0_slowestPair_6 {d : Nat} {m : Nat} : ∀ (n : Nat) (x1 : Int32) (x2 : Int32) (x3 : Int32) (j4 : Option VL) (j5 : Option VL) (j6 : Option VL) (hp : HP) (v : Int32), fX0_slowestPair_6 n m x1 x2 x3 hp = some v → Ex (d + 3) kX0_slowestPair 6 [some (vR (0, 0, m)), some (vI x1), some (vI x2), some (vI x3), j4, j5, j6] [] hp (rsI v hp) := by
  intro n
  induction n with
  | zero =>
    intro x1 x2 x3 j4 j5 j6 hp v h
    cases h
  | succ n ih =>
    intro x1 x2 x3 j4 j5 j6 hp v h
    replace h : (if x3 < (hp (0, 0, m) 5) then (fX0_slowestPair_17 FU m x1 x2 x3 0 (fun x1 x2 x3 hq => fX0_slowestPair_6 n m x1 x2 x3 hq) hp) else (some x1)) = some v := h
    refine Ex.go 3 (pc' := 11) (ls' := [some (vR (0, 0, m)), some (vI x1), some (vI x2), some (vI x3), j4, j5, j6]) (st' := [vI (hp (0, 0, m) 5), vI x3]) (hp' := hp) (fun _ => rfl) ?_
    refine Ex.icmp rfl ?_
    by_cases hc : x3 < (hp (0, 0, m) 5)
    · rw [if_pos hc] at h
      rw [brI_ge_p hc]
      show Ex (d + 3) kX0_slowestPair 14 [some (vR (0, 0, m)), some (vI x1), some (vI x2), some (vI x3), j4, j5, j6] [] hp _
      refine Ex.go 2 (pc' := 17) (ls' := [some (vR (0, 0, m)), some (vI x1), some (vI x2), some (vI x3), some (vI 0), j5, j6]) (st' := []) (hp' := hp) (fun _ => rfl) ?_
      exact exX0_slowestPair_17 (fun q0 q1 q2 q3 q4 q5 q6 q7 hv => ih q0 q1 q2 q3 q4 q5 q6 q7 hv) FU _ _ _ _ _ _ _ _ h
    · rw [if_neg hc] at h
      rw [brI_ge_n hc]
      show Ex (d + 3) kX0_slowestPair 80 [some (vR (0, 0, m)), some (vI x1), some (vI x2), some (vI x3), j4, j5, j6] [] hp _
      refine Ex.go 1 (pc' := 81) (ls' := [some (vR (0, 0, m)), some (vI x1), some (vI x2), some (vI x3), j4, j5, j6]) (st' := [vI x1]) (hp' := hp) (fun _ => rfl) ?_
      cases h
      exact Ex.ret rfl rfl rfl
def fX0_slowestPair (m : Nat) (hp : HP) : Option Int32 := fX0_slowestPair_6 FU m m1 0 0 hp
theorem exX0_slowestPair {d : Nat} {m : Nat} {hp : HP} {v : Int32} (h : fX0_slowestPair m hp = some v) : Calls (d + 3) 15 [vR (0, 0, m)] hp (rsI v hp) := by
  replace h : (fX0_slowestPair_6 FU m m1 0 0 hp) = some v := h
  show Ex (d + 3) kX0_slowestPair 0 [some (vR (0, 0, m)), none, none, none, none, none, none] [] hp _
  refine Ex.go 6 (pc' := 6) (ls' := [some (vR (0, 0, m)), some (vI m1), some (vI 0), some (vI 0), none, none, none]) (st' := []) (hp' := hp) (fun _ => rfl) ?_
  exact exX0_slowestPair_6 FU _ _ _ _ _ _ _ _ h
def fX0_withGreatestRise_32 (m : Nat) (x1 : Int32) (x2 : Int32) (k4 : Int32 → Int32 → HP → Option Int32) (hp : HP) : Option Int32 := k4 x1 (x2 + 1) hp
theorem exX0_withGreatestRise_32 {d : Nat} {m : Nat} {x1 : Int32} {x2 : Int32} {hp : HP} {v : Int32} {k4 : Int32 → Int32 → HP → Option Int32} (hk4 : ∀ (x1 : Int32) (x2 : Int32) (hp : HP) (v : Int32), k4 x1 x2 hp = some v → Ex (d + 2) kX0_withGreatestRise 4 [some (vR (0, 0, m)), some (vI x1), some (vI x2)] [] hp (rsI v hp)) (h : fX0_withGreatestRise_32 m x1 x2 k4 hp = some v) : Ex (d + 2) kX0_withGreatestRise 32 [some (vR (0, 0, m)), some (vI x1), some (vI x2)] [] hp (rsI v hp) := by
  replace h : (k4 x1 (x2 + 1) hp) = some v := h
  refine Ex.go 2 (pc' := 4) (ls' := [some (vR (0, 0, m)), some (vI x1), some (vI (x2 + 1))]) (st' := []) (hp' := hp) (fun _ => rfl) ?_
  exact hk4 _ _ _ _ h
def fX0_withGreatestRise_30 (m : Nat) (x2 : Int32) (k4 : Int32 → Int32 → HP → Option Int32) (hp : HP) : Option Int32 := fX0_withGreatestRise_32 m x2 x2 k4 hp
theorem exX0_withGreatestRise_30 {d : Nat} {m : Nat} {x2 : Int32} {j1 : Option VL} {hp : HP} {v : Int32} {k4 : Int32 → Int32 → HP → Option Int32} (hk4 : ∀ (x1 : Int32) (x2 : Int32) (hp : HP) (v : Int32), k4 x1 x2 hp = some v → Ex (d + 2) kX0_withGreatestRise 4 [some (vR (0, 0, m)), some (vI x1), some (vI x2)] [] hp (rsI v hp)) (h : fX0_withGreatestRise_30 m x2 k4 hp = some v) : Ex (d + 2) kX0_withGreatestRise 30 [some (vR (0, 0, m)), j1, some (vI x2)] [] hp (rsI v hp) := by
  replace h : (fX0_withGreatestRise_32 m x2 x2 k4 hp) = some v := h
  refine Ex.go 2 (pc' := 32) (ls' := [some (vR (0, 0, m)), some (vI x2), some (vI x2)]) (st' := []) (hp' := hp) (fun _ => rfl) ?_
  exact exX0_withGreatestRise_32 hk4 h
def fX0_withGreatestRise_4 (n : Nat) (m : Nat) (x1 : Int32) (x2 : Int32) (hp : HP) : Option Int32 := match n with
  | 0 => none
  | n + 1 => if x2 < (hp (0, 0, m) 5) then (if x1 = m1 then (fX0_withGreatestRise_30 m x2 (fun x1 x2 hq => fX0_withGreatestRise_4 n m x1 x2 hq) hp) else ((fX0_riseOf m x2 hp).bind fun v1 => (fX0_riseOf m x1 hp).bind fun v2 => if v2 < v1 then (fX0_withGreatestRise_30 m x2 (fun x1 x2 hq => fX0_withGreatestRise_4 n m x1 x2 hq) hp) else (fX0_withGreatestRise_32 m x1 x2 (fun x1 x2 hq => fX0_withGreatestRise_4 n m x1 x2 hq) hp))) else (some x1)
theorem exX0_withGreatestRise_4 {d : Nat} {m : Nat} : ∀ (n : Nat) (x1 : Int32) (x2 : Int32) (hp : HP) (v : Int32), fX0_withGreatestRise_4 n m x1 x2 hp = some v → Ex (d + 2) kX0_withGreatestRise 4 [some (vR (0, 0, m)), some (vI x1), some (vI x2)] [] hp (rsI v hp) := by
  intro n
  induction n with
  | zero =>
    intro x1 x2 hp v h
    cases h
  | succ n ih =>
    intro x1 x2 hp v h
    replace h : (if x2 < (hp (0, 0, m) 5) then (if x1 = m1 then (fX0_withGreatestRise_30 m x2 (fun x1 x2 hq => fX0_withGreatestRise_4 n m x1 x2 hq) hp) else ((fX0_riseOf m x2 hp).bind fun v1 => (fX0_riseOf m x1 hp).bind fun v2 => if v2 < v1 then (fX0_withGreatestRise_30 m x2 (fun x1 x2 hq => fX0_withGreatestRise_4 n m x1 x2 hq) hp) else (fX0_withGreatestRise_32 m x1 x2 (fun x1 x2 hq => fX0_withGreatestRise_4 n m x1 x2 hq) hp))) else (some x1)) = some v := h
    refine Ex.go 3 (pc' := 9) (ls' := [some (vR (0, 0, m)), some (vI x1), some (vI x2)]) (st' := [vI (hp (0, 0, m) 5), vI x2]) (hp' := hp) (fun _ => rfl) ?_
    refine Ex.icmp rfl ?_
    by_cases hc : x2 < (hp (0, 0, m) 5)
    · rw [if_pos hc] at h
      rw [brI_ge_p hc]
      show Ex (d + 2) kX0_withGreatestRise 12 [some (vR (0, 0, m)), some (vI x1), some (vI x2)] [] hp _
      refine Ex.go 2 (pc' := 14) (ls' := [some (vR (0, 0, m)), some (vI x1), some (vI x2)]) (st' := [vI m1, vI x1]) (hp' := hp) (fun _ => rfl) ?_
      refine Ex.icmp rfl ?_
      by_cases hc : x1 = m1
      · rw [if_pos hc] at h
        rw [brI_eq_p hc]
        show Ex (d + 2) kX0_withGreatestRise 30 [some (vR (0, 0, m)), some (vI x1), some (vI x2)] [] hp _
        exact exX0_withGreatestRise_30 (fun q0 q1 q2 q3 hv => ih q0 q1 q2 q3 hv) h
      · rw [if_neg hc] at h
        rw [brI_eq_n hc]
        show Ex (d + 2) kX0_withGreatestRise 17 [some (vR (0, 0, m)), some (vI x1), some (vI x2)] [] hp _
        refine Ex.go 2 (pc' := 19) (ls' := [some (vR (0, 0, m)), some (vI x1), some (vI x2)]) (st' := [vI x2, vR (0, 0, m)]) (hp' := hp) (fun _ => rfl) ?_
        obtain ⟨v1, hv, h⟩ := Option.bind_eq_some_iff.mp h
        refine Ex.call (args := [vR (0, 0, m), vI x2]) (rest := []) rfl rfl rfl (exX0_riseOf (d := d + 0) hv) ?_
        show Ex (d + 2) kX0_withGreatestRise 22 [some (vR (0, 0, m)), some (vI x1), some (vI x2)] [vI v1] hp _
        refine Ex.go 2 (pc' := 24) (ls' := [some (vR (0, 0, m)), some (vI x1), some (vI x2)]) (st' := [vI x1, vR (0, 0, m), vI v1]) (hp' := hp) (fun _ => rfl) ?_
        obtain ⟨v2, hv, h⟩ := Option.bind_eq_some_iff.mp h
        refine Ex.call (args := [vR (0, 0, m), vI x1]) (rest := [vI v1]) rfl rfl rfl (exX0_riseOf (d := d + 0) hv) ?_
        show Ex (d + 2) kX0_withGreatestRise 27 [some (vR (0, 0, m)), some (vI x1), some (vI x2)] [vI v2, vI v1] hp _
        refine Ex.icmp rfl ?_
        by_cases hc : v2 < v1
        · rw [if_pos hc] at h
          rw [brI_le_p hc]
          show Ex (d + 2) kX0_withGreatestRise 30 [some (vR (0, 0, m)), some (vI x1), some (vI x2)] [] hp _
          exact exX0_withGreatestRise_30 (fun q0 q1 q2 q3 hv => ih q0 q1 q2 q3 hv) h
        · rw [if_neg hc] at h
          rw [brI_le_n hc]
          show Ex (d + 2) kX0_withGreatestRise 32 [some (vR (0, 0, m)), some (vI x1), some (vI x2)] [] hp _
          exact exX0_withGreatestRise_32 (fun q0 q1 q2 q3 hv => ih q0 q1 q2 q3 hv) h
    · rw [if_neg hc] at h
      rw [brI_ge_n hc]
      show Ex (d + 2) kX0_withGreatestRise 38 [some (vR (0, 0, m)), some (vI x1), some (vI x2)] [] hp _
      refine Ex.go 1 (pc' := 39) (ls' := [some (vR (0, 0, m)), some (vI x1), some (vI x2)]) (st' := [vI x1]) (hp' := hp) (fun _ => rfl) ?_
      cases h
      exact Ex.ret rfl rfl rfl
def fX0_withGreatestRise (m : Nat) (hp : HP) : Option Int32 := fX0_withGreatestRise_4 FU m m1 0 hp
theorem exX0_withGreatestRise {d : Nat} {m : Nat} {hp : HP} {v : Int32} (h : fX0_withGreatestRise m hp = some v) : Calls (d + 2) 16 [vR (0, 0, m)] hp (rsI v hp) := by
  replace h : (fX0_withGreatestRise_4 FU m m1 0 hp) = some v := h
  show Ex (d + 2) kX0_withGreatestRise 0 [some (vR (0, 0, m)), none, none] [] hp _
  refine Ex.go 4 (pc' := 4) (ls' := [some (vR (0, 0, m)), some (vI m1), some (vI 0)]) (st' := []) (hp' := hp) (fun _ => rfl) ?_
  exact exX0_withGreatestRise_4 FU _ _ _ _ h
def fX1_copyFrom_27 (m : Nat) (mr1 : Nat) (hp : HP) : Option HP := if isB (hp (1, 0, mr1) 4) = true then (some (up hp (1, 0, m) 4 (hp (1, 0, mr1) 4))) else none
theorem exX1_copyFrom_27 {d : Nat} {m : Nat} {mr1 : Nat} {hp : HP} {v : HP} (h : fX1_copyFrom_27 m mr1 hp = some v) : Ex (d + 3) kX1_copyFrom 27 [some (vR (1, 0, m)), some (vR (1, 0, mr1))] [] hp (rsV () v) := by
  replace h : (if isB (hp (1, 0, mr1) 4) = true then (some (up hp (1, 0, m) 4 (hp (1, 0, mr1) 4))) else none) = some v := h
  refine Ex.go 3 (pc' := 32) (ls' := [some (vR (1, 0, m)), some (vR (1, 0, mr1))]) (st' := [vI (hp (1, 0, mr1) 4), vR (1, 0, m)]) (hp' := hp) (fun _ => rfl) ?_
  by_cases hc : isB (hp (1, 0, mr1) 4) = true
  · rw [if_pos hc] at h
    refine Ex.putz rfl rfl rfl hc rfl ?_
    show Ex (d + 3) kX1_copyFrom 35 [some (vR (1, 0, m)), some (vR (1, 0, mr1))] [] (up hp (1, 0, m) 4 (hp (1, 0, mr1) 4)) _
    cases h
    exact Ex.ret rfl rfl rfl
  · rw [if_neg hc] at h
    cases h
def fX1_copyFrom_19 (m : Nat) (mr1 : Nat) (hp : HP) : Option HP := fX1_copyFrom_27 m mr1 (up hp (1, 0, m) 3 (hp (1, 0, mr1) 3))
theorem exX1_copyFrom_19 {d : Nat} {m : Nat} {mr1 : Nat} {hp : HP} {v : HP} (h : fX1_copyFrom_19 m mr1 hp = some v) : Ex (d + 3) kX1_copyFrom 19 [some (vR (1, 0, m)), some (vR (1, 0, mr1))] [] hp (rsV () v) := by
  replace h : (fX1_copyFrom_27 m mr1 (up hp (1, 0, m) 3 (hp (1, 0, mr1) 3))) = some v := h
  refine Ex.go 4 (pc' := 27) (ls' := [some (vR (1, 0, m)), some (vR (1, 0, mr1))]) (st' := []) (hp' := (up hp (1, 0, m) 3 (hp (1, 0, mr1) 3))) (fun _ => rfl) ?_
  exact exX1_copyFrom_27 h
def fX1_copyFrom (m : Nat) (mr0 : Nat) (hp : HP) : Option HP := (fX7_copyFrom 4 m 4 mr0 hp).bind fun hp3 => fX1_copyFrom_19 m mr0 (up hp3 (1, 0, m) 2 (hp3 (1, 0, mr0) 2))
theorem exX1_copyFrom {d : Nat} {m : Nat} {mr0 : Nat} {hp : HP} {v : HP} (h : fX1_copyFrom m mr0 hp = some v) : Calls (d + 3) 17 [vR (1, 0, m), vR (1, 0, mr0)] hp (rsV () v) := by
  replace h : ((fX7_copyFrom 4 m 4 mr0 hp).bind fun hp3 => fX1_copyFrom_19 m mr0 (up hp3 (1, 0, m) 2 (hp3 (1, 0, mr0) 2))) = some v := h
  show Ex (d + 3) kX1_copyFrom 0 [some (vR (1, 0, m)), some (vR (1, 0, mr0))] [] hp _
  refine Ex.go 4 (pc' := 8) (ls' := [some (vR (1, 0, m)), some (vR (1, 0, mr0))]) (st' := [vR (7, 4, mr0), vR (7, 4, m)]) (hp' := hp) (fun _ => rfl) ?_
  obtain ⟨hp3, hv, h⟩ := Option.bind_eq_some_iff.mp h
  refine Ex.call (args := [vR (7, 4, m), vR (7, 4, mr0)]) (rest := []) rfl rfl rfl (exX7_copyFrom (d := d + 0) hv) ?_
  show Ex (d + 3) kX1_copyFrom 11 [some (vR (1, 0, m)), some (vR (1, 0, mr0))] [] hp3 _
  refine Ex.go 4 (pc' := 19) (ls' := [some (vR (1, 0, m)), some (vR (1, 0, mr0))]) (st' := []) (hp' := (up hp3 (1, 0, m) 2 (hp3 (1, 0, mr0) 2))) (fun _ => rfl) ?_
  exact exX1_copyFrom_19 h
def fX1_goToLine (m : Nat) (a0 : Int32) (hp : HP) : Option HP := (fX7_at 0 m 2 (up hp (1, 0, m) 2 a0)).bind fun v1 => some (up (up (up hp (1, 0, m) 2 a0) (1, 0, m) 3 v1) (1, 0, m) 4 0)
theorem exX1_goToLine {d : Nat} {m : Nat} {a0 : Int32} {hp : HP} {v : HP} (h : fX1_goToLine m a0 hp = some v) : Calls (d + 1) 19 [vR (1, 0, m), vI a0] hp (rsV () v) := by
  replace h : ((fX7_at 0 m 2 (up hp (1, 0, m) 2 a0)).bind fun v1 => some (up (up (up hp (1, 0, m) 2 a0) (1, 0, m) 3 v1) (1, 0, m) 4 0)) = some v := h
  show Ex (d + 1) kX1_goToLine 0 [some (vR (1, 0, m)), some (vI a0)] [] hp _
  refine Ex.go 7 (pc' := 11) (ls' := [some (vR (1, 0, m)), some (vI a0)]) (st' := [vI 2, vR (7, 0, m), vR (1, 0, m)]) (hp' := (up hp (1, 0, m) 2 a0)) (fun _ => rfl) ?_
  obtain ⟨v1, hv, h⟩ := Option.bind_eq_some_iff.mp h
  refine Ex.call (args := [vR (7, 0, m), vI 2]) (rest := [vR (1, 0, m)]) rfl rfl rfl (exX7_at (d := d + 0) hv) ?_
  show Ex (d + 1) kX1_goToLine 14 [some (vR (1, 0, m)), some (vI a0)] [vI v1, vR (1, 0, m)] (up hp (1, 0, m) 2 a0) _
  refine Ex.go 3 (pc' := 19) (ls' := [some (vR (1, 0, m)), some (vI a0)]) (st' := [vI 0, vR (1, 0, m)]) (hp' := (up (up hp (1, 0, m) 2 a0) (1, 0, m) 3 v1)) (fun _ => rfl) ?_
  refine Ex.putz rfl rfl rfl (by decide) rfl ?_
  show Ex (d + 1) kX1_goToLine 22 [some (vR (1, 0, m)), some (vI a0)] [] (up (up (up hp (1, 0, m) 2 a0) (1, 0, m) 3 v1) (1, 0, m) 4 0) _
  cases h
  exact Ex.ret rfl rfl rfl
def fX1_goHome (m : Nat) (hp : HP) : Option HP := (fX1_goToLine m 0 hp).bind fun hp3 => some hp3
theorem exX1_goHome {d : Nat} {m : Nat} {hp : HP} {v : HP} (h : fX1_goHome m hp = some v) : Calls (d + 2) 18 [vR (1, 0, m)] hp (rsV () v) := by
  replace h : ((fX1_goToLine m 0 hp).bind fun hp3 => some hp3) = some v := h
  show Ex (d + 2) kX1_goHome 0 [some (vR (1, 0, m))] [] hp _
  refine Ex.go 2 (pc' := 2) (ls' := [some (vR (1, 0, m))]) (st' := [vI 0, vR (1, 0, m)]) (hp' := hp) (fun _ => rfl) ?_
  obtain ⟨hp3, hv, h⟩ := Option.bind_eq_some_iff.mp h
  refine Ex.call (args := [vR (1, 0, m), vI 0]) (rest := []) rfl rfl rfl (exX1_goToLine (d := d + 0) hv) ?_
  show Ex (d + 2) kX1_goHome 5 [some (vR (1, 0, m))] [] hp3 _
  cases h
  exact Ex.ret rfl rfl rfl
def fX1_stopsAt (m : Nat) (a0 : Int32) (hp : HP) : Option Int32 := (fX7_at 4 m a0 hp).bind fun v1 => if v1 = 0 then (some 0) else (some 1)
theorem exX1_stopsAt {d : Nat} {m : Nat} {a0 : Int32} {hp : HP} {v : Int32} (h : fX1_stopsAt m a0 hp = some v) : Calls (d + 1) 20 [vR (1, 0, m), vI a0] hp (rsI v hp) := by
  replace h : ((fX7_at 4 m a0 hp).bind fun v1 => if v1 = 0 then (some 0) else (some 1)) = some v := h
  show Ex (d + 1) kX1_stopsAt 0 [some (vR (1, 0, m)), some (vI a0)] [] hp _
  refine Ex.go 3 (pc' := 5) (ls' := [some (vR (1, 0, m)), some (vI a0)]) (st' := [vI a0, vR (7, 4, m)]) (hp' := hp) (fun _ => rfl) ?_
  obtain ⟨v1, hv, h⟩ := Option.bind_eq_some_iff.mp h
  refine Ex.call (args := [vR (7, 4, m), vI a0]) (rest := []) rfl rfl rfl (exX7_at (d := d + 0) hv) ?_
  show Ex (d + 1) kX1_stopsAt 8 [some (vR (1, 0, m)), some (vI a0)] [vI v1] hp _
  refine Ex.ifc rfl ?_
  by_cases hc : v1 = 0
  · rw [if_pos hc] at h
    rw [brI_eq_p hc]
    show Ex (d + 1) kX1_stopsAt 15 [some (vR (1, 0, m)), some (vI a0)] [] hp _
    refine Ex.go 1 (pc' := 16) (ls' := [some (vR (1, 0, m)), some (vI a0)]) (st' := [vI 0]) (hp' := hp) (fun _ => rfl) ?_
    cases h
    exact Ex.ret rfl rfl rfl
  · rw [if_neg hc] at h
    rw [brI_eq_n hc]
    show Ex (d + 1) kX1_stopsAt 11 [some (vR (1, 0, m)), some (vI a0)] [] hp _
    refine Ex.go 2 (pc' := 16) (ls' := [some (vR (1, 0, m)), some (vI a0)]) (st' := [vI 1]) (hp' := hp) (fun _ => rfl) ?_
    cases h
    exact Ex.ret rfl rfl rfl
def fX1_stopsSet_27 (m : Nat) (x1 : Int32) (x2 : Int32) (k4 : Int32 → Int32 → HP → Option Int32) (hp : HP) : Option Int32 := k4 x1 (x2 + 1) hp
theorem exX1_stopsSet_27 {d : Nat} {m : Nat} {x1 : Int32} {x2 : Int32} {hp : HP} {v : Int32} {k4 : Int32 → Int32 → HP → Option Int32} (hk4 : ∀ (x1 : Int32) (x2 : Int32) (hp : HP) (v : Int32), k4 x1 x2 hp = some v → Ex (d + 2) kX1_stopsSet 4 [some (vR (1, 0, m)), some (vI x1), some (vI x2)] [] hp (rsI v hp)) (h : fX1_stopsSet_27 m x1 x2 k4 hp = some v) : Ex (d + 2) kX1_stopsSet 27 [some (vR (1, 0, m)), some (vI x1), some (vI x2)] [] hp (rsI v hp) := by
  replace h : (k4 x1 (x2 + 1) hp) = some v := h
  refine Ex.go 2 (pc' := 4) (ls' := [some (vR (1, 0, m)), some (vI x1), some (vI (x2 + 1))]) (st' := []) (hp' := hp) (fun _ => rfl) ?_
  exact hk4 _ _ _ _ h
def fX1_stopsSet_4 (n : Nat) (m : Nat) (x1 : Int32) (x2 : Int32) (hp : HP) : Option Int32 := match n with
  | 0 => none
  | n + 1 => (fX7_at 0 m 0 hp).bind fun v1 => if x2 < v1 then ((fX1_stopsAt m x2 hp).bind fun v2 => if v2 = 0 then (fX1_stopsSet_27 m x1 x2 (fun x1 x2 hq => fX1_stopsSet_4 n m x1 x2 hq) hp) else (fX1_stopsSet_27 m (x1 + 1) x2 (fun x1 x2 hq => fX1_stopsSet_4 n m x1 x2 hq) hp)) else (some x1)
theorem exX1_stopsSet_4 {d : Nat} {m : Nat} : ∀ (n : Nat) (x1 : Int32) (x2 : Int32) (hp : HP) (v : Int32), fX1_stopsSet_4 n m x1 x2 hp = some v → Ex (d + 2) kX1_stopsSet 4 [some (vR (1, 0, m)), some (vI x1), some (vI x2)] [] hp (rsI v hp) := by
  intro n
  induction n with
  | zero =>
    intro x1 x2 hp v h
    cases h
  | succ n ih =>
    intro x1 x2 hp v h
    replace h : ((fX7_at 0 m 0 hp).bind fun v1 => if x2 < v1 then ((fX1_stopsAt m x2 hp).bind fun v2 => if v2 = 0 then (fX1_stopsSet_27 m x1 x2 (fun x1 x2 hq => fX1_stopsSet_4 n m x1 x2 hq) hp) else (fX1_stopsSet_27 m (x1 + 1) x2 (fun x1 x2 hq => fX1_stopsSet_4 n m x1 x2 hq) hp)) else (some x1)) = some v := h
    refine Ex.go 4 (pc' := 10) (ls' := [some (vR (1, 0, m)), some (vI x1), some (vI x2)]) (st' := [vI 0, vR (7, 0, m), vI x2]) (hp' := hp) (fun _ => rfl) ?_
    obtain ⟨v1, hv, h⟩ := Option.bind_eq_some_iff.mp h
    refine Ex.call (args := [vR (7, 0, m), vI 0]) (rest := [vI x2]) rfl rfl rfl (exX7_at (d := d + 1) hv) ?_
    show Ex (d + 2) kX1_stopsSet 13 [some (vR (1, 0, m)), some (vI x1), some (vI x2)] [vI v1, vI x2] hp _
    refine Ex.icmp rfl ?_
    by_cases hc : x2 < v1
    · rw [if_pos hc] at h
      rw [brI_ge_p hc]
      show Ex (d + 2) kX1_stopsSet 16 [some (vR (1, 0, m)), some (vI x1), some (vI x2)] [] hp _
      refine Ex.go 2 (pc' := 18) (ls' := [some (vR (1, 0, m)), some (vI x1), some (vI x2)]) (st' := [vI x2, vR (1, 0, m)]) (hp' := hp) (fun _ => rfl) ?_
      obtain ⟨v2, hv, h⟩ := Option.bind_eq_some_iff.mp h
      refine Ex.call (args := [vR (1, 0, m), vI x2]) (rest := []) rfl rfl rfl (exX1_stopsAt (d := d + 0) hv) ?_
      show Ex (d + 2) kX1_stopsSet 21 [some (vR (1, 0, m)), some (vI x1), some (vI x2)] [vI v2] hp _
      refine Ex.ifc rfl ?_
      by_cases hc : v2 = 0
      · rw [if_pos hc] at h
        rw [brI_eq_p hc]
        show Ex (d + 2) kX1_stopsSet 27 [some (vR (1, 0, m)), some (vI x1), some (vI x2)] [] hp _
        exact exX1_stopsSet_27 (fun q0 q1 q2 q3 hv => ih q0 q1 q2 q3 hv) h
      · rw [if_neg hc] at h
        rw [brI_eq_n hc]
        show Ex (d + 2) kX1_stopsSet 24 [some (vR (1, 0, m)), some (vI x1), some (vI x2)] [] hp _
        refine Ex.go 1 (pc' := 27) (ls' := [some (vR (1, 0, m)), some (vI (x1 + 1)), some (vI x2)]) (st' := []) (hp' := hp) (fun _ => rfl) ?_
        exact exX1_stopsSet_27 (fun q0 q1 q2 q3 hv => ih q0 q1 q2 q3 hv) h
    · rw [if_neg hc] at h
      rw [brI_ge_n hc]
      show Ex (d + 2) kX1_stopsSet 33 [some (vR (1, 0, m)), some (vI x1), some (vI x2)] [] hp _
      refine Ex.go 1 (pc' := 34) (ls' := [some (vR (1, 0, m)), some (vI x1), some (vI x2)]) (st' := [vI x1]) (hp' := hp) (fun _ => rfl) ?_
      cases h
      exact Ex.ret rfl rfl rfl
def fX1_stopsSet (m : Nat) (hp : HP) : Option Int32 := fX1_stopsSet_4 FU m 0 0 hp
theorem exX1_stopsSet {d : Nat} {m : Nat} {hp : HP} {v : Int32} (h : fX1_stopsSet m hp = some v) : Calls (d + 2) 21 [vR (1, 0, m)] hp (rsI v hp) := by
  replace h : (fX1_stopsSet_4 FU m 0 0 hp) = some v := h
  show Ex (d + 2) kX1_stopsSet 0 [some (vR (1, 0, m)), none, none] [] hp _
  refine Ex.go 4 (pc' := 4) (ls' := [some (vR (1, 0, m)), some (vI 0), some (vI 0)]) (st' := []) (hp' := hp) (fun _ => rfl) ?_
  exact exX1_stopsSet_4 FU _ _ _ _ h
def fX1_locksAt (m : Nat) (a0 : Int32) (hp : HP) : Option Int32 := (fX7_at 0 m 0 hp).bind fun v1 => if a0 < v1 then ((fX7_at 0 m 3 hp).bind fun v2 => if v2 < a0 then (if (hp (1, 0, m) 4) = 0 then (some 1) else (some 0)) else (some 0)) else (some 1)
theorem exX1_locksAt {d : Nat} {m : Nat} {a0 : Int32} {hp : HP} {v : Int32} (h : fX1_locksAt m a0 hp = some v) : Calls (d + 1) 22 [vR (1, 0, m), vI a0] hp (rsI v hp) := by
  replace h : ((fX7_at 0 m 0 hp).bind fun v1 => if a0 < v1 then ((fX7_at 0 m 3 hp).bind fun v2 => if v2 < a0 then (if (hp (1, 0, m) 4) = 0 then (some 1) else (some 0)) else (some 0)) else (some 1)) = some v := h
  show Ex (d + 1) kX1_locksAt 0 [some (vR (1, 0, m)), some (vI a0)] [] hp _
  refine Ex.go 4 (pc' := 6) (ls' := [some (vR (1, 0, m)), some (vI a0)]) (st' := [vI 0, vR (7, 0, m), vI a0]) (hp' := hp) (fun _ => rfl) ?_
  obtain ⟨v1, hv, h⟩ := Option.bind_eq_some_iff.mp h
  refine Ex.call (args := [vR (7, 0, m), vI 0]) (rest := [vI a0]) rfl rfl rfl (exX7_at (d := d + 0) hv) ?_
  show Ex (d + 1) kX1_locksAt 9 [some (vR (1, 0, m)), some (vI a0)] [vI v1, vI a0] hp _
  refine Ex.icmp rfl ?_
  by_cases hc : a0 < v1
  · rw [if_pos hc] at h
    rw [brI_ge_p hc]
    show Ex (d + 1) kX1_locksAt 12 [some (vR (1, 0, m)), some (vI a0)] [] hp _
    refine Ex.go 4 (pc' := 18) (ls' := [some (vR (1, 0, m)), some (vI a0)]) (st' := [vI 3, vR (7, 0, m), vI a0]) (hp' := hp) (fun _ => rfl) ?_
    obtain ⟨v2, hv, h⟩ := Option.bind_eq_some_iff.mp h
    refine Ex.call (args := [vR (7, 0, m), vI 3]) (rest := [vI a0]) rfl rfl rfl (exX7_at (d := d + 0) hv) ?_
    show Ex (d + 1) kX1_locksAt 21 [some (vR (1, 0, m)), some (vI a0)] [vI v2, vI a0] hp _
    refine Ex.icmp rfl ?_
    by_cases hc : v2 < a0
    · rw [if_pos hc] at h
      rw [brI_le_p hc]
      show Ex (d + 1) kX1_locksAt 24 [some (vR (1, 0, m)), some (vI a0)] [] hp _
      refine Ex.go 2 (pc' := 28) (ls' := [some (vR (1, 0, m)), some (vI a0)]) (st' := [vI (hp (1, 0, m) 4)]) (hp' := hp) (fun _ => rfl) ?_
      refine Ex.ifc rfl ?_
      by_cases hc : (hp (1, 0, m) 4) = 0
      · rw [if_pos hc] at h
        rw [brI_ne_p hc]
        show Ex (d + 1) kX1_locksAt 31 [some (vR (1, 0, m)), some (vI a0)] [] hp _
        refine Ex.go 2 (pc' := 36) (ls' := [some (vR (1, 0, m)), some (vI a0)]) (st' := [vI 1]) (hp' := hp) (fun _ => rfl) ?_
        cases h
        exact Ex.ret rfl rfl rfl
      · rw [if_neg hc] at h
        rw [brI_ne_n hc]
        show Ex (d + 1) kX1_locksAt 35 [some (vR (1, 0, m)), some (vI a0)] [] hp _
        refine Ex.go 1 (pc' := 36) (ls' := [some (vR (1, 0, m)), some (vI a0)]) (st' := [vI 0]) (hp' := hp) (fun _ => rfl) ?_
        cases h
        exact Ex.ret rfl rfl rfl
    · rw [if_neg hc] at h
      rw [brI_le_n hc]
      show Ex (d + 1) kX1_locksAt 35 [some (vR (1, 0, m)), some (vI a0)] [] hp _
      refine Ex.go 1 (pc' := 36) (ls' := [some (vR (1, 0, m)), some (vI a0)]) (st' := [vI 0]) (hp' := hp) (fun _ => rfl) ?_
      cases h
      exact Ex.ret rfl rfl rfl
  · rw [if_neg hc] at h
    rw [brI_ge_n hc]
    show Ex (d + 1) kX1_locksAt 31 [some (vR (1, 0, m)), some (vI a0)] [] hp _
    refine Ex.go 2 (pc' := 36) (ls' := [some (vR (1, 0, m)), some (vI a0)]) (st' := [vI 1]) (hp' := hp) (fun _ => rfl) ?_
    cases h
    exact Ex.ret rfl rfl rfl
def fX1_bellColumn (m : Nat) (hp : HP) : Option Int32 := (fX7_at 0 m 3 hp).bind fun v1 => (fX7_at 0 m 4 hp).bind fun v2 => some (v1 - v2)
theorem exX1_bellColumn {d : Nat} {m : Nat} {hp : HP} {v : Int32} (h : fX1_bellColumn m hp = some v) : Calls (d + 1) 23 [vR (1, 0, m)] hp (rsI v hp) := by
  replace h : ((fX7_at 0 m 3 hp).bind fun v1 => (fX7_at 0 m 4 hp).bind fun v2 => some (v1 - v2)) = some v := h
  show Ex (d + 1) kX1_bellColumn 0 [some (vR (1, 0, m))] [] hp _
  refine Ex.go 3 (pc' := 5) (ls' := [some (vR (1, 0, m))]) (st' := [vI 3, vR (7, 0, m)]) (hp' := hp) (fun _ => rfl) ?_
  obtain ⟨v1, hv, h⟩ := Option.bind_eq_some_iff.mp h
  refine Ex.call (args := [vR (7, 0, m), vI 3]) (rest := []) rfl rfl rfl (exX7_at (d := d + 0) hv) ?_
  show Ex (d + 1) kX1_bellColumn 8 [some (vR (1, 0, m))] [vI v1] hp _
  refine Ex.go 3 (pc' := 13) (ls' := [some (vR (1, 0, m))]) (st' := [vI 4, vR (7, 0, m), vI v1]) (hp' := hp) (fun _ => rfl) ?_
  obtain ⟨v2, hv, h⟩ := Option.bind_eq_some_iff.mp h
  refine Ex.call (args := [vR (7, 0, m), vI 4]) (rest := [vI v1]) rfl rfl rfl (exX7_at (d := d + 0) hv) ?_
  show Ex (d + 1) kX1_bellColumn 16 [some (vR (1, 0, m))] [vI v2, vI v1] hp _
  refine Ex.go 1 (pc' := 17) (ls' := [some (vR (1, 0, m))]) (st' := [vI (v1 - v2)]) (hp' := hp) (fun _ => rfl) ?_
  cases h
  exact Ex.ret rfl rfl rfl
def fX1_spacesToBell (m : Nat) (hp : HP) : Option Int32 := (fX1_bellColumn m hp).bind fun v1 => if (hp (1, 0, m) 3) < v1 then ((fX1_bellColumn m hp).bind fun v2 => some (v2 - (hp (1, 0, m) 3))) else (some m1)
theorem exX1_spacesToBell {d : Nat} {m : Nat} {hp : HP} {v : Int32} (h : fX1_spacesToBell m hp = some v) : Calls (d + 2) 24 [vR (1, 0, m)] hp (rsI v hp) := by
  replace h : ((fX1_bellColumn m hp).bind fun v1 => if (hp (1, 0, m) 3) < v1 then ((fX1_bellColumn m hp).bind fun v2 => some (v2 - (hp (1, 0, m) 3))) else (some m1)) = some v := h
  show Ex (d + 2) kX1_spacesToBell 0 [some (vR (1, 0, m))] [] hp _
  refine Ex.go 3 (pc' := 5) (ls' := [some (vR (1, 0, m))]) (st' := [vR (1, 0, m), vI (hp (1, 0, m) 3)]) (hp' := hp) (fun _ => rfl) ?_
  obtain ⟨v1, hv, h⟩ := Option.bind_eq_some_iff.mp h
  refine Ex.call (args := [vR (1, 0, m)]) (rest := [vI (hp (1, 0, m) 3)]) rfl rfl rfl (exX1_bellColumn (d := d + 0) hv) ?_
  show Ex (d + 2) kX1_spacesToBell 8 [some (vR (1, 0, m))] [vI v1, vI (hp (1, 0, m) 3)] hp _
  refine Ex.icmp rfl ?_
  by_cases hc : (hp (1, 0, m) 3) < v1
  · rw [if_pos hc] at h
    rw [brI_ge_p hc]
    show Ex (d + 2) kX1_spacesToBell 11 [some (vR (1, 0, m))] [] hp _
    refine Ex.go 1 (pc' := 12) (ls' := [some (vR (1, 0, m))]) (st' := [vR (1, 0, m)]) (hp' := hp) (fun _ => rfl) ?_
    obtain ⟨v2, hv, h⟩ := Option.bind_eq_some_iff.mp h
    refine Ex.call (args := [vR (1, 0, m)]) (rest := []) rfl rfl rfl (exX1_bellColumn (d := d + 0) hv) ?_
    show Ex (d + 2) kX1_spacesToBell 15 [some (vR (1, 0, m))] [vI v2] hp _
    refine Ex.go 4 (pc' := 24) (ls' := [some (vR (1, 0, m))]) (st' := [vI (v2 - (hp (1, 0, m) 3))]) (hp' := hp) (fun _ => rfl) ?_
    cases h
    exact Ex.ret rfl rfl rfl
  · rw [if_neg hc] at h
    rw [brI_ge_n hc]
    show Ex (d + 2) kX1_spacesToBell 23 [some (vR (1, 0, m))] [] hp _
    refine Ex.go 1 (pc' := 24) (ls' := [some (vR (1, 0, m))]) (st' := [vI m1]) (hp' := hp) (fun _ => rfl) ?_
    cases h
    exact Ex.ret rfl rfl rfl
def fX1_tabFrom_4 (n : Nat) (m : Nat) (x1 : Int32) (x2 : Int32) (hp : HP) : Option Int32 := match n with
  | 0 => none
  | n + 1 => (fX7_at 0 m 0 hp).bind fun v1 => if x2 < v1 then ((fX1_stopsAt m x2 hp).bind fun v3 => if v3 = 0 then (fX1_tabFrom_4 n m x1 (x2 + 1) hp) else (some x2)) else ((fX7_at 0 m 3 hp).bind fun v2 => some (imax x1 v2))
theorem exX1_tabFrom_4 {d : Nat} {m : Nat} : ∀ (n : Nat) (x1 : Int32) (x2 : Int32) (hp : HP) (v : Int32), fX1_tabFrom_4 n m x1 x2 hp = some v → Ex (d + 2) kX1_tabFrom 4 [some (vR (1, 0, m)), some (vI x1), some (vI x2)] [] hp (rsI v hp) := by
  intro n
  induction n with
  | zero =>
    intro x1 x2 hp v h
    cases h
  | succ n ih =>
    intro x1 x2 hp v h
    replace h : ((fX7_at 0 m 0 hp).bind fun v1 => if x2 < v1 then ((fX1_stopsAt m x2 hp).bind fun v3 => if v3 = 0 then (fX1_tabFrom_4 n m x1 (x2 + 1) hp) else (some x2)) else ((fX7_at 0 m 3 hp).bind fun v2 => some (imax x1 v2))) = some v := h
    refine Ex.go 4 (pc' := 10) (ls' := [some (vR (1, 0, m)), some (vI x1), some (vI x2)]) (st' := [vI 0, vR (7, 0, m), vI x2]) (hp' := hp) (fun _ => rfl) ?_
    obtain ⟨v1, hv, h⟩ := Option.bind_eq_some_iff.mp h
    refine Ex.call (args := [vR (7, 0, m), vI 0]) (rest := [vI x2]) rfl rfl rfl (exX7_at (d := d + 1) hv) ?_
    show Ex (d + 2) kX1_tabFrom 13 [some (vR (1, 0, m)), some (vI x1), some (vI x2)] [vI v1, vI x2] hp _
    refine Ex.icmp rfl ?_
    by_cases hc : x2 < v1
    · rw [if_pos hc] at h
      rw [brI_ge_p hc]
      show Ex (d + 2) kX1_tabFrom 16 [some (vR (1, 0, m)), some (vI x1), some (vI x2)] [] hp _
      refine Ex.go 2 (pc' := 18) (ls' := [some (vR (1, 0, m)), some (vI x1), some (vI x2)]) (st' := [vI x2, vR (1, 0, m)]) (hp' := hp) (fun _ => rfl) ?_
      obtain ⟨v3, hv, h⟩ := Option.bind_eq_some_iff.mp h
      refine Ex.call (args := [vR (1, 0, m), vI x2]) (rest := []) rfl rfl rfl (exX1_stopsAt (d := d + 0) hv) ?_
      show Ex (d + 2) kX1_tabFrom 21 [some (vR (1, 0, m)), some (vI x1), some (vI x2)] [vI v3] hp _
      refine Ex.ifc rfl ?_
      by_cases hc : v3 = 0
      · rw [if_pos hc] at h
        rw [brI_eq_p hc]
        show Ex (d + 2) kX1_tabFrom 26 [some (vR (1, 0, m)), some (vI x1), some (vI x2)] [] hp _
        refine Ex.go 2 (pc' := 4) (ls' := [some (vR (1, 0, m)), some (vI x1), some (vI (x2 + 1))]) (st' := []) (hp' := hp) (fun _ => rfl) ?_
        exact ih _ _ _ _ h
      · rw [if_neg hc] at h
        rw [brI_eq_n hc]
        show Ex (d + 2) kX1_tabFrom 24 [some (vR (1, 0, m)), some (vI x1), some (vI x2)] [] hp _
        refine Ex.go 1 (pc' := 25) (ls' := [some (vR (1, 0, m)), some (vI x1), some (vI x2)]) (st' := [vI x2]) (hp' := hp) (fun _ => rfl) ?_
        cases h
        exact Ex.ret rfl rfl rfl
    · rw [if_neg hc] at h
      rw [brI_ge_n hc]
      show Ex (d + 2) kX1_tabFrom 32 [some (vR (1, 0, m)), some (vI x1), some (vI x2)] [] hp _
      refine Ex.go 4 (pc' := 38) (ls' := [some (vR (1, 0, m)), some (vI x1), some (vI x2)]) (st' := [vI 3, vR (7, 0, m), vI x1]) (hp' := hp) (fun _ => rfl) ?_
      obtain ⟨v2, hv, h⟩ := Option.bind_eq_some_iff.mp h
      refine Ex.call (args := [vR (7, 0, m), vI 3]) (rest := [vI x1]) rfl rfl rfl (exX7_at (d := d + 1) hv) ?_
      show Ex (d + 2) kX1_tabFrom 41 [some (vR (1, 0, m)), some (vI x1), some (vI x2)] [vI v2, vI x1] hp _
      refine Ex.go 1 (pc' := 44) (ls' := [some (vR (1, 0, m)), some (vI x1), some (vI x2)]) (st' := [vI (imax x1 v2)]) (hp' := hp) (fun _ => rfl) ?_
      cases h
      exact Ex.ret rfl rfl rfl
def fX1_tabFrom (m : Nat) (a0 : Int32) (hp : HP) : Option Int32 := fX1_tabFrom_4 FU m a0 (a0 + 1) hp
theorem exX1_tabFrom {d : Nat} {m : Nat} {a0 : Int32} {hp : HP} {v : Int32} (h : fX1_tabFrom m a0 hp = some v) : Calls (d + 2) 25 [vR (1, 0, m), vI a0] hp (rsI v hp) := by
  replace h : (fX1_tabFrom_4 FU m a0 (a0 + 1) hp) = some v := h
  show Ex (d + 2) kX1_tabFrom 0 [some (vR (1, 0, m)), some (vI a0), none] [] hp _
  refine Ex.go 4 (pc' := 4) (ls' := [some (vR (1, 0, m)), some (vI a0), some (vI (a0 + 1))]) (st' := []) (hp' := hp) (fun _ => rfl) ?_
  exact exX1_tabFrom_4 FU _ _ _ _ h
def fX1_backFrom_28 (m : Nat) (x1 : Int32) (y0 : Int32) (hp : HP) : Option Int32 := if y0 = 0 then (some (x1 - 1)) else (some x1)
theorem exX1_backFrom_28 {d : Nat} {m : Nat} {x1 : Int32} {y0 : Int32} {j2 : Option VL} {hp : HP} {v : Int32} (h : fX1_backFrom_28 m x1 y0 hp = some v) : Ex (d + 1) kX1_backFrom 28 [some (vR (1, 0, m)), some (vI x1), j2] [vI y0] hp (rsI v hp) := by
  replace h : (if y0 = 0 then (some (x1 - 1)) else (some x1)) = some v := h
  refine Ex.go 2 (pc' := 30) (ls' := [some (vR (1, 0, m)), some (vI x1), some (vI y0)]) (st' := [vI y0]) (hp' := hp) (fun _ => rfl) ?_
  refine Ex.ifc rfl ?_
  by_cases hc : y0 = 0
  · rw [if_pos hc] at h
    rw [brI_eq_p hc]
    show Ex (d + 1) kX1_backFrom 37 [some (vR (1, 0, m)), some (vI x1), some (vI y0)] [] hp _
    refine Ex.go 3 (pc' := 40) (ls' := [some (vR (1, 0, m)), some (vI x1), some (vI y0)]) (st' := [vI (x1 - 1)]) (hp' := hp) (fun _ => rfl) ?_
    cases h
    exact Ex.ret rfl rfl rfl
  · rw [if_neg hc] at h
    rw [brI_eq_n hc]
    show Ex (d + 1) kX1_backFrom 33 [some (vR (1, 0, m)), some (vI x1), some (vI y0)] [] hp _
    refine Ex.go 2 (pc' := 40) (ls' := [some (vR (1, 0, m)), some (vI x1), some (vI y0)]) (st' := [vI x1]) (hp' := hp) (fun _ => rfl) ?_
    cases h
    exact Ex.ret rfl rfl rfl
def fX1_backFrom_27 (m : Nat) (x1 : Int32) (hp : HP) : Option Int32 := fX1_backFrom_28 m x1 0 hp
theorem exX1_backFrom_27 {d : Nat} {m : Nat} {x1 : Int32} {j2 : Option VL} {hp : HP} {v : Int32} (h : fX1_backFrom_27 m x1 hp = some v) : Ex (d + 1) kX1_backFrom 27 [some (vR (1, 0, m)), some (vI x1), j2] [] hp (rsI v hp) := by
  replace h : (fX1_backFrom_28 m x1 0 hp) = some v := h
  refine Ex.go 1 (pc' := 28) (ls' := [some (vR (1, 0, m)), some (vI x1), j2]) (st' := [vI 0]) (hp' := hp) (fun _ => rfl) ?_
  exact exX1_backFrom_28 h
def fX1_backFrom (m : Nat) (a0 : Int32) (hp : HP) : Option Int32 := if a0 = 0 then (fX1_backFrom_28 m a0 1 hp) else ((fX7_at 0 m 2 hp).bind fun v1 => if a0 = v1 then (if (hp (1, 0, m) 4) = 0 then (fX1_backFrom_28 m a0 1 hp) else (fX1_backFrom_27 m a0 hp)) else (fX1_backFrom_27 m a0 hp))
theorem exX1_backFrom {d : Nat} {m : Nat} {a0 : Int32} {hp : HP} {v : Int32} (h : fX1_backFrom m a0 hp = some v) : Calls (d + 1) 26 [vR (1, 0, m), vI a0] hp (rsI v hp) := by
  replace h : (if a0 = 0 then (fX1_backFrom_28 m a0 1 hp) else ((fX7_at 0 m 2 hp).bind fun v1 => if a0 = v1 then (if (hp (1, 0, m) 4) = 0 then (fX1_backFrom_28 m a0 1 hp) else (fX1_backFrom_27 m a0 hp)) else (fX1_backFrom_27 m a0 hp))) = some v := h
  show Ex (d + 1) kX1_backFrom 0 [some (vR (1, 0, m)), some (vI a0), none] [] hp _
  refine Ex.go 1 (pc' := 1) (ls' := [some (vR (1, 0, m)), some (vI a0), none]) (st' := [vI a0]) (hp' := hp) (fun _ => rfl) ?_
  refine Ex.ifc rfl ?_
  by_cases hc : a0 = 0
  · rw [if_pos hc] at h
    rw [brI_eq_p hc]
    show Ex (d + 1) kX1_backFrom 23 [some (vR (1, 0, m)), some (vI a0), none] [] hp _
    refine Ex.go 2 (pc' := 28) (ls' := [some (vR (1, 0, m)), some (vI a0), none]) (st' := [vI 1]) (hp' := hp) (fun _ => rfl) ?_
    exact exX1_backFrom_28 h
  · rw [if_neg hc] at h
    rw [brI_eq_n hc]
    show Ex (d + 1) kX1_backFrom 4 [some (vR (1, 0, m)), some (vI a0), none] [] hp _
    refine Ex.go 4 (pc' := 10) (ls' := [some (vR (1, 0, m)), some (vI a0), none]) (st' := [vI 2, vR (7, 0, m), vI a0]) (hp' := hp) (fun _ => rfl) ?_
    obtain ⟨v1, hv, h⟩ := Option.bind_eq_some_iff.mp h
    refine Ex.call (args := [vR (7, 0, m), vI 2]) (rest := [vI a0]) rfl rfl rfl (exX7_at (d := d + 0) hv) ?_
    show Ex (d + 1) kX1_backFrom 13 [some (vR (1, 0, m)), some (vI a0), none] [vI v1, vI a0] hp _
    refine Ex.icmp rfl ?_
    by_cases hc : a0 = v1
    · rw [if_pos hc] at h
      rw [brI_ne_p hc]
      show Ex (d + 1) kX1_backFrom 16 [some (vR (1, 0, m)), some (vI a0), none] [] hp _
      refine Ex.go 2 (pc' := 20) (ls' := [some (vR (1, 0, m)), some (vI a0), none]) (st' := [vI (hp (1, 0, m) 4)]) (hp' := hp) (fun _ => rfl) ?_
      refine Ex.ifc rfl ?_
      by_cases hc : (hp (1, 0, m) 4) = 0
      · rw [if_pos hc] at h
        rw [brI_ne_p hc]
        show Ex (d + 1) kX1_backFrom 23 [some (vR (1, 0, m)), some (vI a0), none] [] hp _
        refine Ex.go 2 (pc' := 28) (ls' := [some (vR (1, 0, m)), some (vI a0), none]) (st' := [vI 1]) (hp' := hp) (fun _ => rfl) ?_
        exact exX1_backFrom_28 h
      · rw [if_neg hc] at h
        rw [brI_ne_n hc]
        show Ex (d + 1) kX1_backFrom 27 [some (vR (1, 0, m)), some (vI a0), none] [] hp _
        exact exX1_backFrom_27 h
    · rw [if_neg hc] at h
      rw [brI_ne_n hc]
      show Ex (d + 1) kX1_backFrom 27 [some (vR (1, 0, m)), some (vI a0), none] [] hp _
      exact exX1_backFrom_27 h
def fX1_reachOnce (a0 : Int32) (a1 : Int32) (wr2 : Nat) (mr2 : Nat) (hp : HP) : Option HP := (fX7_at wr2 mr2 a0 hp).bind fun v1 => if v1 = m1 then ((fX7_put wr2 mr2 a0 a1 hp).bind fun hp4 => some hp4) else (some hp)
theorem exX1_reachOnce {d : Nat} {a0 : Int32} {a1 : Int32} {wr2 : Nat} {mr2 : Nat} {hp : HP} {v : HP} (h : fX1_reachOnce a0 a1 wr2 mr2 hp = some v) : Calls (d + 1) 29 [vI a0, vI a1, vR (7, wr2, mr2)] hp (rsV () v) := by
  replace h : ((fX7_at wr2 mr2 a0 hp).bind fun v1 => if v1 = m1 then ((fX7_put wr2 mr2 a0 a1 hp).bind fun hp4 => some hp4) else (some hp)) = some v := h
  show Ex (d + 1) kX1_reachOnce 0 [some (vI a0), some (vI a1), some (vR (7, wr2, mr2))] [] hp _
  refine Ex.go 2 (pc' := 2) (ls' := [some (vI a0), some (vI a1), some (vR (7, wr2, mr2))]) (st' := [vI a0, vR (7, wr2, mr2)]) (hp' := hp) (fun _ => rfl) ?_
  obtain ⟨v1, hv, h⟩ := Option.bind_eq_some_iff.mp h
  refine Ex.call (args := [vR (7, wr2, mr2), vI a0]) (rest := []) rfl rfl rfl (exX7_at (d := d + 0) hv) ?_
  show Ex (d + 1) kX1_reachOnce 5 [some (vI a0), some (vI a1), some (vR (7, wr2, mr2))] [vI v1] hp _
  refine Ex.go 1 (pc' := 6) (ls' := [some (vI a0), some (vI a1), some (vR (7, wr2, mr2))]) (st' := [vI m1, vI v1]) (hp' := hp) (fun _ => rfl) ?_
  refine Ex.icmp rfl ?_
  by_cases hc : v1 = m1
  · rw [if_pos hc] at h
    rw [brI_ne_p hc]
    show Ex (d + 1) kX1_reachOnce 9 [some (vI a0), some (vI a1), some (vR (7, wr2, mr2))] [] hp _
    refine Ex.go 3 (pc' := 12) (ls' := [some (vI a0), some (vI a1), some (vR (7, wr2, mr2))]) (st' := [vI a1, vI a0, vR (7, wr2, mr2)]) (hp' := hp) (fun _ => rfl) ?_
    obtain ⟨hp4, hv, h⟩ := Option.bind_eq_some_iff.mp h
    refine Ex.call (args := [vR (7, wr2, mr2), vI a0, vI a1]) (rest := []) rfl rfl rfl (exX7_put (d := d + 0) hv) ?_
    show Ex (d + 1) kX1_reachOnce 15 [some (vI a0), some (vI a1), some (vR (7, wr2, mr2))] [] hp4 _
    cases h
    exact Ex.ret rfl rfl rfl
  · rw [if_neg hc] at h
    rw [brI_ne_n hc]
    show Ex (d + 1) kX1_reachOnce 15 [some (vI a0), some (vI a1), some (vR (7, wr2, mr2))] [] hp _
    cases h
    exact Ex.ret rfl rfl rfl
def fX1_reachFrom_16 (m : Nat) (x1 : Int32) (x2 : Int32) (wr3 : Nat) (mr3 : Nat) (hp : HP) : Option HP := (fX1_tabFrom m x1 hp).bind fun v1 => (fX1_reachOnce v1 x2 wr3 mr3 hp).bind fun hp4 => (fX1_backFrom m x1 hp4).bind fun v5 => (fX1_reachOnce v5 x2 wr3 mr3 hp4).bind fun hp8 => some hp8
theorem exX1_reachFrom_16 {d : Nat} {m : Nat} {x1 : Int32} {x2 : Int32} {wr3 : Nat} {mr3 : Nat} {hp : HP} {v : HP} (h : fX1_reachFrom_16 m x1 x2 wr3 mr3 hp = some v) : Ex (d + 3) kX1_reachFrom 16 [some (vR (1, 0, m)), some (vI x1), some (vI x2), some (vR (7, wr3, mr3))] [] hp (rsV () v) := by
  replace h : ((fX1_tabFrom m x1 hp).bind fun v1 => (fX1_reachOnce v1 x2 wr3 mr3 hp).bind fun hp4 => (fX1_backFrom m x1 hp4).bind fun v5 => (fX1_reachOnce v5 x2 wr3 mr3 hp4).bind fun hp8 => some hp8) = some v := h
  refine Ex.go 2 (pc' := 18) (ls' := [some (vR (1, 0, m)), some (vI x1), some (vI x2), some (vR (7, wr3, mr3))]) (st' := [vI x1, vR (1, 0, m)]) (hp' := hp) (fun _ => rfl) ?_
  obtain ⟨v1, hv, h⟩ := Option.bind_eq_some_iff.mp h
  refine Ex.call (args := [vR (1, 0, m), vI x1]) (rest := []) rfl rfl rfl (exX1_tabFrom (d := d + 0) hv) ?_
  show Ex (d + 3) kX1_reachFrom 21 [some (vR (1, 0, m)), some (vI x1), some (vI x2), some (vR (7, wr3, mr3))] [vI v1] hp _
  refine Ex.go 2 (pc' := 23) (ls' := [some (vR (1, 0, m)), some (vI x1), some (vI x2), some (vR (7, wr3, mr3))]) (st' := [vR (7, wr3, mr3), vI x2, vI v1]) (hp' := hp) (fun _ => rfl) ?_
  obtain ⟨hp4, hv, h⟩ := Option.bind_eq_some_iff.mp h
  refine Ex.call (args := [vI v1, vI x2, vR (7, wr3, mr3)]) (rest := []) rfl rfl rfl (exX1_reachOnce (d := d + 1) hv) ?_
  show Ex (d + 3) kX1_reachFrom 26 [some (vR (1, 0, m)), some (vI x1), some (vI x2), some (vR (7, wr3, mr3))] [] hp4 _
  refine Ex.go 2 (pc' := 28) (ls' := [some (vR (1, 0, m)), some (vI x1), some (vI x2), some (vR (7, wr3, mr3))]) (st' := [vI x1, vR (1, 0, m)]) (hp' := hp4) (fun _ => rfl) ?_
  obtain ⟨v5, hv, h⟩ := Option.bind_eq_some_iff.mp h
  refine Ex.call (args := [vR (1, 0, m), vI x1]) (rest := []) rfl rfl rfl (exX1_backFrom (d := d + 1) hv) ?_
  show Ex (d + 3) kX1_reachFrom 31 [some (vR (1, 0, m)), some (vI x1), some (vI x2), some (vR (7, wr3, mr3))] [vI v5] hp4 _
  refine Ex.go 2 (pc' := 33) (ls' := [some (vR (1, 0, m)), some (vI x1), some (vI x2), some (vR (7, wr3, mr3))]) (st' := [vR (7, wr3, mr3), vI x2, vI v5]) (hp' := hp4) (fun _ => rfl) ?_
  obtain ⟨hp8, hv, h⟩ := Option.bind_eq_some_iff.mp h
  refine Ex.call (args := [vI v5, vI x2, vR (7, wr3, mr3)]) (rest := []) rfl rfl rfl (exX1_reachOnce (d := d + 1) hv) ?_
  show Ex (d + 3) kX1_reachFrom 36 [some (vR (1, 0, m)), some (vI x1), some (vI x2), some (vR (7, wr3, mr3))] [] hp8 _
  cases h
  exact Ex.ret rfl rfl rfl
def fX1_reachFrom (m : Nat) (a0 : Int32) (a1 : Int32) (wr2 : Nat) (mr2 : Nat) (hp : HP) : Option HP := (fX1_locksAt m a0 hp).bind fun v9 => if v9 = 0 then ((fX1_reachOnce (a0 + 1) a1 wr2 mr2 hp).bind fun hp12 => fX1_reachFrom_16 m a0 a1 wr2 mr2 hp12) else (fX1_reachFrom_16 m a0 a1 wr2 mr2 hp)
theorem exX1_reachFrom {d : Nat} {m : Nat} {a0 : Int32} {a1 : Int32} {wr2 : Nat} {mr2 : Nat} {hp : HP} {v : HP} (h : fX1_reachFrom m a0 a1 wr2 mr2 hp = some v) : Calls (d + 3) 28 [vR (1, 0, m), vI a0, vI a1, vR (7, wr2, mr2)] hp (rsV () v) := by
  replace h : ((fX1_locksAt m a0 hp).bind fun v9 => if v9 = 0 then ((fX1_reachOnce (a0 + 1) a1 wr2 mr2 hp).bind fun hp12 => fX1_reachFrom_16 m a0 a1 wr2 mr2 hp12) else (fX1_reachFrom_16 m a0 a1 wr2 mr2 hp)) = some v := h
  show Ex (d + 3) kX1_reachFrom 0 [some (vR (1, 0, m)), some (vI a0), some (vI a1), some (vR (7, wr2, mr2))] [] hp _
  refine Ex.go 2 (pc' := 2) (ls' := [some (vR (1, 0, m)), some (vI a0), some (vI a1), some (vR (7, wr2, mr2))]) (st' := [vI a0, vR (1, 0, m)]) (hp' := hp) (fun _ => rfl) ?_
  obtain ⟨v9, hv, h⟩ := Option.bind_eq_some_iff.mp h
  refine Ex.call (args := [vR (1, 0, m), vI a0]) (rest := []) rfl rfl rfl (exX1_locksAt (d := d + 1) hv) ?_
  show Ex (d + 3) kX1_reachFrom 5 [some (vR (1, 0, m)), some (vI a0), some (vI a1), some (vR (7, wr2, mr2))] [vI v9] hp _
  refine Ex.ifc rfl ?_
  by_cases hc : v9 = 0
  · rw [if_pos hc] at h
    rw [brI_ne_p hc]
    show Ex (d + 3) kX1_reachFrom 8 [some (vR (1, 0, m)), some (vI a0), some (vI a1), some (vR (7, wr2, mr2))] [] hp _
    refine Ex.go 5 (pc' := 13) (ls' := [some (vR (1, 0, m)), some (vI a0), some (vI a1), some (vR (7, wr2, mr2))]) (st' := [vR (7, wr2, mr2), vI a1, vI (a0 + 1)]) (hp' := hp) (fun _ => rfl) ?_
    obtain ⟨hp12, hv, h⟩ := Option.bind_eq_some_iff.mp h
    refine Ex.call (args := [vI (a0 + 1), vI a1, vR (7, wr2, mr2)]) (rest := []) rfl rfl rfl (exX1_reachOnce (d := d + 1) hv) ?_
    show Ex (d + 3) kX1_reachFrom 16 [some (vR (1, 0, m)), some (vI a0), some (vI a1), some (vR (7, wr2, mr2))] [] hp12 _
    exact exX1_reachFrom_16 h
  · rw [if_neg hc] at h
    rw [brI_ne_n hc]
    show Ex (d + 3) kX1_reachFrom 16 [some (vR (1, 0, m)), some (vI a0), some (vI a1), some (vR (7, wr2, mr2))] [] hp _
    exact exX1_reachFrom_16 h
def fX1_fewestKeysTo_72 (m : Nat) (x1 : Int32) (wr2 : Nat) (mr2 : Nat) (x3 : Int32) (x4 : Int32) (x5 : Int32) (k26 : Int32 → Nat → Nat → Int32 → Int32 → HP → Option (Int32 × HP)) (k44 : Int32 → Nat → Nat → Int32 → Int32 → Int32 → HP → Option (Int32 × HP)) (hp : HP) : Option (Int32 × HP) := k44 x1 wr2 mr2 x3 x4 (x5 + 1) hp
theorem exX1_fewestKeysTo_72 {d : Nat} {m : Nat} {x1 : Int32} {wr2 : Nat} {mr2 : Nat} {x3 : Int32} {x4 : Int32} {x5 : Int32} {hp : HP} {v : (Int32 × HP)} {k26 : Int32 → Nat → Nat → Int32 → Int32 → HP → Option (Int32 × HP)} {k44 : Int32 → Nat → Nat → Int32 → Int32 → Int32 → HP → Option (Int32 × HP)} (hk26 : ∀ (x1 : Int32) (wr2 : Nat) (mr2 : Nat) (x3 : Int32) (x4 : Int32) (j5 : Option VL) (hp : HP) (v : (Int32 × HP)), k26 x1 wr2 mr2 x3 x4 hp = some v → Ex (d + 4) kX1_fewestKeysTo 26 [some (vR (1, 0, m)), some (vI x1), some (vR (7, wr2, mr2)), some (vI x3), some (vI x4), j5] [] hp (rsI v.1 v.2)) (hk44 : ∀ (x1 : Int32) (wr2 : Nat) (mr2 : Nat) (x3 : Int32) (x4 : Int32) (x5 : Int32) (hp : HP) (v : (Int32 × HP)), k44 x1 wr2 mr2 x3 x4 x5 hp = some v → Ex (d + 4) kX1_fewestKeysTo 44 [some (vR (1, 0, m)), some (vI x1), some (vR (7, wr2, mr2)), some (vI x3), some (vI x4), some (vI x5)] [] hp (rsI v.1 v.2)) (h : fX1_fewestKeysTo_72 m x1 wr2 mr2 x3 x4 x5 k26 k44 hp = some v) : Ex (d + 4) kX1_fewestKeysTo 72 [some (vR (1, 0, m)), some (vI x1), some (vR (7, wr2, mr2)), some (vI x3), some (vI x4), some (vI x5)] [] hp (rsI v.1 v.2) := by
  replace h : (k44 x1 wr2 mr2 x3 x4 (x5 + 1) hp) = some v := h
  refine Ex.go 2 (pc' := 44) (ls' := [some (vR (1, 0, m)), some (vI x1), some (vR (7, wr2, mr2)), some (vI x3), some (vI x4), some (vI (x5 + 1))]) (st' := []) (hp' := hp) (fun _ => rfl) ?_
  exact hk44 _ _ _ _ _ _ _ _ h
def fX1_fewestKeysTo_44 (n : Nat) (m : Nat) (x1 : Int32) (wr2 : Nat) (mr2 : Nat) (x3 : Int32) (x4 : Int32) (x5 : Int32) (k26 : Int32 → Nat → Nat → Int32 → Int32 → HP → Option (Int32 × HP)) (hp : HP) : Option (Int32 × HP) := match n with
  | 0 => none
  | n + 1 => if x3 < x5 then (k26 x1 wr2 mr2 x3 (x4 + 1) hp) else ((fX7_at wr2 mr2 x5 hp).bind fun v1 => if v1 = x4 then ((fX1_reachFrom m x5 (x4 + 1) wr2 mr2 hp).bind fun hp4 => fX1_fewestKeysTo_72 m x1 wr2 mr2 x3 x4 x5 k26 (fun x1 wr2 mr2 x3 x4 x5 hq => fX1_fewestKeysTo_44 n m x1 wr2 mr2 x3 x4 x5 k26 hq) hp4) else (fX1_fewestKeysTo_72 m x1 wr2 mr2 x3 x4 x5 k26 (fun x1 wr2 mr2 x3 x4 x5 hq => fX1_fewestKeysTo_44 n m x1 wr2 mr2 x3 x4 x5 k26 hq) hp))
theorem exX1_fewestKeysTo_44 {d : Nat} {m : Nat} {k26 : Int32 → Nat → Nat → Int32 → Int32 → HP → Option (Int32 × HP)} (hk26 : ∀ (x1 : Int32) (wr2 : Nat) (mr2 : Nat) (x3 : Int32) (x4 : Int32) (j5 : Option VL) (hp : HP) (v : (Int32 × HP)), k26 x1 wr2 mr2 x3 x4 hp = some v → Ex (d + 4) kX1_fewestKeysTo 26 [some (vR (1, 0, m)), some (vI x1), some (vR (7, wr2, mr2)), some (vI x3), some (vI x4), j5] [] hp (rsI v.1 v.2)) : ∀ (n : Nat) (x1 : Int32) (wr2 : Nat) (mr2 : Nat) (x3 : Int32) (x4 : Int32) (x5 : Int32) (hp : HP) (v : (Int32 × HP)), fX1_fewestKeysTo_44 n m x1 wr2 mr2 x3 x4 x5 k26 hp = some v → Ex (d + 4) kX1_fewestKeysTo 44 [some (vR (1, 0, m)), some (vI x1), some (vR (7, wr2, mr2)), some (vI x3), some (vI x4), some (vI x5)] [] hp (rsI v.1 v.2) := by
  intro n
  induction n with
  | zero =>
    intro x1 wr2 mr2 x3 x4 x5 hp v h
    cases h
  | succ n ih =>
    intro x1 wr2 mr2 x3 x4 x5 hp v h
    replace h : (if x3 < x5 then (k26 x1 wr2 mr2 x3 (x4 + 1) hp) else ((fX7_at wr2 mr2 x5 hp).bind fun v1 => if v1 = x4 then ((fX1_reachFrom m x5 (x4 + 1) wr2 mr2 hp).bind fun hp4 => fX1_fewestKeysTo_72 m x1 wr2 mr2 x3 x4 x5 k26 (fun x1 wr2 mr2 x3 x4 x5 hq => fX1_fewestKeysTo_44 n m x1 wr2 mr2 x3 x4 x5 k26 hq) hp4) else (fX1_fewestKeysTo_72 m x1 wr2 mr2 x3 x4 x5 k26 (fun x1 wr2 mr2 x3 x4 x5 hq => fX1_fewestKeysTo_44 n m x1 wr2 mr2 x3 x4 x5 k26 hq) hp))) = some v := h
    refine Ex.go 2 (pc' := 47) (ls' := [some (vR (1, 0, m)), some (vI x1), some (vR (7, wr2, mr2)), some (vI x3), some (vI x4), some (vI x5)]) (st' := [vI x3, vI x5]) (hp' := hp) (fun _ => rfl) ?_
    refine Ex.icmp rfl ?_
    by_cases hc : x3 < x5
    · rw [if_pos hc] at h
      rw [brI_gt_p hc]
      show Ex (d + 4) kX1_fewestKeysTo 78 [some (vR (1, 0, m)), some (vI x1), some (vR (7, wr2, mr2)), some (vI x3), some (vI x4), some (vI x5)] [] hp _
      refine Ex.go 2 (pc' := 26) (ls' := [some (vR (1, 0, m)), some (vI x1), some (vR (7, wr2, mr2)), some (vI x3), some (vI (x4 + 1)), some (vI x5)]) (st' := []) (hp' := hp) (fun _ => rfl) ?_
      exact hk26 _ _ _ _ _ _ _ _ h
    · rw [if_neg hc] at h
      rw [brI_gt_n hc]
      show Ex (d + 4) kX1_fewestKeysTo 50 [some (vR (1, 0, m)), some (vI x1), some (vR (7, wr2, mr2)), some (vI x3), some (vI x4), some (vI x5)] [] hp _
      refine Ex.go 2 (pc' := 53) (ls' := [some (vR (1, 0, m)), some (vI x1), some (vR (7, wr2, mr2)), some (vI x3), some (vI x4), some (vI x5)]) (st' := [vI x5, vR (7, wr2, mr2)]) (hp' := hp) (fun _ => rfl) ?_
      obtain ⟨v1, hv, h⟩ := Option.bind_eq_some_iff.mp h
      refine Ex.call (args := [vR (7, wr2, mr2), vI x5]) (rest := []) rfl rfl rfl (exX7_at (d := d + 3) hv) ?_
      show Ex (d + 4) kX1_fewestKeysTo 56 [some (vR (1, 0, m)), some (vI x1), some (vR (7, wr2, mr2)), some (vI x3), some (vI x4), some (vI x5)] [vI v1] hp _
      refine Ex.go 1 (pc' := 58) (ls' := [some (vR (1, 0, m)), some (vI x1), some (vR (7, wr2, mr2)), some (vI x3), some (vI x4), some (vI x5)]) (st' := [vI x4, vI v1]) (hp' := hp) (fun _ => rfl) ?_
      refine Ex.icmp rfl ?_
      by_cases hc : v1 = x4
      · rw [if_pos hc] at h
        rw [brI_ne_p hc]
        show Ex (d + 4) kX1_fewestKeysTo 61 [some (vR (1, 0, m)), some (vI x1), some (vR (7, wr2, mr2)), some (vI x3), some (vI x4), some (vI x5)] [] hp _
        refine Ex.go 6 (pc' := 69) (ls' := [some (vR (1, 0, m)), some (vI x1), some (vR (7, wr2, mr2)), some (vI x3), some (vI x4), some (vI x5)]) (st' := [vR (7, wr2, mr2), vI (x4 + 1), vI x5, vR (1, 0, m)]) (hp' := hp) (fun _ => rfl) ?_
        obtain ⟨hp4, hv, h⟩ := Option.bind_eq_some_iff.mp h
        refine Ex.call (args := [vR (1, 0, m), vI x5, vI (x4 + 1), vR (7, wr2, mr2)]) (rest := []) rfl rfl rfl (exX1_reachFrom (d := d + 0) hv) ?_
        show Ex (d + 4) kX1_fewestKeysTo 72 [some (vR (1, 0, m)), some (vI x1), some (vR (7, wr2, mr2)), some (vI x3), some (vI x4), some (vI x5)] [] hp4 _
        exact exX1_fewestKeysTo_72 hk26 (fun q0 q1 q2 q3 q4 q5 q6 q7 hv => ih q0 q1 q2 q3 q4 q5 q6 q7 hv) h
      · rw [if_neg hc] at h
        rw [brI_ne_n hc]
        show Ex (d + 4) kX1_fewestKeysTo 72 [some (vR (1, 0, m)), some (vI x1), some (vR (7, wr2, mr2)), some (vI x3), some (vI x4), some (vI x5)] [] hp _
        exact exX1_fewestKeysTo_72 hk26 (fun q0 q1 q2 q3 q4 q5 q6 q7 hv => ih q0 q1 q2 q3 q4 q5 q6 q7 hv) h
def fX1_fewestKeysTo_84 (m : Nat) (x1 : Int32) (wr2 : Nat) (mr2 : Nat) (hp : HP) : Option (Int32 × HP) := (fX7_at wr2 mr2 x1 hp).bind fun v5 => some (v5, hp)
theorem exX1_fewestKeysTo_84 {d : Nat} {m : Nat} {x1 : Int32} {wr2 : Nat} {mr2 : Nat} {j3 : Option VL} {j4 : Option VL} {j5 : Option VL} {hp : HP} {v : (Int32 × HP)} (h : fX1_fewestKeysTo_84 m x1 wr2 mr2 hp = some v) : Ex (d + 4) kX1_fewestKeysTo 84 [some (vR (1, 0, m)), some (vI x1), some (vR (7, wr2, mr2)), j3, j4, j5] [] hp (rsI v.1 v.2) := by
  replace h : ((fX7_at wr2 mr2 x1 hp).bind fun v5 => some (v5, hp)) = some v := h
  refine Ex.go 2 (pc' := 86) (ls' := [some (vR (1, 0, m)), some (vI x1), some (vR (7, wr2, mr2)), j3, j4, j5]) (st' := [vI x1, vR (7, wr2, mr2)]) (hp' := hp) (fun _ => rfl) ?_
  obtain ⟨v5, hv, h⟩ := Option.bind_eq_some_iff.mp h
  refine Ex.call (args := [vR (7, wr2, mr2), vI x1]) (rest := []) rfl rfl rfl (exX7_at (d := d + 3) hv) ?_
  show Ex (d + 4) kX1_fewestKeysTo 89 [some (vR (1, 0, m)), some (vI x1), some (vR (7, wr2, mr2)), j3, j4, j5] [vI v5] hp _
  cases h
  exact Ex.ret rfl rfl rfl
def fX1_fewestKeysTo_26 (n : Nat) (m : Nat) (x1 : Int32) (wr2 : Nat) (mr2 : Nat) (x3 : Int32) (x4 : Int32) (hp : HP) : Option (Int32 × HP) := match n with
  | 0 => none
  | n + 1 => if x3 < x4 then (fX1_fewestKeysTo_84 m x1 wr2 mr2 hp) else ((fX7_at wr2 mr2 x1 hp).bind fun v6 => if v6 = m1 then (fX1_fewestKeysTo_44 FU m x1 wr2 mr2 x3 x4 0 (fun x1 wr2 mr2 x3 x4 hq => fX1_fewestKeysTo_26 n m x1 wr2 mr2 x3 x4 hq) hp) else (fX1_fewestKeysTo_84 m x1 wr2 mr2 hp))
theorem exX1_fewestKeysTo_26 {d : Nat} {m : Nat} : ∀ (n : Nat) (x1 : Int32) (wr2 : Nat) (mr2 : Nat) (x3 : Int32) (x4 : Int32) (j5 : Option VL) (hp : HP) (v : (Int32 × HP)), fX1_fewestKeysTo_26 n m x1 wr2 mr2 x3 x4 hp = some v → Ex (d + 4) kX1_fewestKeysTo 26 [some (vR (1, 0, m)), some (vI x1), some (vR (7, wr2, mr2)), some (vI x3), some (vI x4), j5] [] hp (rsI v.1 v.2) := by
  intro n
  induction n with
  | zero =>
    intro x1 wr2 mr2 x3 x4 j5 hp v h
    cases h
  | succ n ih =>
    intro x1 wr2 mr2 x3 x4 j5 hp v h
    replace h : (if x3 < x4 then (fX1_fewestKeysTo_84 m x1 wr2 mr2 hp) else ((fX7_at wr2 mr2 x1 hp).bind fun v6 => if v6 = m1 then (fX1_fewestKeysTo_44 FU m x1 wr2 mr2 x3 x4 0 (fun x1 wr2 mr2 x3 x4 hq => fX1_fewestKeysTo_26 n m x1 wr2 mr2 x3 x4 hq) hp) else (fX1_fewestKeysTo_84 m x1 wr2 mr2 hp))) = some v := h
    refine Ex.go 2 (pc' := 29) (ls' := [some (vR (1, 0, m)), some (vI x1), some (vR (7, wr2, mr2)), some (vI x3), some (vI x4), j5]) (st' := [vI x3, vI x4]) (hp' := hp) (fun _ => rfl) ?_
    refine Ex.icmp rfl ?_
    by_cases hc : x3 < x4
    · rw [if_pos hc] at h
      rw [brI_gt_p hc]
      show Ex (d + 4) kX1_fewestKeysTo 84 [some (vR (1, 0, m)), some (vI x1), some (vR (7, wr2, mr2)), some (vI x3), some (vI x4), j5] [] hp _
      exact exX1_fewestKeysTo_84 h
    · rw [if_neg hc] at h
      rw [brI_gt_n hc]
      show Ex (d + 4) kX1_fewestKeysTo 32 [some (vR (1, 0, m)), some (vI x1), some (vR (7, wr2, mr2)), some (vI x3), some (vI x4), j5] [] hp _
      refine Ex.go 2 (pc' := 34) (ls' := [some (vR (1, 0, m)), some (vI x1), some (vR (7, wr2, mr2)), some (vI x3), some (vI x4), j5]) (st' := [vI x1, vR (7, wr2, mr2)]) (hp' := hp) (fun _ => rfl) ?_
      obtain ⟨v6, hv, h⟩ := Option.bind_eq_some_iff.mp h
      refine Ex.call (args := [vR (7, wr2, mr2), vI x1]) (rest := []) rfl rfl rfl (exX7_at (d := d + 3) hv) ?_
      show Ex (d + 4) kX1_fewestKeysTo 37 [some (vR (1, 0, m)), some (vI x1), some (vR (7, wr2, mr2)), some (vI x3), some (vI x4), j5] [vI v6] hp _
      refine Ex.go 1 (pc' := 38) (ls' := [some (vR (1, 0, m)), some (vI x1), some (vR (7, wr2, mr2)), some (vI x3), some (vI x4), j5]) (st' := [vI m1, vI v6]) (hp' := hp) (fun _ => rfl) ?_
      refine Ex.icmp rfl ?_
      by_cases hc : v6 = m1
      · rw [if_pos hc] at h
        rw [brI_ne_p hc]
        show Ex (d + 4) kX1_fewestKeysTo 41 [some (vR (1, 0, m)), some (vI x1), some (vR (7, wr2, mr2)), some (vI x3), some (vI x4), j5] [] hp _
        refine Ex.go 2 (pc' := 44) (ls' := [some (vR (1, 0, m)), some (vI x1), some (vR (7, wr2, mr2)), some (vI x3), some (vI x4), some (vI 0)]) (st' := []) (hp' := hp) (fun _ => rfl) ?_
        exact exX1_fewestKeysTo_44 (fun q0 q1 q2 q3 q4 q5 q6 q7 hv => ih q0 q1 q2 q3 q4 q5 q6 q7 hv) FU _ _ _ _ _ _ _ _ h
      · rw [if_neg hc] at h
        rw [brI_ne_n hc]
        show Ex (d + 4) kX1_fewestKeysTo 84 [some (vR (1, 0, m)), some (vI x1), some (vR (7, wr2, mr2)), some (vI x3), some (vI x4), j5] [] hp _
        exact exX1_fewestKeysTo_84 h
def fX1_fewestKeysTo (m : Nat) (a0 : Int32) (wr1 : Nat) (mr1 : Nat) (hp : HP) : Option (Int32 × HP) := (fX7_fill wr1 mr1 m1 hp).bind fun hp9 => (fX7_put wr1 mr1 (hp9 (1, 0, m) 3) 0 hp9).bind fun hp12 => (fX7_at 0 m 0 hp12).bind fun v13 => fX1_fewestKeysTo_26 FU m a0 wr1 mr1 v13 0 hp12
theorem exX1_fewestKeysTo {d : Nat} {m : Nat} {a0 : Int32} {wr1 : Nat} {mr1 : Nat} {hp : HP} {v : (Int32 × HP)} (h : fX1_fewestKeysTo m a0 wr1 mr1 hp = some v) : Calls (d + 4) 27 [vR (1, 0, m), vI a0, vR (7, wr1, mr1)] hp (rsI v.1 v.2) := by
  replace h : ((fX7_fill wr1 mr1 m1 hp).bind fun hp9 => (fX7_put wr1 mr1 (hp9 (1, 0, m) 3) 0 hp9).bind fun hp12 => (fX7_at 0 m 0 hp12).bind fun v13 => fX1_fewestKeysTo_26 FU m a0 wr1 mr1 v13 0 hp12) = some v := h
  show Ex (d + 4) kX1_fewestKeysTo 0 [some (vR (1, 0, m)), some (vI a0), some (vR (7, wr1, mr1)), none, none, none] [] hp _
  refine Ex.go 2 (pc' := 2) (ls' := [some (vR (1, 0, m)), some (vI a0), some (vR (7, wr1, mr1)), none, none, none]) (st' := [vI m1, vR (7, wr1, mr1)]) (hp' := hp) (fun _ => rfl) ?_
  obtain ⟨hp9, hv, h⟩ := Option.bind_eq_some_iff.mp h
  refine Ex.call (args := [vR (7, wr1, mr1), vI m1]) (rest := []) rfl rfl rfl (exX7_fill (d := d + 3) hv) ?_
  show Ex (d + 4) kX1_fewestKeysTo 5 [some (vR (1, 0, m)), some (vI a0), some (vR (7, wr1, mr1)), none, none, none] [] hp9 _
  refine Ex.go 4 (pc' := 11) (ls' := [some (vR (1, 0, m)), some (vI a0), some (vR (7, wr1, mr1)), none, none, none]) (st' := [vI 0, vI (hp9 (1, 0, m) 3), vR (7, wr1, mr1)]) (hp' := hp9) (fun _ => rfl) ?_
  obtain ⟨hp12, hv, h⟩ := Option.bind_eq_some_iff.mp h
  refine Ex.call (args := [vR (7, wr1, mr1), vI (hp9 (1, 0, m) 3), vI 0]) (rest := []) rfl rfl rfl (exX7_put (d := d + 3) hv) ?_
  show Ex (d + 4) kX1_fewestKeysTo 14 [some (vR (1, 0, m)), some (vI a0), some (vR (7, wr1, mr1)), none, none, none] [] hp12 _
  refine Ex.go 3 (pc' := 19) (ls' := [some (vR (1, 0, m)), some (vI a0), some (vR (7, wr1, mr1)), none, none, none]) (st' := [vI 0, vR (7, 0, m)]) (hp' := hp12) (fun _ => rfl) ?_
  obtain ⟨v13, hv, h⟩ := Option.bind_eq_some_iff.mp h
  refine Ex.call (args := [vR (7, 0, m), vI 0]) (rest := []) rfl rfl rfl (exX7_at (d := d + 3) hv) ?_
  show Ex (d + 4) kX1_fewestKeysTo 22 [some (vR (1, 0, m)), some (vI a0), some (vR (7, wr1, mr1)), none, none, none] [vI v13] hp12 _
  refine Ex.go 3 (pc' := 26) (ls' := [some (vR (1, 0, m)), some (vI a0), some (vR (7, wr1, mr1)), some (vI v13), some (vI 0), none]) (st' := []) (hp' := hp12) (fun _ => rfl) ?_
  exact exX1_fewestKeysTo_26 FU _ _ _ _ _ _ _ _ h
def fX2_clear (hp : HP) : Option HP := some (up hp (2, 0, 0) 2 0)
theorem exX2_clear {d : Nat} {hp : HP} {v : HP} (h : fX2_clear hp = some v) : Calls (d + 0) 30 [vR (2, 0, 0)] hp (rsV () v) := by
  replace h : (some (up hp (2, 0, 0) 2 0)) = some v := h
  show Ex (d + 0) kX2_clear 0 [some (vR (2, 0, 0))] [] hp _
  refine Ex.go 3 (pc' := 5) (ls' := [some (vR (2, 0, 0))]) (st' := []) (hp' := (up hp (2, 0, 0) 2 0)) (fun _ => rfl) ?_
  cases h
  exact Ex.ret rfl rfl rfl
def fX2_placeOf_32 (hp : HP) : Option Nat := none
theorem exX2_placeOf_32 {d : Nat} {j1 : Option VL} {j2 : Option VL} {hp : HP} {v : Nat} (h : fX2_placeOf_32 hp = some v) : Ex (d + 0) kX2_placeOf 32 [some (vR (2, 0, 0)), j1, j2] [] hp (rsM v hp) := by
  replace h : (none) = some v := h
  cases h
def fX2_placeOf (a0 : Int32) (hp : HP) : Option Nat := if (irm ((hp (2, 0, 0) 1) + a0) 8) < 0 then (fX2_placeOf_32 hp) else (if (irm ((hp (2, 0, 0) 1) + a0) 8) < (nI (alen (13, 0, 0))) then (if inb (irm ((hp (2, 0, 0) 1) + a0) 8) 8 = true then (some (2 + (irm ((hp (2, 0, 0) 1) + a0) 8).toNatClampNeg)) else none) else (fX2_placeOf_32 hp))
theorem exX2_placeOf {d : Nat} {a0 : Int32} {hp : HP} {v : Nat} (h : fX2_placeOf a0 hp = some v) : Calls (d + 0) 33 [vR (2, 0, 0), vI a0] hp (rsM v hp) := by
  replace h : (if (irm ((hp (2, 0, 0) 1) + a0) 8) < 0 then (fX2_placeOf_32 hp) else (if (irm ((hp (2, 0, 0) 1) + a0) 8) < (nI (alen (13, 0, 0))) then (if inb (irm ((hp (2, 0, 0) 1) + a0) 8) 8 = true then (some (2 + (irm ((hp (2, 0, 0) 1) + a0) 8).toNatClampNeg)) else none) else (fX2_placeOf_32 hp))) = some v := h
  show Ex (d + 0) kX2_placeOf 0 [some (vR (2, 0, 0)), some (vI a0), none] [] hp _
  refine Ex.go 5 (pc' := 8) (ls' := [some (vR (2, 0, 0)), some (vI a0), none]) (st' := [vI 8, vI ((hp (2, 0, 0) 1) + a0)]) (hp' := hp) (fun _ => rfl) ?_
  refine Ex.irem rfl (by decide) ?_
  show Ex (d + 0) kX2_placeOf 9 [some (vR (2, 0, 0)), some (vI a0), none] [vI (irm ((hp (2, 0, 0) 1) + a0) 8)] hp _
  refine Ex.go 2 (pc' := 11) (ls' := [some (vR (2, 0, 0)), some (vI a0), some (vI (irm ((hp (2, 0, 0) 1) + a0) 8))]) (st' := [vI (irm ((hp (2, 0, 0) 1) + a0) 8)]) (hp' := hp) (fun _ => rfl) ?_
  refine Ex.ifc rfl ?_
  by_cases hc : (irm ((hp (2, 0, 0) 1) + a0) 8) < 0
  · rw [if_pos hc] at h
    rw [brI_lt_p hc]
    show Ex (d + 0) kX2_placeOf 32 [some (vR (2, 0, 0)), some (vI a0), some (vI (irm ((hp (2, 0, 0) 1) + a0) 8))] [] hp _
    exact exX2_placeOf_32 h
  · rw [if_neg hc] at h
    rw [brI_lt_n hc]
    show Ex (d + 0) kX2_placeOf 14 [some (vR (2, 0, 0)), some (vI a0), some (vI (irm ((hp (2, 0, 0) 1) + a0) 8))] [] hp _
    refine Ex.go 4 (pc' := 20) (ls' := [some (vR (2, 0, 0)), some (vI a0), some (vI (irm ((hp (2, 0, 0) 1) + a0) 8))]) (st' := [vI (nI (alen (13, 0, 0))), vI (irm ((hp (2, 0, 0) 1) + a0) 8)]) (hp' := hp) (fun _ => rfl) ?_
    refine Ex.icmp rfl ?_
    by_cases hc : (irm ((hp (2, 0, 0) 1) + a0) 8) < (nI (alen (13, 0, 0)))
    · rw [if_pos hc] at h
      rw [brI_ge_p hc]
      show Ex (d + 0) kX2_placeOf 23 [some (vR (2, 0, 0)), some (vI a0), some (vI (irm ((hp (2, 0, 0) 1) + a0) 8))] [] hp _
      refine Ex.go 3 (pc' := 28) (ls' := [some (vR (2, 0, 0)), some (vI a0), some (vI (irm ((hp (2, 0, 0) 1) + a0) 8))]) (st' := [vI (irm ((hp (2, 0, 0) 1) + a0) 8), vR (13, 0, 0)]) (hp' := hp) (fun _ => rfl) ?_
      by_cases hc : inb (irm ((hp (2, 0, 0) 1) + a0) 8) 8 = true
      · rw [if_pos hc] at h
        refine Ex.aald rfl rfl hc ?_
        show Ex (d + 0) kX2_placeOf 29 [some (vR (2, 0, 0)), some (vI a0), some (vI (irm ((hp (2, 0, 0) 1) + a0) 8))] [vR (3, 0, (2 + (irm ((hp (2, 0, 0) 1) + a0) 8).toNatClampNeg))] hp _
        refine Ex.go 1 (pc' := 33) (ls' := [some (vR (2, 0, 0)), some (vI a0), some (vI (irm ((hp (2, 0, 0) 1) + a0) 8))]) (st' := [vR (3, 0, (2 + (irm ((hp (2, 0, 0) 1) + a0) 8).toNatClampNeg))]) (hp' := hp) (fun _ => rfl) ?_
        cases h
        exact Ex.ret rfl rfl rfl
      · rw [if_neg hc] at h
        cases h
    · rw [if_neg hc] at h
      rw [brI_ge_n hc]
      show Ex (d + 0) kX2_placeOf 32 [some (vR (2, 0, 0)), some (vI a0), some (vI (irm ((hp (2, 0, 0) 1) + a0) 8))] [] hp _
      exact exX2_placeOf_32 h
def fX3_copyMotionFrom (m : Nat) (mr0 : Nat) (hp : HP) : Option HP := (fX7_copyFrom 0 m 0 mr0 hp).bind fun hp3 => (fX1_copyFrom m mr0 hp3).bind fun hp6 => (fX0_copyFrom m mr0 hp6).bind fun hp9 => some (up hp9 (3, 0, m) 6 (hp9 (3, 0, mr0) 6))
theorem exX3_copyMotionFrom {d : Nat} {m : Nat} {mr0 : Nat} {hp : HP} {v : HP} (h : fX3_copyMotionFrom m mr0 hp = some v) : Calls (d + 4) 35 [vR (3, 0, m), vR (3, 0, mr0)] hp (rsV () v) := by
  replace h : ((fX7_copyFrom 0 m 0 mr0 hp).bind fun hp3 => (fX1_copyFrom m mr0 hp3).bind fun hp6 => (fX0_copyFrom m mr0 hp6).bind fun hp9 => some (up hp9 (3, 0, m) 6 (hp9 (3, 0, mr0) 6))) = some v := h
  show Ex (d + 4) kX3_copyMotionFrom 0 [some (vR (3, 0, m)), some (vR (3, 0, mr0))] [] hp _
  refine Ex.go 4 (pc' := 8) (ls' := [some (vR (3, 0, m)), some (vR (3, 0, mr0))]) (st' := [vR (7, 0, mr0), vR (7, 0, m)]) (hp' := hp) (fun _ => rfl) ?_
  obtain ⟨hp3, hv, h⟩ := Option.bind_eq_some_iff.mp h
  refine Ex.call (args := [vR (7, 0, m), vR (7, 0, mr0)]) (rest := []) rfl rfl rfl (exX7_copyFrom (d := d + 1) hv) ?_
  show Ex (d + 4) kX3_copyMotionFrom 11 [some (vR (3, 0, m)), some (vR (3, 0, mr0))] [] hp3 _
  refine Ex.go 4 (pc' := 19) (ls' := [some (vR (3, 0, m)), some (vR (3, 0, mr0))]) (st' := [vR (1, 0, mr0), vR (1, 0, m)]) (hp' := hp3) (fun _ => rfl) ?_
  obtain ⟨hp6, hv, h⟩ := Option.bind_eq_some_iff.mp h
  refine Ex.call (args := [vR (1, 0, m), vR (1, 0, mr0)]) (rest := []) rfl rfl rfl (exX1_copyFrom (d := d + 0) hv) ?_
  show Ex (d + 4) kX3_copyMotionFrom 22 [some (vR (3, 0, m)), some (vR (3, 0, mr0))] [] hp6 _
  refine Ex.go 4 (pc' := 30) (ls' := [some (vR (3, 0, m)), some (vR (3, 0, mr0))]) (st' := [vR (0, 0, mr0), vR (0, 0, m)]) (hp' := hp6) (fun _ => rfl) ?_
  obtain ⟨hp9, hv, h⟩ := Option.bind_eq_some_iff.mp h
  refine Ex.call (args := [vR (0, 0, m), vR (0, 0, mr0)]) (rest := []) rfl rfl rfl (exX0_copyFrom (d := d + 0) hv) ?_
  show Ex (d + 4) kX3_copyMotionFrom 33 [some (vR (3, 0, m)), some (vR (3, 0, mr0))] [] hp9 _
  refine Ex.go 4 (pc' := 41) (ls' := [some (vR (3, 0, m)), some (vR (3, 0, mr0))]) (st' := []) (hp' := (up hp9 (3, 0, m) 6 (hp9 (3, 0, mr0) 6))) (fun _ => rfl) ?_
  cases h
  exact Ex.ret rfl rfl rfl
def fX6_copyFrom_27 (m : Nat) (mr1 : Nat) (hp : HP) : Option HP := some (up hp (6, 0, m) 4 (hp (6, 0, mr1) 4))
theorem exX6_copyFrom_27 {d : Nat} {m : Nat} {mr1 : Nat} {hp : HP} {v : HP} (h : fX6_copyFrom_27 m mr1 hp = some v) : Ex (d + 3) kX6_copyFrom 27 [some (vR (6, 0, m)), some (vR (6, 0, mr1))] [] hp (rsV () v) := by
  replace h : (some (up hp (6, 0, m) 4 (hp (6, 0, mr1) 4))) = some v := h
  refine Ex.go 4 (pc' := 35) (ls' := [some (vR (6, 0, m)), some (vR (6, 0, mr1))]) (st' := []) (hp' := (up hp (6, 0, m) 4 (hp (6, 0, mr1) 4))) (fun _ => rfl) ?_
  cases h
  exact Ex.ret rfl rfl rfl
def fX6_copyFrom_19 (m : Nat) (mr1 : Nat) (hp : HP) : Option HP := if isB (hp (6, 0, mr1) 3) = true then (fX6_copyFrom_27 m mr1 (up hp (6, 0, m) 3 (hp (6, 0, mr1) 3))) else none
theorem exX6_copyFrom_19 {d : Nat} {m : Nat} {mr1 : Nat} {hp : HP} {v : HP} (h : fX6_copyFrom_19 m mr1 hp = some v) : Ex (d + 3) kX6_copyFrom 19 [some (vR (6, 0, m)), some (vR (6, 0, mr1))] [] hp (rsV () v) := by
  replace h : (if isB (hp (6, 0, mr1) 3) = true then (fX6_copyFrom_27 m mr1 (up hp (6, 0, m) 3 (hp (6, 0, mr1) 3))) else none) = some v := h
  refine Ex.go 3 (pc' := 24) (ls' := [some (vR (6, 0, m)), some (vR (6, 0, mr1))]) (st' := [vI (hp (6, 0, mr1) 3), vR (6, 0, m)]) (hp' := hp) (fun _ => rfl) ?_
  by_cases hc : isB (hp (6, 0, mr1) 3) = true
  · rw [if_pos hc] at h
    refine Ex.putz rfl rfl rfl hc rfl ?_
    show Ex (d + 3) kX6_copyFrom 27 [some (vR (6, 0, m)), some (vR (6, 0, mr1))] [] (up hp (6, 0, m) 3 (hp (6, 0, mr1) 3)) _
    exact exX6_copyFrom_27 h
  · rw [if_neg hc] at h
    cases h
def fX6_copyFrom (m : Nat) (mr0 : Nat) (hp : HP) : Option HP := (fX7_copyFrom 1 m 1 mr0 hp).bind fun hp3 => fX6_copyFrom_19 m mr0 (up hp3 (6, 0, m) 2 (hp3 (6, 0, mr0) 2))
theorem exX6_copyFrom {d : Nat} {m : Nat} {mr0 : Nat} {hp : HP} {v : HP} (h : fX6_copyFrom m mr0 hp = some v) : Calls (d + 3) 76 [vR (6, 0, m), vR (6, 0, mr0)] hp (rsV () v) := by
  replace h : ((fX7_copyFrom 1 m 1 mr0 hp).bind fun hp3 => fX6_copyFrom_19 m mr0 (up hp3 (6, 0, m) 2 (hp3 (6, 0, mr0) 2))) = some v := h
  show Ex (d + 3) kX6_copyFrom 0 [some (vR (6, 0, m)), some (vR (6, 0, mr0))] [] hp _
  refine Ex.go 4 (pc' := 8) (ls' := [some (vR (6, 0, m)), some (vR (6, 0, mr0))]) (st' := [vR (7, 1, mr0), vR (7, 1, m)]) (hp' := hp) (fun _ => rfl) ?_
  obtain ⟨hp3, hv, h⟩ := Option.bind_eq_some_iff.mp h
  refine Ex.call (args := [vR (7, 1, m), vR (7, 1, mr0)]) (rest := []) rfl rfl rfl (exX7_copyFrom (d := d + 0) hv) ?_
  show Ex (d + 3) kX6_copyFrom 11 [some (vR (6, 0, m)), some (vR (6, 0, mr0))] [] hp3 _
  refine Ex.go 4 (pc' := 19) (ls' := [some (vR (6, 0, m)), some (vR (6, 0, mr0))]) (st' := []) (hp' := (up hp3 (6, 0, m) 2 (hp3 (6, 0, mr0) 2))) (fun _ => rfl) ?_
  exact exX6_copyFrom_19 h
def fX4_copyFrom (m : Nat) (mr0 : Nat) (hp : HP) : Option HP := (fX7_copyFrom 2 m 2 mr0 hp).bind fun hp3 => (fX7_copyFrom 3 m 3 mr0 hp3).bind fun hp6 => some hp6
theorem exX4_copyFrom {d : Nat} {m : Nat} {mr0 : Nat} {hp : HP} {v : HP} (h : fX4_copyFrom m mr0 hp = some v) : Calls (d + 3) 51 [vR (4, 0, m), vR (4, 0, mr0)] hp (rsV () v) := by
  replace h : ((fX7_copyFrom 2 m 2 mr0 hp).bind fun hp3 => (fX7_copyFrom 3 m 3 mr0 hp3).bind fun hp6 => some hp6) = some v := h
  show Ex (d + 3) kX4_copyFrom 0 [some (vR (4, 0, m)), some (vR (4, 0, mr0))] [] hp _
  refine Ex.go 4 (pc' := 8) (ls' := [some (vR (4, 0, m)), some (vR (4, 0, mr0))]) (st' := [vR (7, 2, mr0), vR (7, 2, m)]) (hp' := hp) (fun _ => rfl) ?_
  obtain ⟨hp3, hv, h⟩ := Option.bind_eq_some_iff.mp h
  refine Ex.call (args := [vR (7, 2, m), vR (7, 2, mr0)]) (rest := []) rfl rfl rfl (exX7_copyFrom (d := d + 0) hv) ?_
  show Ex (d + 3) kX4_copyFrom 11 [some (vR (4, 0, m)), some (vR (4, 0, mr0))] [] hp3 _
  refine Ex.go 4 (pc' := 19) (ls' := [some (vR (4, 0, m)), some (vR (4, 0, mr0))]) (st' := [vR (7, 3, mr0), vR (7, 3, m)]) (hp' := hp3) (fun _ => rfl) ?_
  obtain ⟨hp6, hv, h⟩ := Option.bind_eq_some_iff.mp h
  refine Ex.call (args := [vR (7, 3, m), vR (7, 3, mr0)]) (rest := []) rfl rfl rfl (exX7_copyFrom (d := d + 0) hv) ?_
  show Ex (d + 3) kX4_copyFrom 22 [some (vR (4, 0, m)), some (vR (4, 0, mr0))] [] hp6 _
  cases h
  exact Ex.ret rfl rfl rfl
def fX3_copyFrom_46 (m : Nat) (mr1 : Nat) (hp : HP) : Option HP := some (up hp (3, 0, m) 8 (hp (3, 0, mr1) 8))
theorem exX3_copyFrom_46 {d : Nat} {m : Nat} {mr1 : Nat} {hp : HP} {v : HP} (h : fX3_copyFrom_46 m mr1 hp = some v) : Ex (d + 5) kX3_copyFrom 46 [some (vR (3, 0, m)), some (vR (3, 0, mr1))] [] hp (rsV () v) := by
  replace h : (some (up hp (3, 0, m) 8 (hp (3, 0, mr1) 8))) = some v := h
  refine Ex.go 4 (pc' := 54) (ls' := [some (vR (3, 0, m)), some (vR (3, 0, mr1))]) (st' := []) (hp' := (up hp (3, 0, m) 8 (hp (3, 0, mr1) 8))) (fun _ => rfl) ?_
  cases h
  exact Ex.ret rfl rfl rfl
def fX3_copyFrom (m : Nat) (mr0 : Nat) (hp : HP) : Option HP := (fX3_copyMotionFrom m mr0 hp).bind fun hp3 => (fX6_copyFrom m mr0 hp3).bind fun hp6 => (fX4_copyFrom m mr0 hp6).bind fun hp9 => (fX7_copyFrom 9 m 9 mr0 hp9).bind fun hp12 => fX3_copyFrom_46 m mr0 (up hp12 (3, 0, m) 7 (hp12 (3, 0, mr0) 7))
theorem exX3_copyFrom {d : Nat} {m : Nat} {mr0 : Nat} {hp : HP} {v : HP} (h : fX3_copyFrom m mr0 hp = some v) : Calls (d + 5) 34 [vR (3, 0, m), vR (3, 0, mr0)] hp (rsV () v) := by
  replace h : ((fX3_copyMotionFrom m mr0 hp).bind fun hp3 => (fX6_copyFrom m mr0 hp3).bind fun hp6 => (fX4_copyFrom m mr0 hp6).bind fun hp9 => (fX7_copyFrom 9 m 9 mr0 hp9).bind fun hp12 => fX3_copyFrom_46 m mr0 (up hp12 (3, 0, m) 7 (hp12 (3, 0, mr0) 7))) = some v := h
  show Ex (d + 5) kX3_copyFrom 0 [some (vR (3, 0, m)), some (vR (3, 0, mr0))] [] hp _
  refine Ex.go 2 (pc' := 2) (ls' := [some (vR (3, 0, m)), some (vR (3, 0, mr0))]) (st' := [vR (3, 0, mr0), vR (3, 0, m)]) (hp' := hp) (fun _ => rfl) ?_
  obtain ⟨hp3, hv, h⟩ := Option.bind_eq_some_iff.mp h
  refine Ex.call (args := [vR (3, 0, m), vR (3, 0, mr0)]) (rest := []) rfl rfl rfl (exX3_copyMotionFrom (d := d + 0) hv) ?_
  show Ex (d + 5) kX3_copyFrom 5 [some (vR (3, 0, m)), some (vR (3, 0, mr0))] [] hp3 _
  refine Ex.go 4 (pc' := 13) (ls' := [some (vR (3, 0, m)), some (vR (3, 0, mr0))]) (st' := [vR (6, 0, mr0), vR (6, 0, m)]) (hp' := hp3) (fun _ => rfl) ?_
  obtain ⟨hp6, hv, h⟩ := Option.bind_eq_some_iff.mp h
  refine Ex.call (args := [vR (6, 0, m), vR (6, 0, mr0)]) (rest := []) rfl rfl rfl (exX6_copyFrom (d := d + 1) hv) ?_
  show Ex (d + 5) kX3_copyFrom 16 [some (vR (3, 0, m)), some (vR (3, 0, mr0))] [] hp6 _
  refine Ex.go 4 (pc' := 24) (ls' := [some (vR (3, 0, m)), some (vR (3, 0, mr0))]) (st' := [vR (4, 0, mr0), vR (4, 0, m)]) (hp' := hp6) (fun _ => rfl) ?_
  obtain ⟨hp9, hv, h⟩ := Option.bind_eq_some_iff.mp h
  refine Ex.call (args := [vR (4, 0, m), vR (4, 0, mr0)]) (rest := []) rfl rfl rfl (exX4_copyFrom (d := d + 1) hv) ?_
  show Ex (d + 5) kX3_copyFrom 27 [some (vR (3, 0, m)), some (vR (3, 0, mr0))] [] hp9 _
  refine Ex.go 4 (pc' := 35) (ls' := [some (vR (3, 0, m)), some (vR (3, 0, mr0))]) (st' := [vR (7, 9, mr0), vR (7, 9, m)]) (hp' := hp9) (fun _ => rfl) ?_
  obtain ⟨hp12, hv, h⟩ := Option.bind_eq_some_iff.mp h
  refine Ex.call (args := [vR (7, 9, m), vR (7, 9, mr0)]) (rest := []) rfl rfl rfl (exX7_copyFrom (d := d + 2) hv) ?_
  show Ex (d + 5) kX3_copyFrom 38 [some (vR (3, 0, m)), some (vR (3, 0, mr0))] [] hp12 _
  refine Ex.go 4 (pc' := 46) (ls' := [some (vR (3, 0, m)), some (vR (3, 0, mr0))]) (st' := []) (hp' := (up hp12 (3, 0, m) 7 (hp12 (3, 0, mr0) 7))) (fun _ => rfl) ?_
  exact exX3_copyFrom_46 h
def fX2_keep_32 (mr1 : Nat) (hp : HP) : Option HP := (fX2_placeOf (hp (2, 0, 0) 2) hp).bind fun v1 => (fX3_copyFrom v1 mr1 hp).bind fun hp4 => some (up hp4 (2, 0, 0) 2 ((hp4 (2, 0, 0) 2) + 1))
theorem exX2_keep_32 {d : Nat} {mr1 : Nat} {j2 : Option VL} {hp : HP} {v : HP} (h : fX2_keep_32 mr1 hp = some v) : Ex (d + 6) kX2_keep 32 [some (vR (2, 0, 0)), some (vR (3, 0, mr1)), j2] [] hp (rsV () v) := by
  replace h : ((fX2_placeOf (hp (2, 0, 0) 2) hp).bind fun v1 => (fX3_copyFrom v1 mr1 hp).bind fun hp4 => some (up hp4 (2, 0, 0) 2 ((hp4 (2, 0, 0) 2) + 1))) = some v := h
  refine Ex.go 3 (pc' := 37) (ls' := [some (vR (2, 0, 0)), some (vR (3, 0, mr1)), j2]) (st' := [vI (hp (2, 0, 0) 2), vR (2, 0, 0)]) (hp' := hp) (fun _ => rfl) ?_
  obtain ⟨v1, hv, h⟩ := Option.bind_eq_some_iff.mp h
  refine Ex.call (args := [vR (2, 0, 0), vI (hp (2, 0, 0) 2)]) (rest := []) rfl rfl rfl (exX2_placeOf (d := d + 5) hv) ?_
  show Ex (d + 6) kX2_keep 40 [some (vR (2, 0, 0)), some (vR (3, 0, mr1)), j2] [vR (3, 0, v1)] hp _
  refine Ex.go 5 (pc' := 47) (ls' := [some (vR (2, 0, 0)), some (vR (3, 0, mr1)), some (vR (3, 0, v1))]) (st' := [vR (3, 0, mr1), vR (3, 0, v1)]) (hp' := hp) (fun _ => rfl) ?_
  obtain ⟨hp4, hv, h⟩ := Option.bind_eq_some_iff.mp h
  refine Ex.call (args := [vR (3, 0, v1), vR (3, 0, mr1)]) (rest := []) rfl rfl rfl (exX3_copyFrom (d := d + 0) hv) ?_
  show Ex (d + 6) kX2_keep 50 [some (vR (2, 0, 0)), some (vR (3, 0, mr1)), some (vR (3, 0, v1))] [] hp4 _
  refine Ex.go 6 (pc' := 60) (ls' := [some (vR (2, 0, 0)), some (vR (3, 0, mr1)), some (vR (3, 0, v1))]) (st' := []) (hp' := (up hp4 (2, 0, 0) 2 ((hp4 (2, 0, 0) 2) + 1))) (fun _ => rfl) ?_
  cases h
  exact Ex.ret rfl rfl rfl
def fX2_keep_22 (mr1 : Nat) (hp : HP) : Option HP := fX2_keep_32 mr1 (up hp (2, 0, 0) 2 ((hp (2, 0, 0) 2) - 1))
theorem exX2_keep_22 {d : Nat} {mr1 : Nat} {j2 : Option VL} {hp : HP} {v : HP} (h : fX2_keep_22 mr1 hp = some v) : Ex (d + 6) kX2_keep 22 [some (vR (2, 0, 0)), some (vR (3, 0, mr1)), j2] [] hp (rsV () v) := by
  replace h : (fX2_keep_32 mr1 (up hp (2, 0, 0) 2 ((hp (2, 0, 0) 2) - 1))) = some v := h
  refine Ex.go 6 (pc' := 32) (ls' := [some (vR (2, 0, 0)), some (vR (3, 0, mr1)), j2]) (st' := []) (hp' := (up hp (2, 0, 0) 2 ((hp (2, 0, 0) 2) - 1))) (fun _ => rfl) ?_
  exact exX2_keep_32 h
def fX2_keep (mr0 : Nat) (hp : HP) : Option HP := if (hp (2, 0, 0) 2) = 8 then (fX2_keep_22 mr0 (up hp (2, 0, 0) 1 (irm ((hp (2, 0, 0) 1) + 1) 8))) else (fX2_keep_32 mr0 hp)
theorem exX2_keep {d : Nat} {mr0 : Nat} {hp : HP} {v : HP} (h : fX2_keep mr0 hp = some v) : Calls (d + 6) 31 [vR (2, 0, 0), vR (3, 0, mr0)] hp (rsV () v) := by
  replace h : (if (hp (2, 0, 0) 2) = 8 then (fX2_keep_22 mr0 (up hp (2, 0, 0) 1 (irm ((hp (2, 0, 0) 1) + 1) 8))) else (fX2_keep_32 mr0 hp)) = some v := h
  show Ex (d + 6) kX2_keep 0 [some (vR (2, 0, 0)), some (vR (3, 0, mr0)), none] [] hp _
  refine Ex.go 3 (pc' := 6) (ls' := [some (vR (2, 0, 0)), some (vR (3, 0, mr0)), none]) (st' := [vI 8, vI (hp (2, 0, 0) 2)]) (hp' := hp) (fun _ => rfl) ?_
  refine Ex.icmp rfl ?_
  by_cases hc : (hp (2, 0, 0) 2) = 8
  · rw [if_pos hc] at h
    rw [brI_ne_p hc]
    show Ex (d + 6) kX2_keep 9 [some (vR (2, 0, 0)), some (vR (3, 0, mr0)), none] [] hp _
    refine Ex.go 6 (pc' := 18) (ls' := [some (vR (2, 0, 0)), some (vR (3, 0, mr0)), none]) (st' := [vI 8, vI ((hp (2, 0, 0) 1) + 1), vR (2, 0, 0)]) (hp' := hp) (fun _ => rfl) ?_
    refine Ex.irem rfl (by decide) ?_
    show Ex (d + 6) kX2_keep 19 [some (vR (2, 0, 0)), some (vR (3, 0, mr0)), none] [vI (irm ((hp (2, 0, 0) 1) + 1) 8), vR (2, 0, 0)] hp _
    refine Ex.go 1 (pc' := 22) (ls' := [some (vR (2, 0, 0)), some (vR (3, 0, mr0)), none]) (st' := []) (hp' := (up hp (2, 0, 0) 1 (irm ((hp (2, 0, 0) 1) + 1) 8))) (fun _ => rfl) ?_
    exact exX2_keep_22 h
  · rw [if_neg hc] at h
    rw [brI_ne_n hc]
    show Ex (d + 6) kX2_keep 32 [some (vR (2, 0, 0)), some (vR (3, 0, mr0)), none] [] hp _
    exact exX2_keep_32 h
def fX2_takeLatest (mr0 : Nat) (hp : HP) : Option HP := (fX2_placeOf ((hp (2, 0, 0) 2) - 1) hp).bind fun v1 => (fX3_copyFrom mr0 v1 hp).bind fun hp4 => some (up hp4 (2, 0, 0) 2 ((hp4 (2, 0, 0) 2) - 1))
theorem exX2_takeLatest {d : Nat} {mr0 : Nat} {hp : HP} {v : HP} (h : fX2_takeLatest mr0 hp = some v) : Calls (d + 6) 32 [vR (2, 0, 0), vR (3, 0, mr0)] hp (rsV () v) := by
  replace h : ((fX2_placeOf ((hp (2, 0, 0) 2) - 1) hp).bind fun v1 => (fX3_copyFrom mr0 v1 hp).bind fun hp4 => some (up hp4 (2, 0, 0) 2 ((hp4 (2, 0, 0) 2) - 1))) = some v := h
  show Ex (d + 6) kX2_takeLatest 0 [some (vR (2, 0, 0)), some (vR (3, 0, mr0)), none] [] hp _
  refine Ex.go 5 (pc' := 7) (ls' := [some (vR (2, 0, 0)), some (vR (3, 0, mr0)), none]) (st' := [vI ((hp (2, 0, 0) 2) - 1), vR (2, 0, 0)]) (hp' := hp) (fun _ => rfl) ?_
  obtain ⟨v1, hv, h⟩ := Option.bind_eq_some_iff.mp h
  refine Ex.call (args := [vR (2, 0, 0), vI ((hp (2, 0, 0) 2) - 1)]) (rest := []) rfl rfl rfl (exX2_placeOf (d := d + 5) hv) ?_
  show Ex (d + 6) kX2_takeLatest 10 [some (vR (2, 0, 0)), some (vR (3, 0, mr0)), none] [vR (3, 0, v1)] hp _
  refine Ex.go 5 (pc' := 17) (ls' := [some (vR (2, 0, 0)), some (vR (3, 0, mr0)), some (vR (3, 0, v1))]) (st' := [vR (3, 0, v1), vR (3, 0, mr0)]) (hp' := hp) (fun _ => rfl) ?_
  obtain ⟨hp4, hv, h⟩ := Option.bind_eq_some_iff.mp h
  refine Ex.call (args := [vR (3, 0, mr0), vR (3, 0, v1)]) (rest := []) rfl rfl rfl (exX3_copyFrom (d := d + 0) hv) ?_
  show Ex (d + 6) kX2_takeLatest 20 [some (vR (2, 0, 0)), some (vR (3, 0, mr0)), some (vR (3, 0, v1))] [] hp4 _
  refine Ex.go 6 (pc' := 30) (ls' := [some (vR (2, 0, 0)), some (vR (3, 0, mr0)), some (vR (3, 0, v1))]) (st' := []) (hp' := (up hp4 (2, 0, 0) 2 ((hp4 (2, 0, 0) 2) - 1))) (fun _ => rfl) ?_
  cases h
  exact Ex.ret rfl rfl rfl
def fX3_clear (m : Nat) (hp : HP) : Option HP := (fX7_fill 4 m 0 hp).bind fun hp3 => (fX0_clear m hp3).bind fun hp6 => some hp6
theorem exX3_clear {d : Nat} {m : Nat} {hp : HP} {v : HP} (h : fX3_clear m hp = some v) : Calls (d + 2) 36 [vR (3, 0, m)] hp (rsV () v) := by
  replace h : ((fX7_fill 4 m 0 hp).bind fun hp3 => (fX0_clear m hp3).bind fun hp6 => some hp6) = some v := h
  show Ex (d + 2) kX3_clear 0 [some (vR (3, 0, m))] [] hp _
  refine Ex.go 4 (pc' := 8) (ls' := [some (vR (3, 0, m))]) (st' := [vI 0, vR (7, 4, m)]) (hp' := hp) (fun _ => rfl) ?_
  obtain ⟨hp3, hv, h⟩ := Option.bind_eq_some_iff.mp h
  refine Ex.call (args := [vR (7, 4, m), vI 0]) (rest := []) rfl rfl rfl (exX7_fill (d := d + 1) hv) ?_
  show Ex (d + 2) kX3_clear 11 [some (vR (3, 0, m))] [] hp3 _
  refine Ex.go 2 (pc' := 15) (ls' := [some (vR (3, 0, m))]) (st' := [vR (0, 0, m)]) (hp' := hp3) (fun _ => rfl) ?_
  obtain ⟨hp6, hv, h⟩ := Option.bind_eq_some_iff.mp h
  refine Ex.call (args := [vR (0, 0, m)]) (rest := []) rfl rfl rfl (exX0_clear (d := d + 0) hv) ?_
  show Ex (d + 2) kX3_clear 18 [some (vR (3, 0, m))] [] hp6 _
  cases h
  exact Ex.ret rfl rfl rfl
end
