noncomputable section
def fX6_renew (m : Nat) (hp : HP) : Option HP := (fX7_at 0 m 10 hp).bind fun v1 => (fX7_fill 1 m v1 hp).bind fun hp4 => some (up (up hp4 (6, 0, m) 2 0) (6, 0, m) 3 1)
theorem exX6_renew {d : Nat} {m : Nat} {hp : HP} {v : HP} (h : fX6_renew m hp = some v) : Calls (d + 1) 77 [vR (6, 0, m)] hp (rsV () v) := by
  replace h : ((fX7_at 0 m 10 hp).bind fun v1 => (fX7_fill 1 m v1 hp).bind fun hp4 => some (up (up hp4 (6, 0, m) 2 0) (6, 0, m) 3 1)) = some v := h
  show Ex (d + 1) kX6_renew 0 [some (vR (6, 0, m))] [] hp _
  refine Ex.go 5 (pc' := 10) (ls' := [some (vR (6, 0, m))]) (st' := [vI 10, vR (7, 0, m), vR (7, 1, m)]) (hp' := hp) (fun _ => rfl) ?_
  obtain ⟨v1, hv, h⟩ := Option.bind_eq_some_iff.mp h
  refine Ex.call (args := [vR (7, 0, m), vI 10]) (rest := [vR (7, 1, m)]) rfl rfl rfl (exX7_at (d := d + 0) hv) ?_
  show Ex (d + 1) kX6_renew 13 [some (vR (6, 0, m))] [vI v1, vR (7, 1, m)] hp _
  obtain ⟨hp4, hv, h⟩ := Option.bind_eq_some_iff.mp h
  refine Ex.call (args := [vR (7, 1, m), vI v1]) (rest := []) rfl rfl rfl (exX7_fill (d := d + 0) hv) ?_
  show Ex (d + 1) kX6_renew 16 [some (vR (6, 0, m))] [] hp4 _
  refine Ex.go 5 (pc' := 23) (ls' := [some (vR (6, 0, m))]) (st' := [vI 1, vR (6, 0, m)]) (hp' := (up hp4 (6, 0, m) 2 0)) (fun _ => rfl) ?_
  refine Ex.putz rfl rfl rfl (by decide) rfl ?_
  show Ex (d + 1) kX6_renew 26 [some (vR (6, 0, m))] [] (up (up hp4 (6, 0, m) 2 0) (6, 0, m) 3 1) _
  cases h
  exact Ex.ret rfl rfl rfl
def fX4_clear (m : Nat) (hp : HP) : Option HP := (fX7_fill 2 m 32 hp).bind fun hp3 => (fX7_fill 3 m 0 hp3).bind fun hp6 => some hp6
theorem exX4_clear {d : Nat} {m : Nat} {hp : HP} {v : HP} (h : fX4_clear m hp = some v) : Calls (d + 1) 52 [vR (4, 0, m)] hp (rsV () v) := by
  replace h : ((fX7_fill 2 m 32 hp).bind fun hp3 => (fX7_fill 3 m 0 hp3).bind fun hp6 => some hp6) = some v := h
  show Ex (d + 1) kX4_clear 0 [some (vR (4, 0, m))] [] hp _
  refine Ex.go 3 (pc' := 6) (ls' := [some (vR (4, 0, m))]) (st' := [vI 32, vR (7, 2, m)]) (hp' := hp) (fun _ => rfl) ?_
  obtain ⟨hp3, hv, h⟩ := Option.bind_eq_some_iff.mp h
  refine Ex.call (args := [vR (7, 2, m), vI 32]) (rest := []) rfl rfl rfl (exX7_fill (d := d + 0) hv) ?_
  show Ex (d + 1) kX4_clear 9 [some (vR (4, 0, m))] [] hp3 _
  refine Ex.go 3 (pc' := 14) (ls' := [some (vR (4, 0, m))]) (st' := [vI 0, vR (7, 3, m)]) (hp' := hp3) (fun _ => rfl) ?_
  obtain ⟨hp6, hv, h⟩ := Option.bind_eq_some_iff.mp h
  refine Ex.call (args := [vR (7, 3, m), vI 0]) (rest := []) rfl rfl rfl (exX7_fill (d := d + 0) hv) ?_
  show Ex (d + 1) kX4_clear 17 [some (vR (4, 0, m))] [] hp6 _
  cases h
  exact Ex.ret rfl rfl rfl
def fX3_begin (m : Nat) (hp : HP) : Option HP := (fX7_put 0 m 12 1 hp).bind fun hp3 => (fX6_renew m hp3).bind fun hp6 => (fX4_clear m (up hp6 (6, 0, m) 4 0)).bind fun hp9 => (fX1_goHome m hp9).bind fun hp12 => (fX7_fill 9 m 0 hp12).bind fun hp15 => some (up (up (up hp15 (3, 0, m) 6 0) (3, 0, m) 7 0) (3, 0, m) 8 m1)
theorem exX3_begin {d : Nat} {m : Nat} {hp : HP} {v : HP} (h : fX3_begin m hp = some v) : Calls (d + 3) 37 [vR (3, 0, m)] hp (rsV () v) := by
  replace h : ((fX7_put 0 m 12 1 hp).bind fun hp3 => (fX6_renew m hp3).bind fun hp6 => (fX4_clear m (up hp6 (6, 0, m) 4 0)).bind fun hp9 => (fX1_goHome m hp9).bind fun hp12 => (fX7_fill 9 m 0 hp12).bind fun hp15 => some (up (up (up hp15 (3, 0, m) 6 0) (3, 0, m) 7 0) (3, 0, m) 8 m1)) = some v := h
  show Ex (d + 3) kX3_begin 0 [some (vR (3, 0, m))] [] hp _
  refine Ex.go 4 (pc' := 7) (ls' := [some (vR (3, 0, m))]) (st' := [vI 1, vI 12, vR (7, 0, m)]) (hp' := hp) (fun _ => rfl) ?_
  obtain ⟨hp3, hv, h⟩ := Option.bind_eq_some_iff.mp h
  refine Ex.call (args := [vR (7, 0, m), vI 12, vI 1]) (rest := []) rfl rfl rfl (exX7_put (d := d + 2) hv) ?_
  show Ex (d + 3) kX3_begin 10 [some (vR (3, 0, m))] [] hp3 _
  refine Ex.go 2 (pc' := 14) (ls' := [some (vR (3, 0, m))]) (st' := [vR (6, 0, m)]) (hp' := hp3) (fun _ => rfl) ?_
  obtain ⟨hp6, hv, h⟩ := Option.bind_eq_some_iff.mp h
  refine Ex.call (args := [vR (6, 0, m)]) (rest := []) rfl rfl rfl (exX6_renew (d := d + 1) hv) ?_
  show Ex (d + 3) kX3_begin 17 [some (vR (3, 0, m))] [] hp6 _
  refine Ex.go 6 (pc' := 29) (ls' := [some (vR (3, 0, m))]) (st' := [vR (4, 0, m)]) (hp' := (up hp6 (6, 0, m) 4 0)) (fun _ => rfl) ?_
  obtain ⟨hp9, hv, h⟩ := Option.bind_eq_some_iff.mp h
  refine Ex.call (args := [vR (4, 0, m)]) (rest := []) rfl rfl rfl (exX4_clear (d := d + 1) hv) ?_
  show Ex (d + 3) kX3_begin 32 [some (vR (3, 0, m))] [] hp9 _
  refine Ex.go 2 (pc' := 36) (ls' := [some (vR (3, 0, m))]) (st' := [vR (1, 0, m)]) (hp' := hp9) (fun _ => rfl) ?_
  obtain ⟨hp12, hv, h⟩ := Option.bind_eq_some_iff.mp h
  refine Ex.call (args := [vR (1, 0, m)]) (rest := []) rfl rfl rfl (exX1_goHome (d := d + 0) hv) ?_
  show Ex (d + 3) kX3_begin 39 [some (vR (3, 0, m))] [] hp12 _
  refine Ex.go 3 (pc' := 44) (ls' := [some (vR (3, 0, m))]) (st' := [vI 0, vR (7, 9, m)]) (hp' := hp12) (fun _ => rfl) ?_
  obtain ⟨hp15, hv, h⟩ := Option.bind_eq_some_iff.mp h
  refine Ex.call (args := [vR (7, 9, m), vI 0]) (rest := []) rfl rfl rfl (exX7_fill (d := d + 2) hv) ?_
  show Ex (d + 3) kX3_begin 47 [some (vR (3, 0, m))] [] hp15 _
  refine Ex.go 9 (pc' := 62) (ls' := [some (vR (3, 0, m))]) (st' := []) (hp' := (up (up (up hp15 (3, 0, m) 6 0) (3, 0, m) 7 0) (3, 0, m) 8 m1)) (fun _ => rfl) ?_
  cases h
  exact Ex.ret rfl rfl rfl
def fX3_addTo (m : Nat) (a0 : Int32) (a1 : Int32) (hp : HP) : Option HP := (fX7_at 9 m a0 hp).bind fun v1 => (fX7_put 9 m a0 (v1 + a1) hp).bind fun hp4 => some hp4
theorem exX3_addTo {d : Nat} {m : Nat} {a0 : Int32} {a1 : Int32} {hp : HP} {v : HP} (h : fX3_addTo m a0 a1 hp = some v) : Calls (d + 1) 38 [vR (3, 0, m), vI a0, vI a1] hp (rsV () v) := by
  replace h : ((fX7_at 9 m a0 hp).bind fun v1 => (fX7_put 9 m a0 (v1 + a1) hp).bind fun hp4 => some hp4) = some v := h
  show Ex (d + 1) kX3_addTo 0 [some (vR (3, 0, m)), some (vI a0), some (vI a1)] [] hp _
  refine Ex.go 6 (pc' := 10) (ls' := [some (vR (3, 0, m)), some (vI a0), some (vI a1)]) (st' := [vI a0, vR (7, 9, m), vI a0, vR (7, 9, m)]) (hp' := hp) (fun _ => rfl) ?_
  obtain ⟨v1, hv, h⟩ := Option.bind_eq_some_iff.mp h
  refine Ex.call (args := [vR (7, 9, m), vI a0]) (rest := [vI a0, vR (7, 9, m)]) rfl rfl rfl (exX7_at (d := d + 0) hv) ?_
  show Ex (d + 1) kX3_addTo 13 [some (vR (3, 0, m)), some (vI a0), some (vI a1)] [vI v1, vI a0, vR (7, 9, m)] hp _
  refine Ex.go 2 (pc' := 15) (ls' := [some (vR (3, 0, m)), some (vI a0), some (vI a1)]) (st' := [vI (v1 + a1), vI a0, vR (7, 9, m)]) (hp' := hp) (fun _ => rfl) ?_
  obtain ⟨hp4, hv, h⟩ := Option.bind_eq_some_iff.mp h
  refine Ex.call (args := [vR (7, 9, m), vI a0, vI (v1 + a1)]) (rest := []) rfl rfl rfl (exX7_put (d := d + 0) hv) ?_
  show Ex (d + 1) kX3_addTo 18 [some (vR (3, 0, m)), some (vI a0), some (vI a1)] [] hp4 _
  cases h
  exact Ex.ret rfl rfl rfl
def fX3_startKey (m : Nat) (hp : HP) : Option HP := (fX7_at 0 m 5 hp).bind fun v1 => (fX3_addTo m 13 1 (up hp (3, 0, m) 6 ((hp (3, 0, m) 6) + v1))).bind fun hp4 => some hp4
theorem exX3_startKey {d : Nat} {m : Nat} {hp : HP} {v : HP} (h : fX3_startKey m hp = some v) : Calls (d + 2) 39 [vR (3, 0, m)] hp (rsV () v) := by
  replace h : ((fX7_at 0 m 5 hp).bind fun v1 => (fX3_addTo m 13 1 (up hp (3, 0, m) 6 ((hp (3, 0, m) 6) + v1))).bind fun hp4 => some hp4) = some v := h
  show Ex (d + 2) kX3_startKey 0 [some (vR (3, 0, m))] [] hp _
  refine Ex.go 6 (pc' := 10) (ls' := [some (vR (3, 0, m))]) (st' := [vI 5, vR (7, 0, m), vI (hp (3, 0, m) 6), vR (3, 0, m)]) (hp' := hp) (fun _ => rfl) ?_
  obtain ⟨v1, hv, h⟩ := Option.bind_eq_some_iff.mp h
  refine Ex.call (args := [vR (7, 0, m), vI 5]) (rest := [vI (hp (3, 0, m) 6), vR (3, 0, m)]) rfl rfl rfl (exX7_at (d := d + 1) hv) ?_
  show Ex (d + 2) kX3_startKey 13 [some (vR (3, 0, m))] [vI v1, vI (hp (3, 0, m) 6), vR (3, 0, m)] hp _
  refine Ex.go 5 (pc' := 21) (ls' := [some (vR (3, 0, m))]) (st' := [vI 1, vI 13, vR (3, 0, m)]) (hp' := (up hp (3, 0, m) 6 ((hp (3, 0, m) 6) + v1))) (fun _ => rfl) ?_
  obtain ⟨hp4, hv, h⟩ := Option.bind_eq_some_iff.mp h
  refine Ex.call (args := [vR (3, 0, m), vI 13, vI 1]) (rest := []) rfl rfl rfl (exX3_addTo (d := d + 0) hv) ?_
  show Ex (d + 2) kX3_startKey 24 [some (vR (3, 0, m))] [] hp4 _
  cases h
  exact Ex.ret rfl rfl rfl
def fX3_endKey_12 (m : Nat) (x1 : Int32) (ms0 : Nat) (y1 : Int32) (y2 : Int32) (hp : HP) : Option (Int32 × HP) := (fX3_addTo ms0 y1 y2 hp).bind fun hp3 => some (x1, hp3)
theorem exX3_endKey_12 {d : Nat} {m : Nat} {x1 : Int32} {ms0 : Nat} {y1 : Int32} {y2 : Int32} {hp : HP} {v : (Int32 × HP)} (h : fX3_endKey_12 m x1 ms0 y1 y2 hp = some v) : Ex (d + 2) kX3_endKey 12 [some (vR (3, 0, m)), some (vI x1)] [vI y2, vI y1, vR (3, 0, ms0)] hp (rsI v.1 v.2) := by
  replace h : ((fX3_addTo ms0 y1 y2 hp).bind fun hp3 => some (x1, hp3)) = some v := h
  obtain ⟨hp3, hv, h⟩ := Option.bind_eq_some_iff.mp h
  refine Ex.call (args := [vR (3, 0, ms0), vI y1, vI y2]) (rest := []) rfl rfl rfl (exX3_addTo (d := d + 0) hv) ?_
  show Ex (d + 2) kX3_endKey 15 [some (vR (3, 0, m)), some (vI x1)] [] hp3 _
  refine Ex.go 1 (pc' := 16) (ls' := [some (vR (3, 0, m)), some (vI x1)]) (st' := [vI x1]) (hp' := hp3) (fun _ => rfl) ?_
  cases h
  exact Ex.ret rfl rfl rfl
def fX3_endKey (m : Nat) (a0 : Int32) (hp : HP) : Option (Int32 × HP) := if a0 = 0 then (fX3_endKey_12 m a0 m 9 0 hp) else (fX3_endKey_12 m a0 m 9 1 hp)
theorem exX3_endKey {d : Nat} {m : Nat} {a0 : Int32} {hp : HP} {v : (Int32 × HP)} (h : fX3_endKey m a0 hp = some v) : Calls (d + 2) 40 [vR (3, 0, m), vI a0] hp (rsI v.1 v.2) := by
  replace h : (if a0 = 0 then (fX3_endKey_12 m a0 m 9 0 hp) else (fX3_endKey_12 m a0 m 9 1 hp)) = some v := h
  show Ex (d + 2) kX3_endKey 0 [some (vR (3, 0, m)), some (vI a0)] [] hp _
  refine Ex.go 3 (pc' := 4) (ls' := [some (vR (3, 0, m)), some (vI a0)]) (st' := [vI a0, vI 9, vR (3, 0, m)]) (hp' := hp) (fun _ => rfl) ?_
  refine Ex.ifc rfl ?_
  by_cases hc : a0 = 0
  · rw [if_pos hc] at h
    rw [brI_ne_p hc]
    show Ex (d + 2) kX3_endKey 7 [some (vR (3, 0, m)), some (vI a0)] [vI 9, vR (3, 0, m)] hp _
    refine Ex.go 2 (pc' := 12) (ls' := [some (vR (3, 0, m)), some (vI a0)]) (st' := [vI 0, vI 9, vR (3, 0, m)]) (hp' := hp) (fun _ => rfl) ?_
    exact exX3_endKey_12 h
  · rw [if_neg hc] at h
    rw [brI_ne_n hc]
    show Ex (d + 2) kX3_endKey 11 [some (vR (3, 0, m)), some (vI a0)] [vI 9, vR (3, 0, m)] hp _
    refine Ex.go 1 (pc' := 12) (ls' := [some (vR (3, 0, m)), some (vI a0)]) (st' := [vI 1, vI 9, vR (3, 0, m)]) (hp' := hp) (fun _ => rfl) ?_
    exact exX3_endKey_12 h
def fX3_noteKey (m : Nat) (a0 : Int32) (hp : HP) : Option (Int32 × HP) := some (a0, (up (up hp (3, 0, m) 7 a0) (3, 0, m) 8 m1))
theorem exX3_noteKey {d : Nat} {m : Nat} {a0 : Int32} {hp : HP} {v : (Int32 × HP)} (h : fX3_noteKey m a0 hp = some v) : Calls (d + 0) 41 [vR (3, 0, m), vI a0] hp (rsI v.1 v.2) := by
  replace h : (some (a0, (up (up hp (3, 0, m) 7 a0) (3, 0, m) 8 m1))) = some v := h
  show Ex (d + 0) kX3_noteKey 0 [some (vR (3, 0, m)), some (vI a0)] [] hp _
  refine Ex.go 7 (pc' := 11) (ls' := [some (vR (3, 0, m)), some (vI a0)]) (st' := [vI a0]) (hp' := (up (up hp (3, 0, m) 7 a0) (3, 0, m) 8 m1)) (fun _ => rfl) ?_
  cases h
  exact Ex.ret rfl rfl rfl
def fX3_standingFault (m : Nat) (a0 : Int32) (hp : HP) : Option Int32 := (fX0_areJammed m hp).bind fun v1 => if v1 = 0 then (if a0 = 0 then (some 0) else ((fX1_locksAt m (hp (1, 0, m) 3) hp).bind fun v2 => if v2 = 0 then (some 0) else (some 2))) else (some 1)
theorem exX3_standingFault {d : Nat} {m : Nat} {a0 : Int32} {hp : HP} {v : Int32} (h : fX3_standingFault m a0 hp = some v) : Calls (d + 2) 42 [vR (3, 0, m), vI a0] hp (rsI v hp) := by
  replace h : ((fX0_areJammed m hp).bind fun v1 => if v1 = 0 then (if a0 = 0 then (some 0) else ((fX1_locksAt m (hp (1, 0, m) 3) hp).bind fun v2 => if v2 = 0 then (some 0) else (some 2))) else (some 1)) = some v := h
  show Ex (d + 2) kX3_standingFault 0 [some (vR (3, 0, m)), some (vI a0)] [] hp _
  refine Ex.go 2 (pc' := 4) (ls' := [some (vR (3, 0, m)), some (vI a0)]) (st' := [vR (0, 0, m)]) (hp' := hp) (fun _ => rfl) ?_
  obtain ⟨v1, hv, h⟩ := Option.bind_eq_some_iff.mp h
  refine Ex.call (args := [vR (0, 0, m)]) (rest := []) rfl rfl rfl (exX0_areJammed (d := d + 1) hv) ?_
  show Ex (d + 2) kX3_standingFault 7 [some (vR (3, 0, m)), some (vI a0)] [vI v1] hp _
  refine Ex.ifc rfl ?_
  by_cases hc : v1 = 0
  · rw [if_pos hc] at h
    rw [brI_eq_p hc]
    show Ex (d + 2) kX3_standingFault 12 [some (vR (3, 0, m)), some (vI a0)] [] hp _
    refine Ex.go 1 (pc' := 13) (ls' := [some (vR (3, 0, m)), some (vI a0)]) (st' := [vI a0]) (hp' := hp) (fun _ => rfl) ?_
    refine Ex.ifc rfl ?_
    by_cases hc : a0 = 0
    · rw [if_pos hc] at h
      rw [brI_eq_p hc]
      show Ex (d + 2) kX3_standingFault 37 [some (vR (3, 0, m)), some (vI a0)] [] hp _
      refine Ex.go 1 (pc' := 38) (ls' := [some (vR (3, 0, m)), some (vI a0)]) (st' := [vI 0]) (hp' := hp) (fun _ => rfl) ?_
      cases h
      exact Ex.ret rfl rfl rfl
    · rw [if_neg hc] at h
      rw [brI_eq_n hc]
      show Ex (d + 2) kX3_standingFault 16 [some (vR (3, 0, m)), some (vI a0)] [] hp _
      refine Ex.go 5 (pc' := 27) (ls' := [some (vR (3, 0, m)), some (vI a0)]) (st' := [vI (hp (1, 0, m) 3), vR (1, 0, m)]) (hp' := hp) (fun _ => rfl) ?_
      obtain ⟨v2, hv, h⟩ := Option.bind_eq_some_iff.mp h
      refine Ex.call (args := [vR (1, 0, m), vI (hp (1, 0, m) 3)]) (rest := []) rfl rfl rfl (exX1_locksAt (d := d + 0) hv) ?_
      show Ex (d + 2) kX3_standingFault 30 [some (vR (3, 0, m)), some (vI a0)] [vI v2] hp _
      refine Ex.ifc rfl ?_
      by_cases hc : v2 = 0
      · rw [if_pos hc] at h
        rw [brI_eq_p hc]
        show Ex (d + 2) kX3_standingFault 37 [some (vR (3, 0, m)), some (vI a0)] [] hp _
        refine Ex.go 1 (pc' := 38) (ls' := [some (vR (3, 0, m)), some (vI a0)]) (st' := [vI 0]) (hp' := hp) (fun _ => rfl) ?_
        cases h
        exact Ex.ret rfl rfl rfl
      · rw [if_neg hc] at h
        rw [brI_eq_n hc]
        show Ex (d + 2) kX3_standingFault 33 [some (vR (3, 0, m)), some (vI a0)] [] hp _
        refine Ex.go 2 (pc' := 38) (ls' := [some (vR (3, 0, m)), some (vI a0)]) (st' := [vI 2]) (hp' := hp) (fun _ => rfl) ?_
        cases h
        exact Ex.ret rfl rfl rfl
  · rw [if_neg hc] at h
    rw [brI_eq_n hc]
    show Ex (d + 2) kX3_standingFault 10 [some (vR (3, 0, m)), some (vI a0)] [] hp _
    refine Ex.go 1 (pc' := 11) (ls' := [some (vR (3, 0, m)), some (vI a0)]) (st' := [vI 1]) (hp' := hp) (fun _ => rfl) ?_
    cases h
    exact Ex.ret rfl rfl rfl
def fX6_feed_112 (m : Nat) (x1 : Int32) (hp : HP) : Option (Int32 × HP) := some (x1, hp)
theorem exX6_feed_112 {d : Nat} {m : Nat} {x1 : Int32} {j2 : Option VL} {hp : HP} {v : (Int32 × HP)} (h : fX6_feed_112 m x1 hp = some v) : Ex (d + 1) kX6_feed 112 [some (vR (6, 0, m)), some (vI x1), j2] [] hp (rsI v.1 v.2) := by
  replace h : (some (x1, hp)) = some v := h
  refine Ex.go 1 (pc' := 113) (ls' := [some (vR (6, 0, m)), some (vI x1), j2]) (st' := [vI x1]) (hp' := hp) (fun _ => rfl) ?_
  cases h
  exact Ex.ret rfl rfl rfl
def fX6_feed_94 (m : Nat) (x1 : Int32) (hp : HP) : Option (Int32 × HP) := fX6_feed_112 m x1 (up hp (6, 0, m) 4 ((hp (6, 0, m) 4) + 1))
theorem exX6_feed_94 {d : Nat} {m : Nat} {x1 : Int32} {j2 : Option VL} {hp : HP} {v : (Int32 × HP)} (h : fX6_feed_94 m x1 hp = some v) : Ex (d + 1) kX6_feed 94 [some (vR (6, 0, m)), some (vI x1), j2] [] hp (rsI v.1 v.2) := by
  replace h : (fX6_feed_112 m x1 (up hp (6, 0, m) 4 ((hp (6, 0, m) 4) + 1))) = some v := h
  refine Ex.go 7 (pc' := 112) (ls' := [some (vR (6, 0, m)), some (vI x1), j2]) (st' := []) (hp' := (up hp (6, 0, m) 4 ((hp (6, 0, m) 4) + 1))) (fun _ => rfl) ?_
  exact exX6_feed_112 h
def fX6_feed_91 (m : Nat) (x1 : Int32) (ms0 : Nat) (y1 : Int32) (hp : HP) : Option (Int32 × HP) := if isB y1 = true then (fX6_feed_94 m x1 (up hp (6, 0, ms0) 3 y1)) else none
theorem exX6_feed_91 {d : Nat} {m : Nat} {x1 : Int32} {ms0 : Nat} {y1 : Int32} {j2 : Option VL} {hp : HP} {v : (Int32 × HP)} (h : fX6_feed_91 m x1 ms0 y1 hp = some v) : Ex (d + 1) kX6_feed 91 [some (vR (6, 0, m)), some (vI x1), j2] [vI y1, vR (6, 0, ms0)] hp (rsI v.1 v.2) := by
  replace h : (if isB y1 = true then (fX6_feed_94 m x1 (up hp (6, 0, ms0) 3 y1)) else none) = some v := h
  by_cases hc : isB y1 = true
  · rw [if_pos hc] at h
    refine Ex.putz rfl rfl rfl hc rfl ?_
    show Ex (d + 1) kX6_feed 94 [some (vR (6, 0, m)), some (vI x1), j2] [] (up hp (6, 0, ms0) 3 y1) _
    exact exX6_feed_94 h
  · rw [if_neg hc] at h
    cases h
def fX6_feed_78 (m : Nat) (x1 : Int32) (hp : HP) : Option (Int32 × HP) := if (hp (6, 0, m) 3) = 0 then (fX6_feed_91 m x1 m 1 hp) else (fX6_feed_91 m x1 m 0 hp)
theorem exX6_feed_78 {d : Nat} {m : Nat} {x1 : Int32} {j2 : Option VL} {hp : HP} {v : (Int32 × HP)} (h : fX6_feed_78 m x1 hp = some v) : Ex (d + 1) kX6_feed 78 [some (vR (6, 0, m)), some (vI x1), j2] [] hp (rsI v.1 v.2) := by
  replace h : (if (hp (6, 0, m) 3) = 0 then (fX6_feed_91 m x1 m 1 hp) else (fX6_feed_91 m x1 m 0 hp)) = some v := h
  refine Ex.go 3 (pc' := 83) (ls' := [some (vR (6, 0, m)), some (vI x1), j2]) (st' := [vI (hp (6, 0, m) 3), vR (6, 0, m)]) (hp' := hp) (fun _ => rfl) ?_
  refine Ex.ifc rfl ?_
  by_cases hc : (hp (6, 0, m) 3) = 0
  · rw [if_pos hc] at h
    rw [brI_ne_p hc]
    show Ex (d + 1) kX6_feed 86 [some (vR (6, 0, m)), some (vI x1), j2] [vR (6, 0, m)] hp _
    refine Ex.go 2 (pc' := 91) (ls' := [some (vR (6, 0, m)), some (vI x1), j2]) (st' := [vI 1, vR (6, 0, m)]) (hp' := hp) (fun _ => rfl) ?_
    exact exX6_feed_91 h
  · rw [if_neg hc] at h
    rw [brI_ne_n hc]
    show Ex (d + 1) kX6_feed 90 [some (vR (6, 0, m)), some (vI x1), j2] [vR (6, 0, m)] hp _
    refine Ex.go 1 (pc' := 91) (ls' := [some (vR (6, 0, m)), some (vI x1), j2]) (st' := [vI 0, vR (6, 0, m)]) (hp' := hp) (fun _ => rfl) ?_
    exact exX6_feed_91 h
def fX6_feed_60 (m : Nat) (x1 : Int32) (y0 : Int32) (hp : HP) : Option (Int32 × HP) := if y0 < 0 then (fX6_feed_78 m x1 hp) else ((fX7_at 0 m 9 hp).bind fun v1 => if y0 < v1 then (fX6_feed_112 m x1 (up hp (6, 0, m) 2 y0)) else (fX6_feed_78 m x1 hp))
theorem exX6_feed_60 {d : Nat} {m : Nat} {x1 : Int32} {y0 : Int32} {j2 : Option VL} {hp : HP} {v : (Int32 × HP)} (h : fX6_feed_60 m x1 y0 hp = some v) : Ex (d + 1) kX6_feed 60 [some (vR (6, 0, m)), some (vI x1), j2] [vI y0] hp (rsI v.1 v.2) := by
  replace h : (if y0 < 0 then (fX6_feed_78 m x1 hp) else ((fX7_at 0 m 9 hp).bind fun v1 => if y0 < v1 then (fX6_feed_112 m x1 (up hp (6, 0, m) 2 y0)) else (fX6_feed_78 m x1 hp))) = some v := h
  refine Ex.go 2 (pc' := 62) (ls' := [some (vR (6, 0, m)), some (vI x1), some (vI y0)]) (st' := [vI y0]) (hp' := hp) (fun _ => rfl) ?_
  refine Ex.ifc rfl ?_
  by_cases hc : y0 < 0
  · rw [if_pos hc] at h
    rw [brI_lt_p hc]
    show Ex (d + 1) kX6_feed 78 [some (vR (6, 0, m)), some (vI x1), some (vI y0)] [] hp _
    exact exX6_feed_78 h
  · rw [if_neg hc] at h
    rw [brI_lt_n hc]
    show Ex (d + 1) kX6_feed 65 [some (vR (6, 0, m)), some (vI x1), some (vI y0)] [] hp _
    refine Ex.go 4 (pc' := 72) (ls' := [some (vR (6, 0, m)), some (vI x1), some (vI y0)]) (st' := [vI 9, vR (7, 0, m), vI y0]) (hp' := hp) (fun _ => rfl) ?_
    obtain ⟨v1, hv, h⟩ := Option.bind_eq_some_iff.mp h
    refine Ex.call (args := [vR (7, 0, m), vI 9]) (rest := [vI y0]) rfl rfl rfl (exX7_at (d := d + 0) hv) ?_
    show Ex (d + 1) kX6_feed 75 [some (vR (6, 0, m)), some (vI x1), some (vI y0)] [vI v1, vI y0] hp _
    refine Ex.icmp rfl ?_
    by_cases hc : y0 < v1
    · rw [if_pos hc] at h
      rw [brI_lt_p hc]
      show Ex (d + 1) kX6_feed 107 [some (vR (6, 0, m)), some (vI x1), some (vI y0)] [] hp _
      refine Ex.go 3 (pc' := 112) (ls' := [some (vR (6, 0, m)), some (vI x1), some (vI y0)]) (st' := []) (hp' := (up hp (6, 0, m) 2 y0)) (fun _ => rfl) ?_
      exact exX6_feed_112 h
    · rw [if_neg hc] at h
      rw [brI_lt_n hc]
      show Ex (d + 1) kX6_feed 78 [some (vR (6, 0, m)), some (vI x1), some (vI y0)] [] hp _
      exact exX6_feed_78 h
def fX6_feed (m : Nat) (hp : HP) : Option (Int32 × HP) := (fX7_at 1 m (hp (6, 0, m) 2) hp).bind fun v2 => (fX7_at 0 m 11 hp).bind fun v3 => (fX7_put 1 m (hp (6, 0, m) 2) (imax 0 (v2 - v3)) hp).bind fun hp6 => if (hp6 (6, 0, m) 3) = 0 then (fX6_feed_60 m v2 ((hp6 (6, 0, m) 2) - 1) hp6) else (fX6_feed_60 m v2 ((hp6 (6, 0, m) 2) + 1) hp6)
theorem exX6_feed {d : Nat} {m : Nat} {hp : HP} {v : (Int32 × HP)} (h : fX6_feed m hp = some v) : Calls (d + 1) 78 [vR (6, 0, m)] hp (rsI v.1 v.2) := by
  replace h : ((fX7_at 1 m (hp (6, 0, m) 2) hp).bind fun v2 => (fX7_at 0 m 11 hp).bind fun v3 => (fX7_put 1 m (hp (6, 0, m) 2) (imax 0 (v2 - v3)) hp).bind fun hp6 => if (hp6 (6, 0, m) 3) = 0 then (fX6_feed_60 m v2 ((hp6 (6, 0, m) 2) - 1) hp6) else (fX6_feed_60 m v2 ((hp6 (6, 0, m) 2) + 1) hp6)) = some v := h
  show Ex (d + 1) kX6_feed 0 [some (vR (6, 0, m)), none, none] [] hp _
  refine Ex.go 4 (pc' := 8) (ls' := [some (vR (6, 0, m)), none, none]) (st' := [vI (hp (6, 0, m) 2), vR (7, 1, m)]) (hp' := hp) (fun _ => rfl) ?_
  obtain ⟨v2, hv, h⟩ := Option.bind_eq_some_iff.mp h
  refine Ex.call (args := [vR (7, 1, m), vI (hp (6, 0, m) 2)]) (rest := []) rfl rfl rfl (exX7_at (d := d + 0) hv) ?_
  show Ex (d + 1) kX6_feed 11 [some (vR (6, 0, m)), none, none] [vI v2] hp _
  refine Ex.go 10 (pc' := 28) (ls' := [some (vR (6, 0, m)), some (vI v2), none]) (st' := [vI 11, vR (7, 0, m), vI v2, vI 0, vI (hp (6, 0, m) 2), vR (7, 1, m)]) (hp' := hp) (fun _ => rfl) ?_
  obtain ⟨v3, hv, h⟩ := Option.bind_eq_some_iff.mp h
  refine Ex.call (args := [vR (7, 0, m), vI 11]) (rest := [vI v2, vI 0, vI (hp (6, 0, m) 2), vR (7, 1, m)]) rfl rfl rfl (exX7_at (d := d + 0) hv) ?_
  show Ex (d + 1) kX6_feed 31 [some (vR (6, 0, m)), some (vI v2), none] [vI v3, vI v2, vI 0, vI (hp (6, 0, m) 2), vR (7, 1, m)] hp _
  refine Ex.go 2 (pc' := 35) (ls' := [some (vR (6, 0, m)), some (vI v2), none]) (st' := [vI (imax 0 (v2 - v3)), vI (hp (6, 0, m) 2), vR (7, 1, m)]) (hp' := hp) (fun _ => rfl) ?_
  obtain ⟨hp6, hv, h⟩ := Option.bind_eq_some_iff.mp h
  refine Ex.call (args := [vR (7, 1, m), vI (hp (6, 0, m) 2), vI (imax 0 (v2 - v3))]) (rest := []) rfl rfl rfl (exX7_put (d := d + 0) hv) ?_
  show Ex (d + 1) kX6_feed 38 [some (vR (6, 0, m)), some (vI v2), none] [] hp6 _
  refine Ex.go 2 (pc' := 42) (ls' := [some (vR (6, 0, m)), some (vI v2), none]) (st' := [vI (hp6 (6, 0, m) 3)]) (hp' := hp6) (fun _ => rfl) ?_
  refine Ex.ifc rfl ?_
  by_cases hc : (hp6 (6, 0, m) 3) = 0
  · rw [if_pos hc] at h
    rw [brI_eq_p hc]
    show Ex (d + 1) kX6_feed 54 [some (vR (6, 0, m)), some (vI v2), none] [] hp6 _
    refine Ex.go 4 (pc' := 60) (ls' := [some (vR (6, 0, m)), some (vI v2), none]) (st' := [vI ((hp6 (6, 0, m) 2) - 1)]) (hp' := hp6) (fun _ => rfl) ?_
    exact exX6_feed_60 h
  · rw [if_neg hc] at h
    rw [brI_eq_n hc]
    show Ex (d + 1) kX6_feed 45 [some (vR (6, 0, m)), some (vI v2), none] [] hp6 _
    refine Ex.go 5 (pc' := 60) (ls' := [some (vR (6, 0, m)), some (vI v2), none]) (st' := [vI ((hp6 (6, 0, m) 2) + 1)]) (hp' := hp6) (fun _ => rfl) ?_
    exact exX6_feed_60 h
def fX4_placeOf (m : Nat) (a0 : Int32) (a1 : Int32) (hp : HP) : Option Int32 := (fX7_at 0 m 0 hp).bind fun v1 => some ((a0 * v1) + a1)
theorem exX4_placeOf {d : Nat} {m : Nat} {a0 : Int32} {a1 : Int32} {hp : HP} {v : Int32} (h : fX4_placeOf m a0 a1 hp = some v) : Calls (d + 1) 53 [vR (4, 0, m), vI a0, vI a1] hp (rsI v hp) := by
  replace h : ((fX7_at 0 m 0 hp).bind fun v1 => some ((a0 * v1) + a1)) = some v := h
  show Ex (d + 1) kX4_placeOf 0 [some (vR (4, 0, m)), some (vI a0), some (vI a1)] [] hp _
  refine Ex.go 4 (pc' := 6) (ls' := [some (vR (4, 0, m)), some (vI a0), some (vI a1)]) (st' := [vI 0, vR (7, 0, m), vI a0]) (hp' := hp) (fun _ => rfl) ?_
  obtain ⟨v1, hv, h⟩ := Option.bind_eq_some_iff.mp h
  refine Ex.call (args := [vR (7, 0, m), vI 0]) (rest := [vI a0]) rfl rfl rfl (exX7_at (d := d + 0) hv) ?_
  show Ex (d + 1) kX4_placeOf 9 [some (vR (4, 0, m)), some (vI a0), some (vI a1)] [vI v1, vI a0] hp _
  refine Ex.go 3 (pc' := 12) (ls' := [some (vR (4, 0, m)), some (vI a0), some (vI a1)]) (st' := [vI ((a0 * v1) + a1)]) (hp' := hp) (fun _ => rfl) ?_
  cases h
  exact Ex.ret rfl rfl rfl
def fX4_isEmpty (m : Nat) (a0 : Int32) (hp : HP) : Option Int32 := (fX7_at 2 m a0 hp).bind fun v1 => if v1 = 32 then (some 1) else (some 0)
theorem exX4_isEmpty {d : Nat} {m : Nat} {a0 : Int32} {hp : HP} {v : Int32} (h : fX4_isEmpty m a0 hp = some v) : Calls (d + 1) 54 [vR (4, 0, m), vI a0] hp (rsI v hp) := by
  replace h : ((fX7_at 2 m a0 hp).bind fun v1 => if v1 = 32 then (some 1) else (some 0)) = some v := h
  show Ex (d + 1) kX4_isEmpty 0 [some (vR (4, 0, m)), some (vI a0)] [] hp _
  refine Ex.go 3 (pc' := 5) (ls' := [some (vR (4, 0, m)), some (vI a0)]) (st' := [vI a0, vR (7, 2, m)]) (hp' := hp) (fun _ => rfl) ?_
  obtain ⟨v1, hv, h⟩ := Option.bind_eq_some_iff.mp h
  refine Ex.call (args := [vR (7, 2, m), vI a0]) (rest := []) rfl rfl rfl (exX7_at (d := d + 0) hv) ?_
  show Ex (d + 1) kX4_isEmpty 8 [some (vR (4, 0, m)), some (vI a0)] [vI v1] hp _
  refine Ex.go 1 (pc' := 10) (ls' := [some (vR (4, 0, m)), some (vI a0)]) (st' := [vI 32, vI v1]) (hp' := hp) (fun _ => rfl) ?_
  refine Ex.icmp rfl ?_
  by_cases hc : v1 = 32
  · rw [if_pos hc] at h
    rw [brI_ne_p hc]
    show Ex (d + 1) kX4_isEmpty 13 [some (vR (4, 0, m)), some (vI a0)] [] hp _
    refine Ex.go 2 (pc' := 18) (ls' := [some (vR (4, 0, m)), some (vI a0)]) (st' := [vI 1]) (hp' := hp) (fun _ => rfl) ?_
    cases h
    exact Ex.ret rfl rfl rfl
  · rw [if_neg hc] at h
    rw [brI_ne_n hc]
    show Ex (d + 1) kX4_isEmpty 17 [some (vR (4, 0, m)), some (vI a0)] [] hp _
    refine Ex.go 1 (pc' := 18) (ls' := [some (vR (4, 0, m)), some (vI a0)]) (st' := [vI 0]) (hp' := hp) (fun _ => rfl) ?_
    cases h
    exact Ex.ret rfl rfl rfl
def fX4_print (m : Nat) (a0 : Int32) (a1 : Int32) (a2 : Int32) (hp : HP) : Option HP := (fX7_put 2 m a0 a1 hp).bind fun hp3 => (fX7_at 3 m a0 hp3).bind fun v4 => (fX7_put 3 m a0 (imin 9 (v4 + a2)) hp3).bind fun hp7 => some hp7
theorem exX4_print {d : Nat} {m : Nat} {a0 : Int32} {a1 : Int32} {a2 : Int32} {hp : HP} {v : HP} (h : fX4_print m a0 a1 a2 hp = some v) : Calls (d + 1) 55 [vR (4, 0, m), vI a0, vI a1, vI a2] hp (rsV () v) := by
  replace h : ((fX7_put 2 m a0 a1 hp).bind fun hp3 => (fX7_at 3 m a0 hp3).bind fun v4 => (fX7_put 3 m a0 (imin 9 (v4 + a2)) hp3).bind fun hp7 => some hp7) = some v := h
  show Ex (d + 1) kX4_print 0 [some (vR (4, 0, m)), some (vI a0), some (vI a1), some (vI a2)] [] hp _
  refine Ex.go 4 (pc' := 6) (ls' := [some (vR (4, 0, m)), some (vI a0), some (vI a1), some (vI a2)]) (st' := [vI a1, vI a0, vR (7, 2, m)]) (hp' := hp) (fun _ => rfl) ?_
  obtain ⟨hp3, hv, h⟩ := Option.bind_eq_some_iff.mp h
  refine Ex.call (args := [vR (7, 2, m), vI a0, vI a1]) (rest := []) rfl rfl rfl (exX7_put (d := d + 0) hv) ?_
  show Ex (d + 1) kX4_print 9 [some (vR (4, 0, m)), some (vI a0), some (vI a1), some (vI a2)] [] hp3 _
  refine Ex.go 7 (pc' := 21) (ls' := [some (vR (4, 0, m)), some (vI a0), some (vI a1), some (vI a2)]) (st' := [vI a0, vR (7, 3, m), vI 9, vI a0, vR (7, 3, m)]) (hp' := hp3) (fun _ => rfl) ?_
  obtain ⟨v4, hv, h⟩ := Option.bind_eq_some_iff.mp h
  refine Ex.call (args := [vR (7, 3, m), vI a0]) (rest := [vI 9, vI a0, vR (7, 3, m)]) rfl rfl rfl (exX7_at (d := d + 0) hv) ?_
  show Ex (d + 1) kX4_print 24 [some (vR (4, 0, m)), some (vI a0), some (vI a1), some (vI a2)] [vI v4, vI 9, vI a0, vR (7, 3, m)] hp3 _
  refine Ex.go 3 (pc' := 29) (ls' := [some (vR (4, 0, m)), some (vI a0), some (vI a1), some (vI a2)]) (st' := [vI (imin 9 (v4 + a2)), vI a0, vR (7, 3, m)]) (hp' := hp3) (fun _ => rfl) ?_
  obtain ⟨hp7, hv, h⟩ := Option.bind_eq_some_iff.mp h
  refine Ex.call (args := [vR (7, 3, m), vI a0, vI (imin 9 (v4 + a2))]) (rest := []) rfl rfl rfl (exX7_put (d := d + 0) hv) ?_
  show Ex (d + 1) kX4_print 32 [some (vR (4, 0, m)), some (vI a0), some (vI a1), some (vI a2)] [] hp7 _
  cases h
  exact Ex.ret rfl rfl rfl
def fX3_moveOn_38 (m : Nat) (ms0 : Nat) (y1 : Int32) (y2 : Int32) (hp : HP) : Option HP := (fX3_addTo ms0 y1 y2 hp).bind fun hp3 => some hp3
theorem exX3_moveOn_38 {d : Nat} {m : Nat} {ms0 : Nat} {y1 : Int32} {y2 : Int32} {hp : HP} {v : HP} (h : fX3_moveOn_38 m ms0 y1 y2 hp = some v) : Ex (d + 2) kX3_moveOn 38 [some (vR (3, 0, m))] [vI y2, vI y1, vR (3, 0, ms0)] hp (rsV () v) := by
  replace h : ((fX3_addTo ms0 y1 y2 hp).bind fun hp3 => some hp3) = some v := h
  obtain ⟨hp3, hv, h⟩ := Option.bind_eq_some_iff.mp h
  refine Ex.call (args := [vR (3, 0, ms0), vI y1, vI y2]) (rest := []) rfl rfl rfl (exX3_addTo (d := d + 0) hv) ?_
  show Ex (d + 2) kX3_moveOn 41 [some (vR (3, 0, m))] [] hp3 _
  cases h
  exact Ex.ret rfl rfl rfl
def fX3_moveOn_13 (m : Nat) (hp : HP) : Option HP := (fX1_bellColumn m hp).bind fun v4 => if (hp (1, 0, m) 3) = v4 then (fX3_moveOn_38 m m 10 1 hp) else (fX3_moveOn_38 m m 10 0 hp)
theorem exX3_moveOn_13 {d : Nat} {m : Nat} {hp : HP} {v : HP} (h : fX3_moveOn_13 m hp = some v) : Ex (d + 2) kX3_moveOn 13 [some (vR (3, 0, m))] [] hp (rsV () v) := by
  replace h : ((fX1_bellColumn m hp).bind fun v4 => if (hp (1, 0, m) 3) = v4 then (fX3_moveOn_38 m m 10 1 hp) else (fX3_moveOn_38 m m 10 0 hp)) = some v := h
  refine Ex.go 7 (pc' := 27) (ls' := [some (vR (3, 0, m))]) (st' := [vR (1, 0, m), vI (hp (1, 0, m) 3), vI 10, vR (3, 0, m)]) (hp' := hp) (fun _ => rfl) ?_
  obtain ⟨v4, hv, h⟩ := Option.bind_eq_some_iff.mp h
  refine Ex.call (args := [vR (1, 0, m)]) (rest := [vI (hp (1, 0, m) 3), vI 10, vR (3, 0, m)]) rfl rfl rfl (exX1_bellColumn (d := d + 0) hv) ?_
  show Ex (d + 2) kX3_moveOn 30 [some (vR (3, 0, m))] [vI v4, vI (hp (1, 0, m) 3), vI 10, vR (3, 0, m)] hp _
  refine Ex.icmp rfl ?_
  by_cases hc : (hp (1, 0, m) 3) = v4
  · rw [if_pos hc] at h
    rw [brI_ne_p hc]
    show Ex (d + 2) kX3_moveOn 33 [some (vR (3, 0, m))] [vI 10, vR (3, 0, m)] hp _
    refine Ex.go 2 (pc' := 38) (ls' := [some (vR (3, 0, m))]) (st' := [vI 1, vI 10, vR (3, 0, m)]) (hp' := hp) (fun _ => rfl) ?_
    exact exX3_moveOn_38 h
  · rw [if_neg hc] at h
    rw [brI_ne_n hc]
    show Ex (d + 2) kX3_moveOn 37 [some (vR (3, 0, m))] [vI 10, vR (3, 0, m)] hp _
    refine Ex.go 1 (pc' := 38) (ls' := [some (vR (3, 0, m))]) (st' := [vI 0, vI 10, vR (3, 0, m)]) (hp' := hp) (fun _ => rfl) ?_
    exact exX3_moveOn_38 h
def fX3_moveOn (m : Nat) (hp : HP) : Option HP := fX3_moveOn_13 m (up hp (1, 0, m) 3 ((hp (1, 0, m) 3) + 1))
theorem exX3_moveOn {d : Nat} {m : Nat} {hp : HP} {v : HP} (h : fX3_moveOn m hp = some v) : Calls (d + 2) 45 [vR (3, 0, m)] hp (rsV () v) := by
  replace h : (fX3_moveOn_13 m (up hp (1, 0, m) 3 ((hp (1, 0, m) 3) + 1))) = some v := h
  show Ex (d + 2) kX3_moveOn 0 [some (vR (3, 0, m))] [] hp _
  refine Ex.go 7 (pc' := 13) (ls' := [some (vR (3, 0, m))]) (st' := []) (hp' := (up hp (1, 0, m) 3 ((hp (1, 0, m) 3) + 1))) (fun _ => rfl) ?_
  exact exX3_moveOn_13 h
def fX3_printLetter_108 (m : Nat) (ms0 : Nat) (y1 : Int32) (y2 : Int32) (hp : HP) : Option HP := (fX4_print ms0 y1 y2 (hp (3, 0, m) 9) hp).bind fun hp3 => (fX3_moveOn m hp3).bind fun hp6 => some hp6
theorem exX3_printLetter_108 {d : Nat} {m : Nat} {ms0 : Nat} {y1 : Int32} {y2 : Int32} {j1 : Option VL} {j2 : Option VL} {j3 : Option VL} {j4 : Option VL} {hp : HP} {v : HP} (h : fX3_printLetter_108 m ms0 y1 y2 hp = some v) : Ex (d + 3) kX3_printLetter 108 [some (vR (3, 0, m)), j1, j2, j3, j4] [vI y2, vI y1, vR (4, 0, ms0)] hp (rsV () v) := by
  replace h : ((fX4_print ms0 y1 y2 (hp (3, 0, m) 9) hp).bind fun hp3 => (fX3_moveOn m hp3).bind fun hp6 => some hp6) = some v := h
  refine Ex.go 2 (pc' := 112) (ls' := [some (vR (3, 0, m)), j1, j2, j3, j4]) (st' := [vI (hp (3, 0, m) 9), vI y2, vI y1, vR (4, 0, ms0)]) (hp' := hp) (fun _ => rfl) ?_
  obtain ⟨hp3, hv, h⟩ := Option.bind_eq_some_iff.mp h
  refine Ex.call (args := [vR (4, 0, ms0), vI y1, vI y2, vI (hp (3, 0, m) 9)]) (rest := []) rfl rfl rfl (exX4_print (d := d + 1) hv) ?_
  show Ex (d + 3) kX3_printLetter 115 [some (vR (3, 0, m)), j1, j2, j3, j4] [] hp3 _
  refine Ex.go 1 (pc' := 116) (ls' := [some (vR (3, 0, m)), j1, j2, j3, j4]) (st' := [vR (3, 0, m)]) (hp' := hp3) (fun _ => rfl) ?_
  obtain ⟨hp6, hv, h⟩ := Option.bind_eq_some_iff.mp h
  refine Ex.call (args := [vR (3, 0, m)]) (rest := []) rfl rfl rfl (exX3_moveOn (d := d + 0) hv) ?_
  show Ex (d + 3) kX3_printLetter 119 [some (vR (3, 0, m)), j1, j2, j3, j4] [] hp6 _
  cases h
  exact Ex.ret rfl rfl rfl
def fX3_printLetter_70 (m : Nat) (x1 : Int32) (x2 : Int32) (x3 : Int32) (ms0 : Nat) (y1 : Int32) (y2 : Int32) (hp : HP) : Option HP := (fX3_addTo ms0 y1 y2 hp).bind fun hp9 => (fX7_at 5 m x1 hp9).bind fun v10 => if x2 = 0 then (fX3_printLetter_108 m m x3 v10 hp9) else (fX3_printLetter_108 m m x3 ((v10 - 97) + 65) hp9)
theorem exX3_printLetter_70 {d : Nat} {m : Nat} {x1 : Int32} {x2 : Int32} {x3 : Int32} {ms0 : Nat} {y1 : Int32} {y2 : Int32} {j4 : Option VL} {hp : HP} {v : HP} (h : fX3_printLetter_70 m x1 x2 x3 ms0 y1 y2 hp = some v) : Ex (d + 3) kX3_printLetter 70 [some (vR (3, 0, m)), some (vI x1), some (vI x2), some (vI x3), j4] [vI y2, vI y1, vR (3, 0, ms0)] hp (rsV () v) := by
  replace h : ((fX3_addTo ms0 y1 y2 hp).bind fun hp9 => (fX7_at 5 m x1 hp9).bind fun v10 => if x2 = 0 then (fX3_printLetter_108 m m x3 v10 hp9) else (fX3_printLetter_108 m m x3 ((v10 - 97) + 65) hp9)) = some v := h
  obtain ⟨hp9, hv, h⟩ := Option.bind_eq_some_iff.mp h
  refine Ex.call (args := [vR (3, 0, ms0), vI y1, vI y2]) (rest := []) rfl rfl rfl (exX3_addTo (d := d + 1) hv) ?_
  show Ex (d + 3) kX3_printLetter 73 [some (vR (3, 0, m)), some (vI x1), some (vI x2), some (vI x3), j4] [] hp9 _
  refine Ex.go 4 (pc' := 81) (ls' := [some (vR (3, 0, m)), some (vI x1), some (vI x2), some (vI x3), j4]) (st' := [vI x1, vR (7, 5, m)]) (hp' := hp9) (fun _ => rfl) ?_
  obtain ⟨v10, hv, h⟩ := Option.bind_eq_some_iff.mp h
  refine Ex.call (args := [vR (7, 5, m), vI x1]) (rest := []) rfl rfl rfl (exX7_at (d := d + 2) hv) ?_
  show Ex (d + 3) kX3_printLetter 84 [some (vR (3, 0, m)), some (vI x1), some (vI x2), some (vI x3), j4] [vI v10] hp9 _
  refine Ex.go 5 (pc' := 92) (ls' := [some (vR (3, 0, m)), some (vI x1), some (vI x2), some (vI x3), some (vI v10)]) (st' := [vI x2, vI x3, vR (4, 0, m)]) (hp' := hp9) (fun _ => rfl) ?_
  refine Ex.ifc rfl ?_
  by_cases hc : x2 = 0
  · rw [if_pos hc] at h
    rw [brI_eq_p hc]
    show Ex (d + 3) kX3_printLetter 106 [some (vR (3, 0, m)), some (vI x1), some (vI x2), some (vI x3), some (vI v10)] [vI x3, vR (4, 0, m)] hp9 _
    refine Ex.go 1 (pc' := 108) (ls' := [some (vR (3, 0, m)), some (vI x1), some (vI x2), some (vI x3), some (vI v10)]) (st' := [vI v10, vI x3, vR (4, 0, m)]) (hp' := hp9) (fun _ => rfl) ?_
    exact exX3_printLetter_108 h
  · rw [if_neg hc] at h
    rw [brI_eq_n hc]
    show Ex (d + 3) kX3_printLetter 95 [some (vR (3, 0, m)), some (vI x1), some (vI x2), some (vI x3), some (vI v10)] [vI x3, vR (4, 0, m)] hp9 _
    refine Ex.go 6 (pc' := 108) (ls' := [some (vR (3, 0, m)), some (vI x1), some (vI x2), some (vI x3), some (vI v10)]) (st' := [vI ((v10 - 97) + 65), vI x3, vR (4, 0, m)]) (hp' := hp9) (fun _ => rfl) ?_
    exact exX3_printLetter_108 h
def fX3_printLetter_23 (m : Nat) (x1 : Int32) (x2 : Int32) (hp : HP) : Option HP := (fX4_placeOf m (hp (1, 0, m) 2) (hp (1, 0, m) 3) hp).bind fun v11 => (fX3_addTo m 3 1 hp).bind fun hp14 => (fX4_isEmpty m v11 hp14).bind fun v15 => if v15 = 0 then (fX3_printLetter_70 m x1 x2 v11 m 12 1 hp14) else (fX3_printLetter_70 m x1 x2 v11 m 12 0 hp14)
theorem exX3_printLetter_23 {d : Nat} {m : Nat} {x1 : Int32} {x2 : Int32} {j3 : Option VL} {j4 : Option VL} {hp : HP} {v : HP} (h : fX3_printLetter_23 m x1 x2 hp = some v) : Ex (d + 3) kX3_printLetter 23 [some (vR (3, 0, m)), some (vI x1), some (vI x2), j3, j4] [] hp (rsV () v) := by
  replace h : ((fX4_placeOf m (hp (1, 0, m) 2) (hp (1, 0, m) 3) hp).bind fun v11 => (fX3_addTo m 3 1 hp).bind fun hp14 => (fX4_isEmpty m v11 hp14).bind fun v15 => if v15 = 0 then (fX3_printLetter_70 m x1 x2 v11 m 12 1 hp14) else (fX3_printLetter_70 m x1 x2 v11 m 12 0 hp14)) = some v := h
  refine Ex.go 8 (pc' := 41) (ls' := [some (vR (3, 0, m)), some (vI x1), some (vI x2), j3, j4]) (st' := [vI (hp (1, 0, m) 3), vI (hp (1, 0, m) 2), vR (4, 0, m)]) (hp' := hp) (fun _ => rfl) ?_
  obtain ⟨v11, hv, h⟩ := Option.bind_eq_some_iff.mp h
  refine Ex.call (args := [vR (4, 0, m), vI (hp (1, 0, m) 2), vI (hp (1, 0, m) 3)]) (rest := []) rfl rfl rfl (exX4_placeOf (d := d + 1) hv) ?_
  show Ex (d + 3) kX3_printLetter 44 [some (vR (3, 0, m)), some (vI x1), some (vI x2), j3, j4] [vI v11] hp _
  refine Ex.go 4 (pc' := 48) (ls' := [some (vR (3, 0, m)), some (vI x1), some (vI x2), some (vI v11), j4]) (st' := [vI 1, vI 3, vR (3, 0, m)]) (hp' := hp) (fun _ => rfl) ?_
  obtain ⟨hp14, hv, h⟩ := Option.bind_eq_some_iff.mp h
  refine Ex.call (args := [vR (3, 0, m), vI 3, vI 1]) (rest := []) rfl rfl rfl (exX3_addTo (d := d + 1) hv) ?_
  show Ex (d + 3) kX3_printLetter 51 [some (vR (3, 0, m)), some (vI x1), some (vI x2), some (vI v11), j4] [] hp14 _
  refine Ex.go 5 (pc' := 59) (ls' := [some (vR (3, 0, m)), some (vI x1), some (vI x2), some (vI v11), j4]) (st' := [vI v11, vR (4, 0, m), vI 12, vR (3, 0, m)]) (hp' := hp14) (fun _ => rfl) ?_
  obtain ⟨v15, hv, h⟩ := Option.bind_eq_some_iff.mp h
  refine Ex.call (args := [vR (4, 0, m), vI v11]) (rest := [vI 12, vR (3, 0, m)]) rfl rfl rfl (exX4_isEmpty (d := d + 1) hv) ?_
  show Ex (d + 3) kX3_printLetter 62 [some (vR (3, 0, m)), some (vI x1), some (vI x2), some (vI v11), j4] [vI v15, vI 12, vR (3, 0, m)] hp14 _
  refine Ex.ifc rfl ?_
  by_cases hc : v15 = 0
  · rw [if_pos hc] at h
    rw [brI_eq_p hc]
    show Ex (d + 3) kX3_printLetter 69 [some (vR (3, 0, m)), some (vI x1), some (vI x2), some (vI v11), j4] [vI 12, vR (3, 0, m)] hp14 _
    refine Ex.go 1 (pc' := 70) (ls' := [some (vR (3, 0, m)), some (vI x1), some (vI x2), some (vI v11), j4]) (st' := [vI 1, vI 12, vR (3, 0, m)]) (hp' := hp14) (fun _ => rfl) ?_
    exact exX3_printLetter_70 h
  · rw [if_neg hc] at h
    rw [brI_eq_n hc]
    show Ex (d + 3) kX3_printLetter 65 [some (vR (3, 0, m)), some (vI x1), some (vI x2), some (vI v11), j4] [vI 12, vR (3, 0, m)] hp14 _
    refine Ex.go 2 (pc' := 70) (ls' := [some (vR (3, 0, m)), some (vI x1), some (vI x2), some (vI v11), j4]) (st' := [vI 0, vI 12, vR (3, 0, m)]) (hp' := hp14) (fun _ => rfl) ?_
    exact exX3_printLetter_70 h
def fX3_printLetter (m : Nat) (a0 : Int32) (a1 : Int32) (hp : HP) : Option HP := (fX0_noteStrike m a0 (hp (3, 0, m) 6) hp).bind fun hp18 => (fX6_feed m hp18).bind fun q20 => fX3_printLetter_23 m a0 a1 (up q20.2 (3, 0, m) 9 q20.1)
theorem exX3_printLetter {d : Nat} {m : Nat} {a0 : Int32} {a1 : Int32} {hp : HP} {v : HP} (h : fX3_printLetter m a0 a1 hp = some v) : Calls (d + 3) 44 [vR (3, 0, m), vI a0, vI a1] hp (rsV () v) := by
  replace h : ((fX0_noteStrike m a0 (hp (3, 0, m) 6) hp).bind fun hp18 => (fX6_feed m hp18).bind fun q20 => fX3_printLetter_23 m a0 a1 (up q20.2 (3, 0, m) 9 q20.1)) = some v := h
  show Ex (d + 3) kX3_printLetter 0 [some (vR (3, 0, m)), some (vI a0), some (vI a1), none, none] [] hp _
  refine Ex.go 5 (pc' := 9) (ls' := [some (vR (3, 0, m)), some (vI a0), some (vI a1), none, none]) (st' := [vI (hp (3, 0, m) 6), vI a0, vR (0, 0, m)]) (hp' := hp) (fun _ => rfl) ?_
  obtain ⟨hp18, hv, h⟩ := Option.bind_eq_some_iff.mp h
  refine Ex.call (args := [vR (0, 0, m), vI a0, vI (hp (3, 0, m) 6)]) (rest := []) rfl rfl rfl (exX0_noteStrike (d := d + 1) hv) ?_
  show Ex (d + 3) kX3_printLetter 12 [some (vR (3, 0, m)), some (vI a0), some (vI a1), none, none] [] hp18 _
  refine Ex.go 3 (pc' := 17) (ls' := [some (vR (3, 0, m)), some (vI a0), some (vI a1), none, none]) (st' := [vR (6, 0, m), vR (3, 0, m)]) (hp' := hp18) (fun _ => rfl) ?_
  obtain ⟨q20, hv, h⟩ := Option.bind_eq_some_iff.mp h
  refine Ex.call (args := [vR (6, 0, m)]) (rest := [vR (3, 0, m)]) rfl rfl rfl (exX6_feed (d := d + 1) hv) ?_
  show Ex (d + 3) kX3_printLetter 20 [some (vR (3, 0, m)), some (vI a0), some (vI a1), none, none] [vI q20.1, vR (3, 0, m)] q20.2 _
  refine Ex.go 1 (pc' := 23) (ls' := [some (vR (3, 0, m)), some (vI a0), some (vI a1), none, none]) (st' := []) (hp' := (up q20.2 (3, 0, m) 9 q20.1)) (fun _ => rfl) ?_
  exact exX3_printLetter_23 h
def fX3_letterKey_60 (m : Nat) (x3 : Int32) (hp : HP) : Option (Int32 × HP) := (fX3_endKey m x3 hp).bind fun q2 => some (q2.1, q2.2)
theorem exX3_letterKey_60 {d : Nat} {m : Nat} {x3 : Int32} {j1 : Option VL} {j2 : Option VL} {hp : HP} {v : (Int32 × HP)} (h : fX3_letterKey_60 m x3 hp = some v) : Ex (d + 4) kX3_letterKey 60 [some (vR (3, 0, m)), j1, j2, some (vI x3)] [] hp (rsI v.1 v.2) := by
  replace h : ((fX3_endKey m x3 hp).bind fun q2 => some (q2.1, q2.2)) = some v := h
  refine Ex.go 2 (pc' := 62) (ls' := [some (vR (3, 0, m)), j1, j2, some (vI x3)]) (st' := [vI x3, vR (3, 0, m)]) (hp' := hp) (fun _ => rfl) ?_
  obtain ⟨q2, hv, h⟩ := Option.bind_eq_some_iff.mp h
  refine Ex.call (args := [vR (3, 0, m), vI x3]) (rest := []) rfl rfl rfl (exX3_endKey (d := d + 1) hv) ?_
  show Ex (d + 4) kX3_letterKey 65 [some (vR (3, 0, m)), j1, j2, some (vI x3)] [vI q2.1] q2.2 _
  cases h
  exact Ex.ret rfl rfl rfl
def fX3_letterKey_27 (m : Nat) (x1 : Int32) (x2 : Int32) (x3 : Int32) (hp : HP) : Option (Int32 × HP) := if x3 = 0 then ((fX3_printLetter m x1 x2 hp).bind fun hp11 => fX3_letterKey_60 m x3 hp11) else (if x3 = 5 then ((fX0_jamWithLatest m x1 hp).bind fun hp5 => (fX3_addTo m 8 1 hp5).bind fun hp8 => fX3_letterKey_60 m x3 hp8) else (fX3_letterKey_60 m x3 hp))
theorem exX3_letterKey_27 {d : Nat} {m : Nat} {x1 : Int32} {x2 : Int32} {x3 : Int32} {hp : HP} {v : (Int32 × HP)} (h : fX3_letterKey_27 m x1 x2 x3 hp = some v) : Ex (d + 4) kX3_letterKey 27 [some (vR (3, 0, m)), some (vI x1), some (vI x2), some (vI x3)] [] hp (rsI v.1 v.2) := by
  replace h : (if x3 = 0 then ((fX3_printLetter m x1 x2 hp).bind fun hp11 => fX3_letterKey_60 m x3 hp11) else (if x3 = 5 then ((fX0_jamWithLatest m x1 hp).bind fun hp5 => (fX3_addTo m 8 1 hp5).bind fun hp8 => fX3_letterKey_60 m x3 hp8) else (fX3_letterKey_60 m x3 hp))) = some v := h
  refine Ex.go 1 (pc' := 28) (ls' := [some (vR (3, 0, m)), some (vI x1), some (vI x2), some (vI x3)]) (st' := [vI x3]) (hp' := hp) (fun _ => rfl) ?_
  refine Ex.ifc rfl ?_
  by_cases hc : x3 = 0
  · rw [if_pos hc] at h
    rw [brI_ne_p hc]
    show Ex (d + 4) kX3_letterKey 31 [some (vR (3, 0, m)), some (vI x1), some (vI x2), some (vI x3)] [] hp _
    refine Ex.go 3 (pc' := 34) (ls' := [some (vR (3, 0, m)), some (vI x1), some (vI x2), some (vI x3)]) (st' := [vI x2, vI x1, vR (3, 0, m)]) (hp' := hp) (fun _ => rfl) ?_
    obtain ⟨hp11, hv, h⟩ := Option.bind_eq_some_iff.mp h
    refine Ex.call (args := [vR (3, 0, m), vI x1, vI x2]) (rest := []) rfl rfl rfl (exX3_printLetter (d := d + 0) hv) ?_
    show Ex (d + 4) kX3_letterKey 37 [some (vR (3, 0, m)), some (vI x1), some (vI x2), some (vI x3)] [] hp11 _
    refine Ex.go 1 (pc' := 60) (ls' := [some (vR (3, 0, m)), some (vI x1), some (vI x2), some (vI x3)]) (st' := []) (hp' := hp11) (fun _ => rfl) ?_
    exact exX3_letterKey_60 h
  · rw [if_neg hc] at h
    rw [brI_ne_n hc]
    show Ex (d + 4) kX3_letterKey 40 [some (vR (3, 0, m)), some (vI x1), some (vI x2), some (vI x3)] [] hp _
    refine Ex.go 2 (pc' := 42) (ls' := [some (vR (3, 0, m)), some (vI x1), some (vI x2), some (vI x3)]) (st' := [vI 5, vI x3]) (hp' := hp) (fun _ => rfl) ?_
    refine Ex.icmp rfl ?_
    by_cases hc : x3 = 5
    · rw [if_pos hc] at h
      rw [brI_ne_p hc]
      show Ex (d + 4) kX3_letterKey 45 [some (vR (3, 0, m)), some (vI x1), some (vI x2), some (vI x3)] [] hp _
      refine Ex.go 3 (pc' := 50) (ls' := [some (vR (3, 0, m)), some (vI x1), some (vI x2), some (vI x3)]) (st' := [vI x1, vR (0, 0, m)]) (hp' := hp) (fun _ => rfl) ?_
      obtain ⟨hp5, hv, h⟩ := Option.bind_eq_some_iff.mp h
      refine Ex.call (args := [vR (0, 0, m), vI x1]) (rest := []) rfl rfl rfl (exX0_jamWithLatest (d := d + 3) hv) ?_
      show Ex (d + 4) kX3_letterKey 53 [some (vR (3, 0, m)), some (vI x1), some (vI x2), some (vI x3)] [] hp5 _
      refine Ex.go 3 (pc' := 57) (ls' := [some (vR (3, 0, m)), some (vI x1), some (vI x2), some (vI x3)]) (st' := [vI 1, vI 8, vR (3, 0, m)]) (hp' := hp5) (fun _ => rfl) ?_
      obtain ⟨hp8, hv, h⟩ := Option.bind_eq_some_iff.mp h
      refine Ex.call (args := [vR (3, 0, m), vI 8, vI 1]) (rest := []) rfl rfl rfl (exX3_addTo (d := d + 2) hv) ?_
      show Ex (d + 4) kX3_letterKey 60 [some (vR (3, 0, m)), some (vI x1), some (vI x2), some (vI x3)] [] hp8 _
      exact exX3_letterKey_60 h
    · rw [if_neg hc] at h
      rw [brI_ne_n hc]
      show Ex (d + 4) kX3_letterKey 60 [some (vR (3, 0, m)), some (vI x1), some (vI x2), some (vI x3)] [] hp _
      exact exX3_letterKey_60 h
def fX3_letterKey (m : Nat) (a0 : Int32) (a1 : Int32) (hp : HP) : Option (Int32 × HP) := (fX3_startKey m hp).bind fun hp14 => (fX3_standingFault m 1 hp14).bind fun v15 => if v15 = 0 then ((fX0_strikeFault m a0 (hp14 (3, 0, m) 6) hp14).bind fun v16 => fX3_letterKey_27 m a0 a1 v16 hp14) else (fX3_letterKey_27 m a0 a1 v15 hp14)
theorem exX3_letterKey {d : Nat} {m : Nat} {a0 : Int32} {a1 : Int32} {hp : HP} {v : (Int32 × HP)} (h : fX3_letterKey m a0 a1 hp = some v) : Calls (d + 4) 43 [vR (3, 0, m), vI a0, vI a1] hp (rsI v.1 v.2) := by
  replace h : ((fX3_startKey m hp).bind fun hp14 => (fX3_standingFault m 1 hp14).bind fun v15 => if v15 = 0 then ((fX0_strikeFault m a0 (hp14 (3, 0, m) 6) hp14).bind fun v16 => fX3_letterKey_27 m a0 a1 v16 hp14) else (fX3_letterKey_27 m a0 a1 v15 hp14)) = some v := h
  show Ex (d + 4) kX3_letterKey 0 [some (vR (3, 0, m)), some (vI a0), some (vI a1), none] [] hp _
  refine Ex.go 1 (pc' := 1) (ls' := [some (vR (3, 0, m)), some (vI a0), some (vI a1), none]) (st' := [vR (3, 0, m)]) (hp' := hp) (fun _ => rfl) ?_
  obtain ⟨hp14, hv, h⟩ := Option.bind_eq_some_iff.mp h
  refine Ex.call (args := [vR (3, 0, m)]) (rest := []) rfl rfl rfl (exX3_startKey (d := d + 1) hv) ?_
  show Ex (d + 4) kX3_letterKey 4 [some (vR (3, 0, m)), some (vI a0), some (vI a1), none] [] hp14 _
  refine Ex.go 2 (pc' := 6) (ls' := [some (vR (3, 0, m)), some (vI a0), some (vI a1), none]) (st' := [vI 1, vR (3, 0, m)]) (hp' := hp14) (fun _ => rfl) ?_
  obtain ⟨v15, hv, h⟩ := Option.bind_eq_some_iff.mp h
  refine Ex.call (args := [vR (3, 0, m), vI 1]) (rest := []) rfl rfl rfl (exX3_standingFault (d := d + 1) hv) ?_
  show Ex (d + 4) kX3_letterKey 9 [some (vR (3, 0, m)), some (vI a0), some (vI a1), none] [vI v15] hp14 _
  refine Ex.go 2 (pc' := 11) (ls' := [some (vR (3, 0, m)), some (vI a0), some (vI a1), some (vI v15)]) (st' := [vI v15]) (hp' := hp14) (fun _ => rfl) ?_
  refine Ex.ifc rfl ?_
  by_cases hc : v15 = 0
  · rw [if_pos hc] at h
    rw [brI_ne_p hc]
    show Ex (d + 4) kX3_letterKey 14 [some (vR (3, 0, m)), some (vI a0), some (vI a1), some (vI v15)] [] hp14 _
    refine Ex.go 5 (pc' := 23) (ls' := [some (vR (3, 0, m)), some (vI a0), some (vI a1), some (vI v15)]) (st' := [vI (hp14 (3, 0, m) 6), vI a0, vR (0, 0, m)]) (hp' := hp14) (fun _ => rfl) ?_
    obtain ⟨v16, hv, h⟩ := Option.bind_eq_some_iff.mp h
    refine Ex.call (args := [vR (0, 0, m), vI a0, vI (hp14 (3, 0, m) 6)]) (rest := []) rfl rfl rfl (exX0_strikeFault (d := d + 0) hv) ?_
    show Ex (d + 4) kX3_letterKey 26 [some (vR (3, 0, m)), some (vI a0), some (vI a1), some (vI v15)] [vI v16] hp14 _
    refine Ex.go 1 (pc' := 27) (ls' := [some (vR (3, 0, m)), some (vI a0), some (vI a1), some (vI v16)]) (st' := []) (hp' := hp14) (fun _ => rfl) ?_
    exact exX3_letterKey_27 h
  · rw [if_neg hc] at h
    rw [brI_ne_n hc]
    show Ex (d + 4) kX3_letterKey 27 [some (vR (3, 0, m)), some (vI a0), some (vI a1), some (vI v15)] [] hp14 _
    exact exX3_letterKey_27 h
def fX3_nextLine (m : Nat) (hp : HP) : Option Int32 := (fX7_at 0 m 12 hp).bind fun v1 => some ((hp (1, 0, m) 2) + v1)
theorem exX3_nextLine {d : Nat} {m : Nat} {hp : HP} {v : Int32} (h : fX3_nextLine m hp = some v) : Calls (d + 1) 48 [vR (3, 0, m)] hp (rsI v hp) := by
  replace h : ((fX7_at 0 m 12 hp).bind fun v1 => some ((hp (1, 0, m) 2) + v1)) = some v := h
  show Ex (d + 1) kX3_nextLine 0 [some (vR (3, 0, m))] [] hp _
  refine Ex.go 6 (pc' := 13) (ls' := [some (vR (3, 0, m))]) (st' := [vI 12, vR (7, 0, m), vI (hp (1, 0, m) 2)]) (hp' := hp) (fun _ => rfl) ?_
  obtain ⟨v1, hv, h⟩ := Option.bind_eq_some_iff.mp h
  refine Ex.call (args := [vR (7, 0, m), vI 12]) (rest := [vI (hp (1, 0, m) 2)]) rfl rfl rfl (exX7_at (d := d + 0) hv) ?_
  show Ex (d + 1) kX3_nextLine 16 [some (vR (3, 0, m))] [vI v1, vI (hp (1, 0, m) 2)] hp _
  refine Ex.go 1 (pc' := 17) (ls' := [some (vR (3, 0, m))]) (st' := [vI ((hp (1, 0, m) 2) + v1)]) (hp' := hp) (fun _ => rfl) ?_
  cases h
  exact Ex.ret rfl rfl rfl
def fX3_plainFault_53 (m : Nat) (x2 : Int32) (hp : HP) : Option Int32 := some x2
theorem exX3_plainFault_53 {d : Nat} {m : Nat} {x2 : Int32} {j1 : Option VL} {hp : HP} {v : Int32} (h : fX3_plainFault_53 m x2 hp = some v) : Ex (d + 3) kX3_plainFault 53 [some (vR (3, 0, m)), j1, some (vI x2)] [] hp (rsI v hp) := by
  replace h : (some x2) = some v := h
  refine Ex.go 1 (pc' := 54) (ls' := [some (vR (3, 0, m)), j1, some (vI x2)]) (st' := [vI x2]) (hp' := hp) (fun _ => rfl) ?_
  cases h
  exact Ex.ret rfl rfl rfl
def fX3_plainFault_22 (m : Nat) (x1 : Int32) (ms0 : Nat) (y1 : Int32) (hp : HP) : Option Int32 := (fX3_standingFault ms0 y1 hp).bind fun v1 => if v1 = 0 then (if x1 = 3 then ((fX3_nextLine m hp).bind fun v2 => (fX7_at 0 m 1 hp).bind fun v3 => if v2 < v3 then (fX3_plainFault_53 m v1 hp) else (some 6)) else (fX3_plainFault_53 m v1 hp)) else (fX3_plainFault_53 m v1 hp)
theorem exX3_plainFault_22 {d : Nat} {m : Nat} {x1 : Int32} {ms0 : Nat} {y1 : Int32} {j2 : Option VL} {hp : HP} {v : Int32} (h : fX3_plainFault_22 m x1 ms0 y1 hp = some v) : Ex (d + 3) kX3_plainFault 22 [some (vR (3, 0, m)), some (vI x1), j2] [vI y1, vR (3, 0, ms0)] hp (rsI v hp) := by
  replace h : ((fX3_standingFault ms0 y1 hp).bind fun v1 => if v1 = 0 then (if x1 = 3 then ((fX3_nextLine m hp).bind fun v2 => (fX7_at 0 m 1 hp).bind fun v3 => if v2 < v3 then (fX3_plainFault_53 m v1 hp) else (some 6)) else (fX3_plainFault_53 m v1 hp)) else (fX3_plainFault_53 m v1 hp)) = some v := h
  obtain ⟨v1, hv, h⟩ := Option.bind_eq_some_iff.mp h
  refine Ex.call (args := [vR (3, 0, ms0), vI y1]) (rest := []) rfl rfl rfl (exX3_standingFault (d := d + 0) hv) ?_
  show Ex (d + 3) kX3_plainFault 25 [some (vR (3, 0, m)), some (vI x1), j2] [vI v1] hp _
  refine Ex.go 2 (pc' := 27) (ls' := [some (vR (3, 0, m)), some (vI x1), some (vI v1)]) (st' := [vI v1]) (hp' := hp) (fun _ => rfl) ?_
  refine Ex.ifc rfl ?_
  by_cases hc : v1 = 0
  · rw [if_pos hc] at h
    rw [brI_ne_p hc]
    show Ex (d + 3) kX3_plainFault 30 [some (vR (3, 0, m)), some (vI x1), some (vI v1)] [] hp _
    refine Ex.go 2 (pc' := 32) (ls' := [some (vR (3, 0, m)), some (vI x1), some (vI v1)]) (st' := [vI 3, vI x1]) (hp' := hp) (fun _ => rfl) ?_
    refine Ex.icmp rfl ?_
    by_cases hc : x1 = 3
    · rw [if_pos hc] at h
      rw [brI_ne_p hc]
      show Ex (d + 3) kX3_plainFault 35 [some (vR (3, 0, m)), some (vI x1), some (vI v1)] [] hp _
      refine Ex.go 1 (pc' := 36) (ls' := [some (vR (3, 0, m)), some (vI x1), some (vI v1)]) (st' := [vR (3, 0, m)]) (hp' := hp) (fun _ => rfl) ?_
      obtain ⟨v2, hv, h⟩ := Option.bind_eq_some_iff.mp h
      refine Ex.call (args := [vR (3, 0, m)]) (rest := []) rfl rfl rfl (exX3_nextLine (d := d + 1) hv) ?_
      show Ex (d + 3) kX3_plainFault 39 [some (vR (3, 0, m)), some (vI x1), some (vI v1)] [vI v2] hp _
      refine Ex.go 3 (pc' := 44) (ls' := [some (vR (3, 0, m)), some (vI x1), some (vI v1)]) (st' := [vI 1, vR (7, 0, m), vI v2]) (hp' := hp) (fun _ => rfl) ?_
      obtain ⟨v3, hv, h⟩ := Option.bind_eq_some_iff.mp h
      refine Ex.call (args := [vR (7, 0, m), vI 1]) (rest := [vI v2]) rfl rfl rfl (exX7_at (d := d + 2) hv) ?_
      show Ex (d + 3) kX3_plainFault 47 [some (vR (3, 0, m)), some (vI x1), some (vI v1)] [vI v3, vI v2] hp _
      refine Ex.icmp rfl ?_
      by_cases hc : v2 < v3
      · rw [if_pos hc] at h
        rw [brI_lt_p hc]
        show Ex (d + 3) kX3_plainFault 53 [some (vR (3, 0, m)), some (vI x1), some (vI v1)] [] hp _
        exact exX3_plainFault_53 h
      · rw [if_neg hc] at h
        rw [brI_lt_n hc]
        show Ex (d + 3) kX3_plainFault 50 [some (vR (3, 0, m)), some (vI x1), some (vI v1)] [] hp _
        refine Ex.go 1 (pc' := 52) (ls' := [some (vR (3, 0, m)), some (vI x1), some (vI v1)]) (st' := [vI 6]) (hp' := hp) (fun _ => rfl) ?_
        cases h
        exact Ex.ret rfl rfl rfl
    · rw [if_neg hc] at h
      rw [brI_ne_n hc]
      show Ex (d + 3) kX3_plainFault 53 [some (vR (3, 0, m)), some (vI x1), some (vI v1)] [] hp _
      exact exX3_plainFault_53 h
  · rw [if_neg hc] at h
    rw [brI_ne_n hc]
    show Ex (d + 3) kX3_plainFault 53 [some (vR (3, 0, m)), some (vI x1), some (vI v1)] [] hp _
    exact exX3_plainFault_53 h
def fX3_plainFault (m : Nat) (a0 : Int32) (hp : HP) : Option Int32 := if a0 = 4 then (some 0) else (if a0 = 5 then (some 0) else (if a0 = 0 then (fX3_plainFault_22 m a0 m 1 hp) else (fX3_plainFault_22 m a0 m 0 hp)))
theorem exX3_plainFault {d : Nat} {m : Nat} {a0 : Int32} {hp : HP} {v : Int32} (h : fX3_plainFault m a0 hp = some v) : Calls (d + 3) 47 [vR (3, 0, m), vI a0] hp (rsI v hp) := by
  replace h : (if a0 = 4 then (some 0) else (if a0 = 5 then (some 0) else (if a0 = 0 then (fX3_plainFault_22 m a0 m 1 hp) else (fX3_plainFault_22 m a0 m 0 hp)))) = some v := h
  show Ex (d + 3) kX3_plainFault 0 [some (vR (3, 0, m)), some (vI a0), none] [] hp _
  refine Ex.go 2 (pc' := 2) (ls' := [some (vR (3, 0, m)), some (vI a0), none]) (st' := [vI 4, vI a0]) (hp' := hp) (fun _ => rfl) ?_
  refine Ex.icmp rfl ?_
  by_cases hc : a0 = 4
  · rw [if_pos hc] at h
    rw [brI_eq_p hc]
    show Ex (d + 3) kX3_plainFault 10 [some (vR (3, 0, m)), some (vI a0), none] [] hp _
    refine Ex.go 1 (pc' := 11) (ls' := [some (vR (3, 0, m)), some (vI a0), none]) (st' := [vI 0]) (hp' := hp) (fun _ => rfl) ?_
    cases h
    exact Ex.ret rfl rfl rfl
  · rw [if_neg hc] at h
    rw [brI_eq_n hc]
    show Ex (d + 3) kX3_plainFault 5 [some (vR (3, 0, m)), some (vI a0), none] [] hp _
    refine Ex.go 2 (pc' := 7) (ls' := [some (vR (3, 0, m)), some (vI a0), none]) (st' := [vI 5, vI a0]) (hp' := hp) (fun _ => rfl) ?_
    refine Ex.icmp rfl ?_
    by_cases hc : a0 = 5
    · rw [if_pos hc] at h
      rw [brI_ne_p hc]
      show Ex (d + 3) kX3_plainFault 10 [some (vR (3, 0, m)), some (vI a0), none] [] hp _
      refine Ex.go 1 (pc' := 11) (ls' := [some (vR (3, 0, m)), some (vI a0), none]) (st' := [vI 0]) (hp' := hp) (fun _ => rfl) ?_
      cases h
      exact Ex.ret rfl rfl rfl
    · rw [if_neg hc] at h
      rw [brI_ne_n hc]
      show Ex (d + 3) kX3_plainFault 12 [some (vR (3, 0, m)), some (vI a0), none] [] hp _
      refine Ex.go 2 (pc' := 14) (ls' := [some (vR (3, 0, m)), some (vI a0), none]) (st' := [vI a0, vR (3, 0, m)]) (hp' := hp) (fun _ => rfl) ?_
      refine Ex.ifc rfl ?_
      by_cases hc : a0 = 0
      · rw [if_pos hc] at h
        rw [brI_ne_p hc]
        show Ex (d + 3) kX3_plainFault 17 [some (vR (3, 0, m)), some (vI a0), none] [vR (3, 0, m)] hp _
        refine Ex.go 2 (pc' := 22) (ls' := [some (vR (3, 0, m)), some (vI a0), none]) (st' := [vI 1, vR (3, 0, m)]) (hp' := hp) (fun _ => rfl) ?_
        exact exX3_plainFault_22 h
      · rw [if_neg hc] at h
        rw [brI_ne_n hc]
        show Ex (d + 3) kX3_plainFault 21 [some (vR (3, 0, m)), some (vI a0), none] [vR (3, 0, m)] hp _
        refine Ex.go 1 (pc' := 22) (ls' := [some (vR (3, 0, m)), some (vI a0), none]) (st' := [vI 0, vR (3, 0, m)]) (hp' := hp) (fun _ => rfl) ?_
        exact exX3_plainFault_22 h
def fX3_doPlainKey (m : Nat) (a0 : Int32) (hp : HP) : Option HP := if a0 = 0 then ((fX3_addTo m 4 1 hp).bind fun hp21 => (fX3_moveOn m hp21).bind fun hp24 => some hp24) else (if a0 = 1 then ((fX3_addTo m 5 1 hp).bind fun hp17 => (fX1_tabFrom m (hp17 (1, 0, m) 3) hp17).bind fun v18 => some (up hp17 (1, 0, m) 3 v18)) else (if a0 = 2 then ((fX3_addTo m 6 1 hp).bind fun hp13 => (fX1_backFrom m (hp13 (1, 0, m) 3) hp13).bind fun v14 => some (up hp13 (1, 0, m) 3 v14)) else (if a0 = 3 then ((fX3_addTo m 7 1 hp).bind fun hp6 => (fX3_nextLine m hp6).bind fun v7 => (fX1_goToLine m v7 hp6).bind fun hp10 => some hp10) else (if a0 = 4 then (some (up hp (1, 0, m) 4 1)) else ((fX0_free m hp).bind fun hp3 => some (up hp3 (3, 0, m) 6 ((hp3 (3, 0, m) 6) + 100)))))))
theorem exX3_doPlainKey {d : Nat} {m : Nat} {a0 : Int32} {hp : HP} {v : HP} (h : fX3_doPlainKey m a0 hp = some v) : Calls (d + 3) 49 [vR (3, 0, m), vI a0] hp (rsV () v) := by
  replace h : (if a0 = 0 then ((fX3_addTo m 4 1 hp).bind fun hp21 => (fX3_moveOn m hp21).bind fun hp24 => some hp24) else (if a0 = 1 then ((fX3_addTo m 5 1 hp).bind fun hp17 => (fX1_tabFrom m (hp17 (1, 0, m) 3) hp17).bind fun v18 => some (up hp17 (1, 0, m) 3 v18)) else (if a0 = 2 then ((fX3_addTo m 6 1 hp).bind fun hp13 => (fX1_backFrom m (hp13 (1, 0, m) 3) hp13).bind fun v14 => some (up hp13 (1, 0, m) 3 v14)) else (if a0 = 3 then ((fX3_addTo m 7 1 hp).bind fun hp6 => (fX3_nextLine m hp6).bind fun v7 => (fX1_goToLine m v7 hp6).bind fun hp10 => some hp10) else (if a0 = 4 then (some (up hp (1, 0, m) 4 1)) else ((fX0_free m hp).bind fun hp3 => some (up hp3 (3, 0, m) 6 ((hp3 (3, 0, m) 6) + 100)))))))) = some v := h
  show Ex (d + 3) kX3_doPlainKey 0 [some (vR (3, 0, m)), some (vI a0)] [] hp _
  refine Ex.go 1 (pc' := 1) (ls' := [some (vR (3, 0, m)), some (vI a0)]) (st' := [vI a0]) (hp' := hp) (fun _ => rfl) ?_
  refine Ex.tsw rfl ?_
  refine sw_c (k := 0) rfl (fun hc => ?_) (fun hc => ?_)
  · rw [if_pos hc] at h
    show Ex (d + 3) kX3_doPlainKey 36 [some (vR (3, 0, m)), some (vI a0)] [] hp _
    refine Ex.go 3 (pc' := 39) (ls' := [some (vR (3, 0, m)), some (vI a0)]) (st' := [vI 1, vI 4, vR (3, 0, m)]) (hp' := hp) (fun _ => rfl) ?_
    obtain ⟨hp27, hv, h⟩ := Option.bind_eq_some_iff.mp h
    refine Ex.call (args := [vR (3, 0, m), vI 4, vI 1]) (rest := []) rfl rfl rfl (exX3_addTo (d := d + 1) hv) ?_
    show Ex (d + 3) kX3_doPlainKey 42 [some (vR (3, 0, m)), some (vI a0)] [] hp27 _
    refine Ex.go 1 (pc' := 43) (ls' := [some (vR (3, 0, m)), some (vI a0)]) (st' := [vR (3, 0, m)]) (hp' := hp27) (fun _ => rfl) ?_
    obtain ⟨hp30, hv, h⟩ := Option.bind_eq_some_iff.mp h
    refine Ex.call (args := [vR (3, 0, m)]) (rest := []) rfl rfl rfl (exX3_moveOn (d := d + 0) hv) ?_
    show Ex (d + 3) kX3_doPlainKey 46 [some (vR (3, 0, m)), some (vI a0)] [] hp30 _
    refine Ex.go 1 (pc' := 160) (ls' := [some (vR (3, 0, m)), some (vI a0)]) (st' := []) (hp' := hp30) (fun _ => rfl) ?_
    cases h
    exact Ex.ret rfl rfl rfl
  rw [if_neg hc] at h
  refine sw_c (k := 1) rfl (fun hc => ?_) (fun hc => ?_)
  · rw [if_pos hc] at h
    show Ex (d + 3) kX3_doPlainKey 49 [some (vR (3, 0, m)), some (vI a0)] [] hp _
    refine Ex.go 3 (pc' := 52) (ls' := [some (vR (3, 0, m)), some (vI a0)]) (st' := [vI 1, vI 5, vR (3, 0, m)]) (hp' := hp) (fun _ => rfl) ?_
    obtain ⟨hp33, hv, h⟩ := Option.bind_eq_some_iff.mp h
    refine Ex.call (args := [vR (3, 0, m), vI 5, vI 1]) (rest := []) rfl rfl rfl (exX3_addTo (d := d + 1) hv) ?_
    show Ex (d + 3) kX3_doPlainKey 55 [some (vR (3, 0, m)), some (vI a0)] [] hp33 _
    refine Ex.go 7 (pc' := 70) (ls' := [some (vR (3, 0, m)), some (vI a0)]) (st' := [vI (hp33 (1, 0, m) 3), vR (1, 0, m), vR (1, 0, m)]) (hp' := hp33) (fun _ => rfl) ?_
    obtain ⟨v34, hv, h⟩ := Option.bind_eq_some_iff.mp h
    refine Ex.call (args := [vR (1, 0, m), vI (hp33 (1, 0, m) 3)]) (rest := [vR (1, 0, m)]) rfl rfl rfl (exX1_tabFrom (d := d + 0) hv) ?_
    show Ex (d + 3) kX3_doPlainKey 73 [some (vR (3, 0, m)), some (vI a0)] [vI v34, vR (1, 0, m)] hp33 _
    refine Ex.go 2 (pc' := 160) (ls' := [some (vR (3, 0, m)), some (vI a0)]) (st' := []) (hp' := (up hp33 (1, 0, m) 3 v34)) (fun _ => rfl) ?_
    cases h
    exact Ex.ret rfl rfl rfl
  rw [if_neg hc] at h
  refine sw_c (k := 2) rfl (fun hc => ?_) (fun hc => ?_)
  · rw [if_pos hc] at h
    show Ex (d + 3) kX3_doPlainKey 79 [some (vR (3, 0, m)), some (vI a0)] [] hp _
    refine Ex.go 3 (pc' := 83) (ls' := [some (vR (3, 0, m)), some (vI a0)]) (st' := [vI 1, vI 6, vR (3, 0, m)]) (hp' := hp) (fun _ => rfl) ?_
    obtain ⟨hp37, hv, h⟩ := Option.bind_eq_some_iff.mp h
    refine Ex.call (args := [vR (3, 0, m), vI 6, vI 1]) (rest := []) rfl rfl rfl (exX3_addTo (d := d + 1) hv) ?_
    show Ex (d + 3) kX3_doPlainKey 86 [some (vR (3, 0, m)), some (vI a0)] [] hp37 _
    refine Ex.go 7 (pc' := 101) (ls' := [some (vR (3, 0, m)), some (vI a0)]) (st' := [vI (hp37 (1, 0, m) 3), vR (1, 0, m), vR (1, 0, m)]) (hp' := hp37) (fun _ => rfl) ?_
    obtain ⟨v38, hv, h⟩ := Option.bind_eq_some_iff.mp h
    refine Ex.call (args := [vR (1, 0, m), vI (hp37 (1, 0, m) 3)]) (rest := [vR (1, 0, m)]) rfl rfl rfl (exX1_backFrom (d := d + 1) hv) ?_
    show Ex (d + 3) kX3_doPlainKey 104 [some (vR (3, 0, m)), some (vI a0)] [vI v38, vR (1, 0, m)] hp37 _
    refine Ex.go 2 (pc' := 160) (ls' := [some (vR (3, 0, m)), some (vI a0)]) (st' := []) (hp' := (up hp37 (1, 0, m) 3 v38)) (fun _ => rfl) ?_
    cases h
    exact Ex.ret rfl rfl rfl
  rw [if_neg hc] at h
  refine sw_c (k := 3) rfl (fun hc => ?_) (fun hc => ?_)
  · rw [if_pos hc] at h
    show Ex (d + 3) kX3_doPlainKey 110 [some (vR (3, 0, m)), some (vI a0)] [] hp _
    refine Ex.go 3 (pc' := 114) (ls' := [some (vR (3, 0, m)), some (vI a0)]) (st' := [vI 1, vI 7, vR (3, 0, m)]) (hp' := hp) (fun _ => rfl) ?_
    obtain ⟨hp41, hv, h⟩ := Option.bind_eq_some_iff.mp h
    refine Ex.call (args := [vR (3, 0, m), vI 7, vI 1]) (rest := []) rfl rfl rfl (exX3_addTo (d := d + 1) hv) ?_
    show Ex (d + 3) kX3_doPlainKey 117 [some (vR (3, 0, m)), some (vI a0)] [] hp41 _
    refine Ex.go 3 (pc' := 122) (ls' := [some (vR (3, 0, m)), some (vI a0)]) (st' := [vR (3, 0, m), vR (1, 0, m)]) (hp' := hp41) (fun _ => rfl) ?_
    obtain ⟨v42, hv, h⟩ := Option.bind_eq_some_iff.mp h
    refine Ex.call (args := [vR (3, 0, m)]) (rest := [vR (1, 0, m)]) rfl rfl rfl (exX3_nextLine (d := d + 1) hv) ?_
    show Ex (d + 3) kX3_doPlainKey 125 [some (vR (3, 0, m)), some (vI a0)] [vI v42, vR (1, 0, m)] hp41 _
    obtain ⟨hp45, hv, h⟩ := Option.bind_eq_some_iff.mp h
    refine Ex.call (args := [vR (1, 0, m), vI v42]) (rest := []) rfl rfl rfl (exX1_goToLine (d := d + 1) hv) ?_
    show Ex (d + 3) kX3_doPlainKey 128 [some (vR (3, 0, m)), some (vI a0)] [] hp45 _
    refine Ex.go 1 (pc' := 160) (ls' := [some (vR (3, 0, m)), some (vI a0)]) (st' := []) (hp' := hp45) (fun _ => rfl) ?_
    cases h
    exact Ex.ret rfl rfl rfl
  rw [if_neg hc] at h
  refine sw_c (k := 4) rfl (fun hc => ?_) (fun hc => ?_)
  · rw [if_pos hc] at h
    show Ex (d + 3) kX3_doPlainKey 131 [some (vR (3, 0, m)), some (vI a0)] [] hp _
    refine Ex.go 3 (pc' := 136) (ls' := [some (vR (3, 0, m)), some (vI a0)]) (st' := [vI 1, vR (1, 0, m)]) (hp' := hp) (fun _ => rfl) ?_
    refine Ex.putz rfl rfl rfl (by decide) rfl ?_
    show Ex (d + 3) kX3_doPlainKey 139 [some (vR (3, 0, m)), some (vI a0)] [] (up hp (1, 0, m) 4 1) _
    refine Ex.go 1 (pc' := 160) (ls' := [some (vR (3, 0, m)), some (vI a0)]) (st' := []) (hp' := (up hp (1, 0, m) 4 1)) (fun _ => rfl) ?_
    cases h
    exact Ex.ret rfl rfl rfl
  rw [if_neg hc] at h
  show Ex (d + 3) kX3_doPlainKey 142 [some (vR (3, 0, m)), some (vI a0)] [] hp _
  refine Ex.go 2 (pc' := 146) (ls' := [some (vR (3, 0, m)), some (vI a0)]) (st' := [vR (0, 0, m)]) (hp' := hp) (fun _ => rfl) ?_
  obtain ⟨hp3, hv, h⟩ := Option.bind_eq_some_iff.mp h
  refine Ex.call (args := [vR (0, 0, m)]) (rest := []) rfl rfl rfl (exX0_free (d := d + 1) hv) ?_
  show Ex (d + 3) kX3_doPlainKey 149 [some (vR (3, 0, m)), some (vI a0)] [] hp3 _
  refine Ex.go 6 (pc' := 160) (ls' := [some (vR (3, 0, m)), some (vI a0)]) (st' := []) (hp' := (up hp3 (3, 0, m) 6 ((hp3 (3, 0, m) 6) + 100))) (fun _ => rfl) ?_
  cases h
  exact Ex.ret rfl rfl rfl
def fX3_plainKey_19 (m : Nat) (x2 : Int32) (hp : HP) : Option (Int32 × HP) := (fX3_endKey m x2 hp).bind fun q2 => some (q2.1, q2.2)
theorem exX3_plainKey_19 {d : Nat} {m : Nat} {x2 : Int32} {j1 : Option VL} {hp : HP} {v : (Int32 × HP)} (h : fX3_plainKey_19 m x2 hp = some v) : Ex (d + 4) kX3_plainKey 19 [some (vR (3, 0, m)), j1, some (vI x2)] [] hp (rsI v.1 v.2) := by
  replace h : ((fX3_endKey m x2 hp).bind fun q2 => some (q2.1, q2.2)) = some v := h
  refine Ex.go 2 (pc' := 21) (ls' := [some (vR (3, 0, m)), j1, some (vI x2)]) (st' := [vI x2, vR (3, 0, m)]) (hp' := hp) (fun _ => rfl) ?_
  obtain ⟨q2, hv, h⟩ := Option.bind_eq_some_iff.mp h
  refine Ex.call (args := [vR (3, 0, m), vI x2]) (rest := []) rfl rfl rfl (exX3_endKey (d := d + 1) hv) ?_
  show Ex (d + 4) kX3_plainKey 24 [some (vR (3, 0, m)), j1, some (vI x2)] [vI q2.1] q2.2 _
  cases h
  exact Ex.ret rfl rfl rfl
def fX3_plainKey (m : Nat) (a0 : Int32) (hp : HP) : Option (Int32 × HP) := (fX3_startKey m hp).bind fun hp5 => (fX3_plainFault m a0 hp5).bind fun v6 => if v6 = 0 then ((fX3_doPlainKey m a0 hp5).bind fun hp9 => fX3_plainKey_19 m v6 hp9) else (fX3_plainKey_19 m v6 hp5)
theorem exX3_plainKey {d : Nat} {m : Nat} {a0 : Int32} {hp : HP} {v : (Int32 × HP)} (h : fX3_plainKey m a0 hp = some v) : Calls (d + 4) 46 [vR (3, 0, m), vI a0] hp (rsI v.1 v.2) := by
  replace h : ((fX3_startKey m hp).bind fun hp5 => (fX3_plainFault m a0 hp5).bind fun v6 => if v6 = 0 then ((fX3_doPlainKey m a0 hp5).bind fun hp9 => fX3_plainKey_19 m v6 hp9) else (fX3_plainKey_19 m v6 hp5)) = some v := h
  show Ex (d + 4) kX3_plainKey 0 [some (vR (3, 0, m)), some (vI a0), none] [] hp _
  refine Ex.go 1 (pc' := 1) (ls' := [some (vR (3, 0, m)), some (vI a0), none]) (st' := [vR (3, 0, m)]) (hp' := hp) (fun _ => rfl) ?_
  obtain ⟨hp5, hv, h⟩ := Option.bind_eq_some_iff.mp h
  refine Ex.call (args := [vR (3, 0, m)]) (rest := []) rfl rfl rfl (exX3_startKey (d := d + 1) hv) ?_
  show Ex (d + 4) kX3_plainKey 4 [some (vR (3, 0, m)), some (vI a0), none] [] hp5 _
  refine Ex.go 2 (pc' := 6) (ls' := [some (vR (3, 0, m)), some (vI a0), none]) (st' := [vI a0, vR (3, 0, m)]) (hp' := hp5) (fun _ => rfl) ?_
  obtain ⟨v6, hv, h⟩ := Option.bind_eq_some_iff.mp h
  refine Ex.call (args := [vR (3, 0, m), vI a0]) (rest := []) rfl rfl rfl (exX3_plainFault (d := d + 0) hv) ?_
  show Ex (d + 4) kX3_plainKey 9 [some (vR (3, 0, m)), some (vI a0), none] [vI v6] hp5 _
  refine Ex.go 2 (pc' := 11) (ls' := [some (vR (3, 0, m)), some (vI a0), some (vI v6)]) (st' := [vI v6]) (hp' := hp5) (fun _ => rfl) ?_
  refine Ex.ifc rfl ?_
  by_cases hc : v6 = 0
  · rw [if_pos hc] at h
    rw [brI_ne_p hc]
    show Ex (d + 4) kX3_plainKey 14 [some (vR (3, 0, m)), some (vI a0), some (vI v6)] [] hp5 _
    refine Ex.go 2 (pc' := 16) (ls' := [some (vR (3, 0, m)), some (vI a0), some (vI v6)]) (st' := [vI a0, vR (3, 0, m)]) (hp' := hp5) (fun _ => rfl) ?_
    obtain ⟨hp9, hv, h⟩ := Option.bind_eq_some_iff.mp h
    refine Ex.call (args := [vR (3, 0, m), vI a0]) (rest := []) rfl rfl rfl (exX3_doPlainKey (d := d + 0) hv) ?_
    show Ex (d + 4) kX3_plainKey 19 [some (vR (3, 0, m)), some (vI a0), some (vI v6)] [] hp9 _
    exact exX3_plainKey_19 h
  · rw [if_neg hc] at h
    rw [brI_ne_n hc]
    show Ex (d + 4) kX3_plainKey 19 [some (vR (3, 0, m)), some (vI a0), some (vI v6)] [] hp5 _
    exact exX3_plainKey_19 h
def fX9_keyOf (a0 : Int32) (hp : HP) : Option Int32 := if a0 = 32 then (some 0) else (if a0 = 33 then (some 5) else (if a0 = 47 then (some 3) else (if a0 = 60 then (some 2) else (if a0 = 62 then (some 1) else (if a0 = 94 then (some 4) else (some m1))))))
theorem exX9_keyOf {d : Nat} {a0 : Int32} {hp : HP} {v : Int32} (h : fX9_keyOf a0 hp = some v) : Calls (d + 0) 156 [vI a0] hp (rsI v hp) := by
  replace h : (if a0 = 32 then (some 0) else (if a0 = 33 then (some 5) else (if a0 = 47 then (some 3) else (if a0 = 60 then (some 2) else (if a0 = 62 then (some 1) else (if a0 = 94 then (some 4) else (some m1))))))) = some v := h
  show Ex (d + 0) kX9_keyOf 0 [some (vI a0)] [] hp _
  refine Ex.go 1 (pc' := 1) (ls' := [some (vI a0)]) (st' := [vI a0]) (hp' := hp) (fun _ => rfl) ?_
  refine Ex.lsw rfl ?_
  refine sw_c (k := 32) rfl (fun hc => ?_) (fun hc => ?_)
  · rw [if_pos hc] at h
    show Ex (d + 0) kX9_keyOf 60 [some (vI a0)] [] hp _
    refine Ex.go 1 (pc' := 61) (ls' := [some (vI a0)]) (st' := [vI 0]) (hp' := hp) (fun _ => rfl) ?_
    cases h
    exact Ex.ret rfl rfl rfl
  rw [if_neg hc] at h
  refine sw_c (k := 33) rfl (fun hc => ?_) (fun hc => ?_)
  · rw [if_pos hc] at h
    show Ex (d + 0) kX9_keyOf 70 [some (vI a0)] [] hp _
    refine Ex.go 1 (pc' := 71) (ls' := [some (vI a0)]) (st' := [vI 5]) (hp' := hp) (fun _ => rfl) ?_
    cases h
    exact Ex.ret rfl rfl rfl
  rw [if_neg hc] at h
  refine sw_c (k := 47) rfl (fun hc => ?_) (fun hc => ?_)
  · rw [if_pos hc] at h
    show Ex (d + 0) kX9_keyOf 66 [some (vI a0)] [] hp _
    refine Ex.go 1 (pc' := 67) (ls' := [some (vI a0)]) (st' := [vI 3]) (hp' := hp) (fun _ => rfl) ?_
    cases h
    exact Ex.ret rfl rfl rfl
  rw [if_neg hc] at h
  refine sw_c (k := 60) rfl (fun hc => ?_) (fun hc => ?_)
  · rw [if_pos hc] at h
    show Ex (d + 0) kX9_keyOf 64 [some (vI a0)] [] hp _
    refine Ex.go 1 (pc' := 65) (ls' := [some (vI a0)]) (st' := [vI 2]) (hp' := hp) (fun _ => rfl) ?_
    cases h
    exact Ex.ret rfl rfl rfl
  rw [if_neg hc] at h
  refine sw_c (k := 62) rfl (fun hc => ?_) (fun hc => ?_)
  · rw [if_pos hc] at h
    show Ex (d + 0) kX9_keyOf 62 [some (vI a0)] [] hp _
    refine Ex.go 1 (pc' := 63) (ls' := [some (vI a0)]) (st' := [vI 1]) (hp' := hp) (fun _ => rfl) ?_
    cases h
    exact Ex.ret rfl rfl rfl
  rw [if_neg hc] at h
  refine sw_c (k := 94) rfl (fun hc => ?_) (fun hc => ?_)
  · rw [if_pos hc] at h
    show Ex (d + 0) kX9_keyOf 68 [some (vI a0)] [] hp _
    refine Ex.go 1 (pc' := 69) (ls' := [some (vI a0)]) (st' := [vI 4]) (hp' := hp) (fun _ => rfl) ?_
    cases h
    exact Ex.ret rfl rfl rfl
  rw [if_neg hc] at h
  show Ex (d + 0) kX9_keyOf 72 [some (vI a0)] [] hp _
  refine Ex.go 1 (pc' := 73) (ls' := [some (vI a0)]) (st' := [vI m1]) (hp' := hp) (fun _ => rfl) ?_
  cases h
  exact Ex.ret rfl rfl rfl
def fX9_isDigit (a0 : Int32) (hp : HP) : Option Int32 := if a0 < 48 then (some 0) else (if 57 < a0 then (some 0) else (some 1))
theorem exX9_isDigit {d : Nat} {a0 : Int32} {hp : HP} {v : Int32} (h : fX9_isDigit a0 hp = some v) : Calls (d + 0) 155 [vI a0] hp (rsI v hp) := by
  replace h : (if a0 < 48 then (some 0) else (if 57 < a0 then (some 0) else (some 1))) = some v := h
  show Ex (d + 0) kX9_isDigit 0 [some (vI a0)] [] hp _
  refine Ex.go 2 (pc' := 3) (ls' := [some (vI a0)]) (st' := [vI 48, vI a0]) (hp' := hp) (fun _ => rfl) ?_
  refine Ex.icmp rfl ?_
  by_cases hc : a0 < 48
  · rw [if_pos hc] at h
    rw [brI_lt_p hc]
    show Ex (d + 0) kX9_isDigit 16 [some (vI a0)] [] hp _
    refine Ex.go 1 (pc' := 17) (ls' := [some (vI a0)]) (st' := [vI 0]) (hp' := hp) (fun _ => rfl) ?_
    cases h
    exact Ex.ret rfl rfl rfl
  · rw [if_neg hc] at h
    rw [brI_lt_n hc]
    show Ex (d + 0) kX9_isDigit 6 [some (vI a0)] [] hp _
    refine Ex.go 2 (pc' := 9) (ls' := [some (vI a0)]) (st' := [vI 57, vI a0]) (hp' := hp) (fun _ => rfl) ?_
    refine Ex.icmp rfl ?_
    by_cases hc : 57 < a0
    · rw [if_pos hc] at h
      rw [brI_gt_p hc]
      show Ex (d + 0) kX9_isDigit 16 [some (vI a0)] [] hp _
      refine Ex.go 1 (pc' := 17) (ls' := [some (vI a0)]) (st' := [vI 0]) (hp' := hp) (fun _ => rfl) ?_
      cases h
      exact Ex.ret rfl rfl rfl
    · rw [if_neg hc] at h
      rw [brI_gt_n hc]
      show Ex (d + 0) kX9_isDigit 12 [some (vI a0)] [] hp _
      refine Ex.go 2 (pc' := 17) (ls' := [some (vI a0)]) (st' := [vI 1]) (hp' := hp) (fun _ => rfl) ?_
      cases h
      exact Ex.ret rfl rfl rfl
def fX3_typeText_105 (m : Nat) (wr1 : Nat) (mr1 : Nat) (x2 : Int32) (x3 : Int32) (x7 : Int32) (k2 : Nat → Nat → Int32 → Int32 → HP → Option (Int32 × HP)) (hp : HP) : Option (Int32 × HP) := if x7 = 0 then (k2 wr1 mr1 x2 (x3 + 1) hp) else (some (x3, (up (up hp (3, 0, m) 7 x7) (3, 0, m) 8 x3)))
theorem exX3_typeText_105 {d : Nat} {m : Nat} {wr1 : Nat} {mr1 : Nat} {x2 : Int32} {x3 : Int32} {x7 : Int32} {j4 : Option VL} {j5 : Option VL} {j6 : Option VL} {hp : HP} {v : (Int32 × HP)} {k2 : Nat → Nat → Int32 → Int32 → HP → Option (Int32 × HP)} (hk2 : ∀ (wr1 : Nat) (mr1 : Nat) (x2 : Int32) (x3 : Int32) (j4 : Option VL) (j5 : Option VL) (j6 : Option VL) (j7 : Option VL) (hp : HP) (v : (Int32 × HP)), k2 wr1 mr1 x2 x3 hp = some v → Ex (d + 5) kX3_typeText 2 [some (vR (3, 0, m)), some (vR (7, wr1, mr1)), some (vI x2), some (vI x3), j4, j5, j6, j7] [] hp (rsI v.1 v.2)) (h : fX3_typeText_105 m wr1 mr1 x2 x3 x7 k2 hp = some v) : Ex (d + 5) kX3_typeText 105 [some (vR (3, 0, m)), some (vR (7, wr1, mr1)), some (vI x2), some (vI x3), j4, j5, j6, some (vI x7)] [] hp (rsI v.1 v.2) := by
  replace h : (if x7 = 0 then (k2 wr1 mr1 x2 (x3 + 1) hp) else (some (x3, (up (up hp (3, 0, m) 7 x7) (3, 0, m) 8 x3)))) = some v := h
  refine Ex.go 1 (pc' := 107) (ls' := [some (vR (3, 0, m)), some (vR (7, wr1, mr1)), some (vI x2), some (vI x3), j4, j5, j6, some (vI x7)]) (st' := [vI x7]) (hp' := hp) (fun _ => rfl) ?_
  refine Ex.ifc rfl ?_
  by_cases hc : x7 = 0
  · rw [if_pos hc] at h
    rw [brI_eq_p hc]
    show Ex (d + 5) kX3_typeText 123 [some (vR (3, 0, m)), some (vR (7, wr1, mr1)), some (vI x2), some (vI x3), j4, j5, j6, some (vI x7)] [] hp _
    refine Ex.go 2 (pc' := 2) (ls' := [some (vR (3, 0, m)), some (vR (7, wr1, mr1)), some (vI x2), some (vI (x3 + 1)), j4, j5, j6, some (vI x7)]) (st' := []) (hp' := hp) (fun _ => rfl) ?_
    exact hk2 _ _ _ _ _ _ _ _ _ _ h
  · rw [if_neg hc] at h
    rw [brI_eq_n hc]
    show Ex (d + 5) kX3_typeText 110 [some (vR (3, 0, m)), some (vR (7, wr1, mr1)), some (vI x2), some (vI x3), j4, j5, j6, some (vI x7)] [] hp _
    refine Ex.go 7 (pc' := 122) (ls' := [some (vR (3, 0, m)), some (vR (7, wr1, mr1)), some (vI x2), some (vI x3), j4, j5, j6, some (vI x7)]) (st' := [vI x3]) (hp' := (up (up hp (3, 0, m) 7 x7) (3, 0, m) 8 x3)) (fun _ => rfl) ?_
    cases h
    exact Ex.ret rfl rfl rfl
def fX3_typeText_2 (n : Nat) (m : Nat) (wr1 : Nat) (mr1 : Nat) (x2 : Int32) (x3 : Int32) (hp : HP) : Option (Int32 × HP) := match n with
  | 0 => none
  | n + 1 => if x3 < x2 then ((fX7_at wr1 mr1 x3 hp).bind fun v1 => (fX0_withLetter m v1 hp).bind fun v2 => (fX9_keyOf v1 hp).bind fun v3 => if v2 = m1 then (if v3 = m1 then ((fX9_isDigit v1 hp).bind fun v4 => if v4 = 0 then (fX3_typeText_105 m wr1 mr1 x2 x3 3 (fun wr1 mr1 x2 x3 hq => fX3_typeText_2 n m wr1 mr1 x2 x3 hq) hp) else (fX3_typeText_105 m wr1 mr1 x2 x3 0 (fun wr1 mr1 x2 x3 hq => fX3_typeText_2 n m wr1 mr1 x2 x3 hq) (up hp (3, 0, m) 6 ((hp (3, 0, m) 6) + (10 * (v1 - 48)))))) else ((fX3_plainKey m v3 hp).bind fun q6 => fX3_typeText_105 m wr1 mr1 x2 x3 q6.1 (fun wr1 mr1 x2 x3 hq => fX3_typeText_2 n m wr1 mr1 x2 x3 hq) q6.2)) else ((fX9_isCapital v1 hp).bind fun v7 => (fX3_letterKey m v2 v7 hp).bind fun q9 => fX3_typeText_105 m wr1 mr1 x2 x3 q9.1 (fun wr1 mr1 x2 x3 hq => fX3_typeText_2 n m wr1 mr1 x2 x3 hq) q9.2)) else (some (x2, (up (up hp (3, 0, m) 7 0) (3, 0, m) 8 m1)))
theorem exX3_typeText_2 {d : Nat} {m : Nat} : ∀ (n : Nat) (wr1 : Nat) (mr1 : Nat) (x2 : Int32) (x3 : Int32) (j4 : Option VL) (j5 : Option VL) (j6 : Option VL) (j7 : Option VL) (hp : HP) (v : (Int32 × HP)), fX3_typeText_2 n m wr1 mr1 x2 x3 hp = some v → Ex (d + 5) kX3_typeText 2 [some (vR (3, 0, m)), some (vR (7, wr1, mr1)), some (vI x2), some (vI x3), j4, j5, j6, j7] [] hp (rsI v.1 v.2) := by
  intro n
  induction n with
  | zero =>
    intro wr1 mr1 x2 x3 j4 j5 j6 j7 hp v h
    cases h
  | succ n ih =>
    intro wr1 mr1 x2 x3 j4 j5 j6 j7 hp v h
    replace h : (if x3 < x2 then ((fX7_at wr1 mr1 x3 hp).bind fun v1 => (fX0_withLetter m v1 hp).bind fun v2 => (fX9_keyOf v1 hp).bind fun v3 => if v2 = m1 then (if v3 = m1 then ((fX9_isDigit v1 hp).bind fun v4 => if v4 = 0 then (fX3_typeText_105 m wr1 mr1 x2 x3 3 (fun wr1 mr1 x2 x3 hq => fX3_typeText_2 n m wr1 mr1 x2 x3 hq) hp) else (fX3_typeText_105 m wr1 mr1 x2 x3 0 (fun wr1 mr1 x2 x3 hq => fX3_typeText_2 n m wr1 mr1 x2 x3 hq) (up hp (3, 0, m) 6 ((hp (3, 0, m) 6) + (10 * (v1 - 48)))))) else ((fX3_plainKey m v3 hp).bind fun q6 => fX3_typeText_105 m wr1 mr1 x2 x3 q6.1 (fun wr1 mr1 x2 x3 hq => fX3_typeText_2 n m wr1 mr1 x2 x3 hq) q6.2)) else ((fX9_isCapital v1 hp).bind fun v7 => (fX3_letterKey m v2 v7 hp).bind fun q9 => fX3_typeText_105 m wr1 mr1 x2 x3 q9.1 (fun wr1 mr1 x2 x3 hq => fX3_typeText_2 n m wr1 mr1 x2 x3 hq) q9.2)) else (some (x2, (up (up hp (3, 0, m) 7 0) (3, 0, m) 8 m1)))) = some v := h
    refine Ex.go 2 (pc' := 4) (ls' := [some (vR (3, 0, m)), some (vR (7, wr1, mr1)), some (vI x2), some (vI x3), j4, j5, j6, j7]) (st' := [vI x2, vI x3]) (hp' := hp) (fun _ => rfl) ?_
    refine Ex.icmp rfl ?_
    by_cases hc : x3 < x2
    · rw [if_pos hc] at h
      rw [brI_ge_p hc]
      show Ex (d + 5) kX3_typeText 7 [some (vR (3, 0, m)), some (vR (7, wr1, mr1)), some (vI x2), some (vI x3), j4, j5, j6, j7] [] hp _
      refine Ex.go 2 (pc' := 9) (ls' := [some (vR (3, 0, m)), some (vR (7, wr1, mr1)), some (vI x2), some (vI x3), j4, j5, j6, j7]) (st' := [vI x3, vR (7, wr1, mr1)]) (hp' := hp) (fun _ => rfl) ?_
      obtain ⟨v1, hv, h⟩ := Option.bind_eq_some_iff.mp h
      refine Ex.call (args := [vR (7, wr1, mr1), vI x3]) (rest := []) rfl rfl rfl (exX7_at (d := d + 4) hv) ?_
      show Ex (d + 5) kX3_typeText 12 [some (vR (3, 0, m)), some (vR (7, wr1, mr1)), some (vI x2), some (vI x3), j4, j5, j6, j7] [vI v1] hp _
      refine Ex.go 4 (pc' := 20) (ls' := [some (vR (3, 0, m)), some (vR (7, wr1, mr1)), some (vI x2), some (vI x3), some (vI v1), j5, j6, j7]) (st' := [vI v1, vR (0, 0, m)]) (hp' := hp) (fun _ => rfl) ?_
      obtain ⟨v2, hv, h⟩ := Option.bind_eq_some_iff.mp h
      refine Ex.call (args := [vR (0, 0, m), vI v1]) (rest := []) rfl rfl rfl (exX0_withLetter (d := d + 3) hv) ?_
      show Ex (d + 5) kX3_typeText 23 [some (vR (3, 0, m)), some (vR (7, wr1, mr1)), some (vI x2), some (vI x3), some (vI v1), j5, j6, j7] [vI v2] hp _
      refine Ex.go 2 (pc' := 27) (ls' := [some (vR (3, 0, m)), some (vR (7, wr1, mr1)), some (vI x2), some (vI x3), some (vI v1), some (vI v2), j6, j7]) (st' := [vI v1]) (hp' := hp) (fun _ => rfl) ?_
      obtain ⟨v3, hv, h⟩ := Option.bind_eq_some_iff.mp h
      refine Ex.call (args := [vI v1]) (rest := []) rfl rfl rfl (exX9_keyOf (d := d + 4) hv) ?_
      show Ex (d + 5) kX3_typeText 30 [some (vR (3, 0, m)), some (vR (7, wr1, mr1)), some (vI x2), some (vI x3), some (vI v1), some (vI v2), j6, j7] [vI v3] hp _
      refine Ex.go 5 (pc' := 38) (ls' := [some (vR (3, 0, m)), some (vR (7, wr1, mr1)), some (vI x2), some (vI x3), some (vI v1), some (vI v2), some (vI v3), some (vI 0)]) (st' := [vI m1, vI v2]) (hp' := hp) (fun _ => rfl) ?_
      refine Ex.icmp rfl ?_
      by_cases hc : v2 = m1
      · rw [if_pos hc] at h
        rw [brI_eq_p hc]
        show Ex (d + 5) kX3_typeText 57 [some (vR (3, 0, m)), some (vR (7, wr1, mr1)), some (vI x2), some (vI x3), some (vI v1), some (vI v2), some (vI v3), some (vI 0)] [] hp _
        refine Ex.go 2 (pc' := 60) (ls' := [some (vR (3, 0, m)), some (vR (7, wr1, mr1)), some (vI x2), some (vI x3), some (vI v1), some (vI v2), some (vI v3), some (vI 0)]) (st' := [vI m1, vI v3]) (hp' := hp) (fun _ => rfl) ?_
        refine Ex.icmp rfl ?_
        by_cases hc : v3 = m1
        · rw [if_pos hc] at h
          rw [brI_eq_p hc]
          show Ex (d + 5) kX3_typeText 74 [some (vR (3, 0, m)), some (vR (7, wr1, mr1)), some (vI x2), some (vI x3), some (vI v1), some (vI v2), some (vI v3), some (vI 0)] [] hp _
          refine Ex.go 1 (pc' := 76) (ls' := [some (vR (3, 0, m)), some (vR (7, wr1, mr1)), some (vI x2), some (vI x3), some (vI v1), some (vI v2), some (vI v3), some (vI 0)]) (st' := [vI v1]) (hp' := hp) (fun _ => rfl) ?_
          obtain ⟨v4, hv, h⟩ := Option.bind_eq_some_iff.mp h
          refine Ex.call (args := [vI v1]) (rest := []) rfl rfl rfl (exX9_isDigit (d := d + 4) hv) ?_
          show Ex (d + 5) kX3_typeText 79 [some (vR (3, 0, m)), some (vR (7, wr1, mr1)), some (vI x2), some (vI x3), some (vI v1), some (vI v2), some (vI v3), some (vI 0)] [vI v4] hp _
          refine Ex.ifc rfl ?_
          by_cases hc : v4 = 0
          · rw [if_pos hc] at h
            rw [brI_eq_p hc]
            show Ex (d + 5) kX3_typeText 102 [some (vR (3, 0, m)), some (vR (7, wr1, mr1)), some (vI x2), some (vI x3), some (vI v1), some (vI v2), some (vI v3), some (vI 0)] [] hp _
            refine Ex.go 2 (pc' := 105) (ls' := [some (vR (3, 0, m)), some (vR (7, wr1, mr1)), some (vI x2), some (vI x3), some (vI v1), some (vI v2), some (vI v3), some (vI 3)]) (st' := []) (hp' := hp) (fun _ => rfl) ?_
            exact exX3_typeText_105 (fun q0 q1 q2 q3 q4 q5 q6 q7 q8 q9 hv => ih q0 q1 q2 q3 q4 q5 q6 q7 q8 q9 hv) h
          · rw [if_neg hc] at h
            rw [brI_eq_n hc]
            show Ex (d + 5) kX3_typeText 82 [some (vR (3, 0, m)), some (vR (7, wr1, mr1)), some (vI x2), some (vI x3), some (vI v1), some (vI v2), some (vI v3), some (vI 0)] [] hp _
            refine Ex.go 11 (pc' := 105) (ls' := [some (vR (3, 0, m)), some (vR (7, wr1, mr1)), some (vI x2), some (vI x3), some (vI v1), some (vI v2), some (vI v3), some (vI 0)]) (st' := []) (hp' := (up hp (3, 0, m) 6 ((hp (3, 0, m) 6) + (10 * (v1 - 48))))) (fun _ => rfl) ?_
            exact exX3_typeText_105 (fun q0 q1 q2 q3 q4 q5 q6 q7 q8 q9 hv => ih q0 q1 q2 q3 q4 q5 q6 q7 q8 q9 hv) h
        · rw [if_neg hc] at h
          rw [brI_eq_n hc]
          show Ex (d + 5) kX3_typeText 63 [some (vR (3, 0, m)), some (vR (7, wr1, mr1)), some (vI x2), some (vI x3), some (vI v1), some (vI v2), some (vI v3), some (vI 0)] [] hp _
          refine Ex.go 2 (pc' := 66) (ls' := [some (vR (3, 0, m)), some (vR (7, wr1, mr1)), some (vI x2), some (vI x3), some (vI v1), some (vI v2), some (vI v3), some (vI 0)]) (st' := [vI v3, vR (3, 0, m)]) (hp' := hp) (fun _ => rfl) ?_
          obtain ⟨q6, hv, h⟩ := Option.bind_eq_some_iff.mp h
          refine Ex.call (args := [vR (3, 0, m), vI v3]) (rest := []) rfl rfl rfl (exX3_plainKey (d := d + 0) hv) ?_
          show Ex (d + 5) kX3_typeText 69 [some (vR (3, 0, m)), some (vR (7, wr1, mr1)), some (vI x2), some (vI x3), some (vI v1), some (vI v2), some (vI v3), some (vI 0)] [vI q6.1] q6.2 _
          refine Ex.go 2 (pc' := 105) (ls' := [some (vR (3, 0, m)), some (vR (7, wr1, mr1)), some (vI x2), some (vI x3), some (vI v1), some (vI v2), some (vI v3), some (vI q6.1)]) (st' := []) (hp' := q6.2) (fun _ => rfl) ?_
          exact exX3_typeText_105 (fun q0 q1 q2 q3 q4 q5 q6 q7 q8 q9 hv => ih q0 q1 q2 q3 q4 q5 q6 q7 q8 q9 hv) h
      · rw [if_neg hc] at h
        rw [brI_eq_n hc]
        show Ex (d + 5) kX3_typeText 41 [some (vR (3, 0, m)), some (vR (7, wr1, mr1)), some (vI x2), some (vI x3), some (vI v1), some (vI v2), some (vI v3), some (vI 0)] [] hp _
        refine Ex.go 3 (pc' := 46) (ls' := [some (vR (3, 0, m)), some (vR (7, wr1, mr1)), some (vI x2), some (vI x3), some (vI v1), some (vI v2), some (vI v3), some (vI 0)]) (st' := [vI v1, vI v2, vR (3, 0, m)]) (hp' := hp) (fun _ => rfl) ?_
        obtain ⟨v7, hv, h⟩ := Option.bind_eq_some_iff.mp h
        refine Ex.call (args := [vI v1]) (rest := [vI v2, vR (3, 0, m)]) rfl rfl rfl (exX9_isCapital (d := d + 4) hv) ?_
        show Ex (d + 5) kX3_typeText 49 [some (vR (3, 0, m)), some (vR (7, wr1, mr1)), some (vI x2), some (vI x3), some (vI v1), some (vI v2), some (vI v3), some (vI 0)] [vI v7, vI v2, vR (3, 0, m)] hp _
        obtain ⟨q9, hv, h⟩ := Option.bind_eq_some_iff.mp h
        refine Ex.call (args := [vR (3, 0, m), vI v2, vI v7]) (rest := []) rfl rfl rfl (exX3_letterKey (d := d + 0) hv) ?_
        show Ex (d + 5) kX3_typeText 52 [some (vR (3, 0, m)), some (vR (7, wr1, mr1)), some (vI x2), some (vI x3), some (vI v1), some (vI v2), some (vI v3), some (vI 0)] [vI q9.1] q9.2 _
        refine Ex.go 2 (pc' := 105) (ls' := [some (vR (3, 0, m)), some (vR (7, wr1, mr1)), some (vI x2), some (vI x3), some (vI v1), some (vI v2), some (vI v3), some (vI q9.1)]) (st' := []) (hp' := q9.2) (fun _ => rfl) ?_
        exact exX3_typeText_105 (fun q0 q1 q2 q3 q4 q5 q6 q7 q8 q9 hv => ih q0 q1 q2 q3 q4 q5 q6 q7 q8 q9 hv) h
    · rw [if_neg hc] at h
      rw [brI_ge_n hc]
      show Ex (d + 5) kX3_typeText 129 [some (vR (3, 0, m)), some (vR (7, wr1, mr1)), some (vI x2), some (vI x3), j4, j5, j6, j7] [] hp _
      refine Ex.go 7 (pc' := 140) (ls' := [some (vR (3, 0, m)), some (vR (7, wr1, mr1)), some (vI x2), some (vI x3), j4, j5, j6, j7]) (st' := [vI x2]) (hp' := (up (up hp (3, 0, m) 7 0) (3, 0, m) 8 m1)) (fun _ => rfl) ?_
      cases h
      exact Ex.ret rfl rfl rfl
def fX3_typeText (m : Nat) (wr0 : Nat) (mr0 : Nat) (a1 : Int32) (hp : HP) : Option (Int32 × HP) := fX3_typeText_2 FU m wr0 mr0 a1 0 hp
theorem exX3_typeText {d : Nat} {m : Nat} {wr0 : Nat} {mr0 : Nat} {a1 : Int32} {hp : HP} {v : (Int32 × HP)} (h : fX3_typeText m wr0 mr0 a1 hp = some v) : Calls (d + 5) 50 [vR (3, 0, m), vR (7, wr0, mr0), vI a1] hp (rsI v.1 v.2) := by
  replace h : (fX3_typeText_2 FU m wr0 mr0 a1 0 hp) = some v := h
  show Ex (d + 5) kX3_typeText 0 [some (vR (3, 0, m)), some (vR (7, wr0, mr0)), some (vI a1), none, none, none, none, none] [] hp _
  refine Ex.go 2 (pc' := 2) (ls' := [some (vR (3, 0, m)), some (vR (7, wr0, mr0)), some (vI a1), some (vI 0), none, none, none, none]) (st' := []) (hp' := hp) (fun _ => rfl) ?_
  exact exX3_typeText_2 FU _ _ _ _ _ _ _ _ _ _ h
def fX4_places (m : Nat) (hp : HP) : Option Int32 := (fX7_at 0 m 1 hp).bind fun v1 => (fX7_at 0 m 0 hp).bind fun v2 => some (v1 * v2)
theorem exX4_places {d : Nat} {m : Nat} {hp : HP} {v : Int32} (h : fX4_places m hp = some v) : Calls (d + 1) 56 [vR (4, 0, m)] hp (rsI v hp) := by
  replace h : ((fX7_at 0 m 1 hp).bind fun v1 => (fX7_at 0 m 0 hp).bind fun v2 => some (v1 * v2)) = some v := h
  show Ex (d + 1) kX4_places 0 [some (vR (4, 0, m))] [] hp _
  refine Ex.go 3 (pc' := 5) (ls' := [some (vR (4, 0, m))]) (st' := [vI 1, vR (7, 0, m)]) (hp' := hp) (fun _ => rfl) ?_
  obtain ⟨v1, hv, h⟩ := Option.bind_eq_some_iff.mp h
  refine Ex.call (args := [vR (7, 0, m), vI 1]) (rest := []) rfl rfl rfl (exX7_at (d := d + 0) hv) ?_
  show Ex (d + 1) kX4_places 8 [some (vR (4, 0, m))] [vI v1] hp _
  refine Ex.go 3 (pc' := 13) (ls' := [some (vR (4, 0, m))]) (st' := [vI 0, vR (7, 0, m), vI v1]) (hp' := hp) (fun _ => rfl) ?_
  obtain ⟨v2, hv, h⟩ := Option.bind_eq_some_iff.mp h
  refine Ex.call (args := [vR (7, 0, m), vI 0]) (rest := [vI v1]) rfl rfl rfl (exX7_at (d := d + 0) hv) ?_
  show Ex (d + 1) kX4_places 16 [some (vR (4, 0, m))] [vI v2, vI v1] hp _
  refine Ex.go 1 (pc' := 17) (ls' := [some (vR (4, 0, m))]) (st' := [vI (v1 * v2)]) (hp' := hp) (fun _ => rfl) ?_
  cases h
  exact Ex.ret rfl rfl rfl
def fX4_endOf_11 (n : Nat) (m : Nat) (x1 : Int32) (x2 : Int32) (hp : HP) : Option Int32 := match n with
  | 0 => none
  | n + 1 => if x2 < 0 then (some 0) else ((fX4_placeOf m x1 x2 hp).bind fun v1 => (fX4_isEmpty m v1 hp).bind fun v2 => if v2 = 0 then (some (x2 + 1)) else (fX4_endOf_11 n m x1 (x2 + m1) hp))
theorem exX4_endOf_11 {d : Nat} {m : Nat} : ∀ (n : Nat) (x1 : Int32) (x2 : Int32) (hp : HP) (v : Int32), fX4_endOf_11 n m x1 x2 hp = some v → Ex (d + 2) kX4_endOf 11 [some (vR (4, 0, m)), some (vI x1), some (vI x2)] [] hp (rsI v hp) := by
  intro n
  induction n with
  | zero =>
    intro x1 x2 hp v h
    cases h
  | succ n ih =>
    intro x1 x2 hp v h
    replace h : (if x2 < 0 then (some 0) else ((fX4_placeOf m x1 x2 hp).bind fun v1 => (fX4_isEmpty m v1 hp).bind fun v2 => if v2 = 0 then (some (x2 + 1)) else (fX4_endOf_11 n m x1 (x2 + m1) hp))) = some v := h
    refine Ex.go 1 (pc' := 12) (ls' := [some (vR (4, 0, m)), some (vI x1), some (vI x2)]) (st' := [vI x2]) (hp' := hp) (fun _ => rfl) ?_
    refine Ex.ifc rfl ?_
    by_cases hc : x2 < 0
    · rw [if_pos hc] at h
      rw [brI_lt_p hc]
      show Ex (d + 2) kX4_endOf 38 [some (vR (4, 0, m)), some (vI x1), some (vI x2)] [] hp _
      refine Ex.go 1 (pc' := 39) (ls' := [some (vR (4, 0, m)), some (vI x1), some (vI x2)]) (st' := [vI 0]) (hp' := hp) (fun _ => rfl) ?_
      cases h
      exact Ex.ret rfl rfl rfl
    · rw [if_neg hc] at h
      rw [brI_lt_n hc]
      show Ex (d + 2) kX4_endOf 15 [some (vR (4, 0, m)), some (vI x1), some (vI x2)] [] hp _
      refine Ex.go 4 (pc' := 19) (ls' := [some (vR (4, 0, m)), some (vI x1), some (vI x2)]) (st' := [vI x2, vI x1, vR (4, 0, m), vR (4, 0, m)]) (hp' := hp) (fun _ => rfl) ?_
      obtain ⟨v1, hv, h⟩ := Option.bind_eq_some_iff.mp h
      refine Ex.call (args := [vR (4, 0, m), vI x1, vI x2]) (rest := [vR (4, 0, m)]) rfl rfl rfl (exX4_placeOf (d := d + 0) hv) ?_
      show Ex (d + 2) kX4_endOf 22 [some (vR (4, 0, m)), some (vI x1), some (vI x2)] [vI v1, vR (4, 0, m)] hp _
      obtain ⟨v2, hv, h⟩ := Option.bind_eq_some_iff.mp h
      refine Ex.call (args := [vR (4, 0, m), vI v1]) (rest := []) rfl rfl rfl (exX4_isEmpty (d := d + 0) hv) ?_
      show Ex (d + 2) kX4_endOf 25 [some (vR (4, 0, m)), some (vI x1), some (vI x2)] [vI v2] hp _
      refine Ex.ifc rfl ?_
      by_cases hc : v2 = 0
      · rw [if_pos hc] at h
        rw [brI_ne_p hc]
        show Ex (d + 2) kX4_endOf 28 [some (vR (4, 0, m)), some (vI x1), some (vI x2)] [] hp _
        refine Ex.go 3 (pc' := 31) (ls' := [some (vR (4, 0, m)), some (vI x1), some (vI x2)]) (st' := [vI (x2 + 1)]) (hp' := hp) (fun _ => rfl) ?_
        cases h
        exact Ex.ret rfl rfl rfl
      · rw [if_neg hc] at h
        rw [brI_ne_n hc]
        show Ex (d + 2) kX4_endOf 32 [some (vR (4, 0, m)), some (vI x1), some (vI x2)] [] hp _
        refine Ex.iinc rfl rfl ?_
        show Ex (d + 2) kX4_endOf 35 [some (vR (4, 0, m)), some (vI x1), some (vI (x2 + m1))] [] hp _
        refine Ex.go 1 (pc' := 11) (ls' := [some (vR (4, 0, m)), some (vI x1), some (vI (x2 + m1))]) (st' := []) (hp' := hp) (fun _ => rfl) ?_
        exact ih _ _ _ _ h
def fX4_endOf (m : Nat) (a0 : Int32) (hp : HP) : Option Int32 := (fX7_at 0 m 0 hp).bind fun v3 => fX4_endOf_11 FU m a0 (v3 - 1) hp
theorem exX4_endOf {d : Nat} {m : Nat} {a0 : Int32} {hp : HP} {v : Int32} (h : fX4_endOf m a0 hp = some v) : Calls (d + 2) 57 [vR (4, 0, m), vI a0] hp (rsI v hp) := by
  replace h : ((fX7_at 0 m 0 hp).bind fun v3 => fX4_endOf_11 FU m a0 (v3 - 1) hp) = some v := h
  show Ex (d + 2) kX4_endOf 0 [some (vR (4, 0, m)), some (vI a0), none] [] hp _
  refine Ex.go 3 (pc' := 5) (ls' := [some (vR (4, 0, m)), some (vI a0), none]) (st' := [vI 0, vR (7, 0, m)]) (hp' := hp) (fun _ => rfl) ?_
  obtain ⟨v3, hv, h⟩ := Option.bind_eq_some_iff.mp h
  refine Ex.call (args := [vR (7, 0, m), vI 0]) (rest := []) rfl rfl rfl (exX7_at (d := d + 1) hv) ?_
  show Ex (d + 2) kX4_endOf 8 [some (vR (4, 0, m)), some (vI a0), none] [vI v3] hp _
  refine Ex.go 3 (pc' := 11) (ls' := [some (vR (4, 0, m)), some (vI a0), some (vI (v3 - 1))]) (st' := []) (hp' := hp) (fun _ => rfl) ?_
  exact exX4_endOf_11 FU _ _ _ _ h
def fX4_wordsIn_53 (m : Nat) (x1 : Int32) (x2 : Int32) (x4 : Int32) (x5 : Int32) (k7 : Int32 → Int32 → Int32 → Int32 → HP → Option Int32) (hp : HP) : Option Int32 := k7 x1 x2 x5 (x4 + 1) hp
theorem exX4_wordsIn_53 {d : Nat} {m : Nat} {x1 : Int32} {x2 : Int32} {x4 : Int32} {x5 : Int32} {j3 : Option VL} {hp : HP} {v : Int32} {k7 : Int32 → Int32 → Int32 → Int32 → HP → Option Int32} (hk7 : ∀ (x1 : Int32) (x2 : Int32) (x3 : Int32) (x4 : Int32) (j5 : Option VL) (hp : HP) (v : Int32), k7 x1 x2 x3 x4 hp = some v → Ex (d + 2) kX4_wordsIn 7 [some (vR (4, 0, m)), some (vI x1), some (vI x2), some (vI x3), some (vI x4), j5] [] hp (rsI v hp)) (h : fX4_wordsIn_53 m x1 x2 x4 x5 k7 hp = some v) : Ex (d + 2) kX4_wordsIn 53 [some (vR (4, 0, m)), some (vI x1), some (vI x2), j3, some (vI x4), some (vI x5)] [] hp (rsI v hp) := by
  replace h : (k7 x1 x2 x5 (x4 + 1) hp) = some v := h
  refine Ex.go 4 (pc' := 7) (ls' := [some (vR (4, 0, m)), some (vI x1), some (vI x2), some (vI x5), some (vI (x4 + 1)), some (vI x5)]) (st' := []) (hp' := hp) (fun _ => rfl) ?_
  exact hk7 _ _ _ _ _ _ _ h
def fX4_wordsIn_39 (m : Nat) (x1 : Int32) (x2 : Int32) (x3 : Int32) (x4 : Int32) (y0 : Int32) (k7 : Int32 → Int32 → Int32 → Int32 → HP → Option Int32) (hp : HP) : Option Int32 := if y0 = 0 then (fX4_wordsIn_53 m x1 x2 x4 y0 k7 hp) else (if x3 = 0 then (fX4_wordsIn_53 m x1 (x2 + 1) x4 y0 k7 hp) else (fX4_wordsIn_53 m x1 x2 x4 y0 k7 hp))
theorem exX4_wordsIn_39 {d : Nat} {m : Nat} {x1 : Int32} {x2 : Int32} {x3 : Int32} {x4 : Int32} {y0 : Int32} {j5 : Option VL} {hp : HP} {v : Int32} {k7 : Int32 → Int32 → Int32 → Int32 → HP → Option Int32} (hk7 : ∀ (x1 : Int32) (x2 : Int32) (x3 : Int32) (x4 : Int32) (j5 : Option VL) (hp : HP) (v : Int32), k7 x1 x2 x3 x4 hp = some v → Ex (d + 2) kX4_wordsIn 7 [some (vR (4, 0, m)), some (vI x1), some (vI x2), some (vI x3), some (vI x4), j5] [] hp (rsI v hp)) (h : fX4_wordsIn_39 m x1 x2 x3 x4 y0 k7 hp = some v) : Ex (d + 2) kX4_wordsIn 39 [some (vR (4, 0, m)), some (vI x1), some (vI x2), some (vI x3), some (vI x4), j5] [vI y0] hp (rsI v hp) := by
  replace h : (if y0 = 0 then (fX4_wordsIn_53 m x1 x2 x4 y0 k7 hp) else (if x3 = 0 then (fX4_wordsIn_53 m x1 (x2 + 1) x4 y0 k7 hp) else (fX4_wordsIn_53 m x1 x2 x4 y0 k7 hp))) = some v := h
  refine Ex.go 2 (pc' := 43) (ls' := [some (vR (4, 0, m)), some (vI x1), some (vI x2), some (vI x3), some (vI x4), some (vI y0)]) (st' := [vI y0]) (hp' := hp) (fun _ => rfl) ?_
  refine Ex.ifc rfl ?_
  by_cases hc : y0 = 0
  · rw [if_pos hc] at h
    rw [brI_eq_p hc]
    show Ex (d + 2) kX4_wordsIn 53 [some (vR (4, 0, m)), some (vI x1), some (vI x2), some (vI x3), some (vI x4), some (vI y0)] [] hp _
    exact exX4_wordsIn_53 hk7 h
  · rw [if_neg hc] at h
    rw [brI_eq_n hc]
    show Ex (d + 2) kX4_wordsIn 46 [some (vR (4, 0, m)), some (vI x1), some (vI x2), some (vI x3), some (vI x4), some (vI y0)] [] hp _
    refine Ex.go 1 (pc' := 47) (ls' := [some (vR (4, 0, m)), some (vI x1), some (vI x2), some (vI x3), some (vI x4), some (vI y0)]) (st' := [vI x3]) (hp' := hp) (fun _ => rfl) ?_
    refine Ex.ifc rfl ?_
    by_cases hc : x3 = 0
    · rw [if_pos hc] at h
      rw [brI_ne_p hc]
      show Ex (d + 2) kX4_wordsIn 50 [some (vR (4, 0, m)), some (vI x1), some (vI x2), some (vI x3), some (vI x4), some (vI y0)] [] hp _
      refine Ex.go 1 (pc' := 53) (ls' := [some (vR (4, 0, m)), some (vI x1), some (vI (x2 + 1)), some (vI x3), some (vI x4), some (vI y0)]) (st' := []) (hp' := hp) (fun _ => rfl) ?_
      exact exX4_wordsIn_53 hk7 h
    · rw [if_neg hc] at h
      rw [brI_ne_n hc]
      show Ex (d + 2) kX4_wordsIn 53 [some (vR (4, 0, m)), some (vI x1), some (vI x2), some (vI x3), some (vI x4), some (vI y0)] [] hp _
      exact exX4_wordsIn_53 hk7 h
def fX4_wordsIn_7 (n : Nat) (m : Nat) (x1 : Int32) (x2 : Int32) (x3 : Int32) (x4 : Int32) (hp : HP) : Option Int32 := match n with
  | 0 => none
  | n + 1 => (fX7_at 0 m 0 hp).bind fun v1 => if x4 < v1 then ((fX4_placeOf m x1 x4 hp).bind fun v2 => (fX4_isEmpty m v2 hp).bind fun v3 => if v3 = 0 then (fX4_wordsIn_39 m x1 x2 x3 x4 1 (fun x1 x2 x3 x4 hq => fX4_wordsIn_7 n m x1 x2 x3 x4 hq) hp) else (fX4_wordsIn_39 m x1 x2 x3 x4 0 (fun x1 x2 x3 x4 hq => fX4_wordsIn_7 n m x1 x2 x3 x4 hq) hp)) else (some x2)
theorem exX4_wordsIn_7 {d : Nat} {m : Nat} : ∀ (n : Nat) (x1 : Int32) (x2 : Int32) (x3 : Int32) (x4 : Int32) (j5 : Option VL) (hp : HP) (v : Int32), fX4_wordsIn_7 n m x1 x2 x3 x4 hp = some v → Ex (d + 2) kX4_wordsIn 7 [some (vR (4, 0, m)), some (vI x1), some (vI x2), some (vI x3), some (vI x4), j5] [] hp (rsI v hp) := by
  intro n
  induction n with
  | zero =>
    intro x1 x2 x3 x4 j5 hp v h
    cases h
  | succ n ih =>
    intro x1 x2 x3 x4 j5 hp v h
    replace h : ((fX7_at 0 m 0 hp).bind fun v1 => if x4 < v1 then ((fX4_placeOf m x1 x4 hp).bind fun v2 => (fX4_isEmpty m v2 hp).bind fun v3 => if v3 = 0 then (fX4_wordsIn_39 m x1 x2 x3 x4 1 (fun x1 x2 x3 x4 hq => fX4_wordsIn_7 n m x1 x2 x3 x4 hq) hp) else (fX4_wordsIn_39 m x1 x2 x3 x4 0 (fun x1 x2 x3 x4 hq => fX4_wordsIn_7 n m x1 x2 x3 x4 hq) hp)) else (some x2)) = some v := h
    refine Ex.go 4 (pc' := 14) (ls' := [some (vR (4, 0, m)), some (vI x1), some (vI x2), some (vI x3), some (vI x4), j5]) (st' := [vI 0, vR (7, 0, m), vI x4]) (hp' := hp) (fun _ => rfl) ?_
    obtain ⟨v1, hv, h⟩ := Option.bind_eq_some_iff.mp h
    refine Ex.call (args := [vR (7, 0, m), vI 0]) (rest := [vI x4]) rfl rfl rfl (exX7_at (d := d + 1) hv) ?_
    show Ex (d + 2) kX4_wordsIn 17 [some (vR (4, 0, m)), some (vI x1), some (vI x2), some (vI x3), some (vI x4), j5] [vI v1, vI x4] hp _
    refine Ex.icmp rfl ?_
    by_cases hc : x4 < v1
    · rw [if_pos hc] at h
      rw [brI_ge_p hc]
      show Ex (d + 2) kX4_wordsIn 20 [some (vR (4, 0, m)), some (vI x1), some (vI x2), some (vI x3), some (vI x4), j5] [] hp _
      refine Ex.go 4 (pc' := 25) (ls' := [some (vR (4, 0, m)), some (vI x1), some (vI x2), some (vI x3), some (vI x4), j5]) (st' := [vI x4, vI x1, vR (4, 0, m), vR (4, 0, m)]) (hp' := hp) (fun _ => rfl) ?_
      obtain ⟨v2, hv, h⟩ := Option.bind_eq_some_iff.mp h
      refine Ex.call (args := [vR (4, 0, m), vI x1, vI x4]) (rest := [vR (4, 0, m)]) rfl rfl rfl (exX4_placeOf (d := d + 0) hv) ?_
      show Ex (d + 2) kX4_wordsIn 28 [some (vR (4, 0, m)), some (vI x1), some (vI x2), some (vI x3), some (vI x4), j5] [vI v2, vR (4, 0, m)] hp _
      obtain ⟨v3, hv, h⟩ := Option.bind_eq_some_iff.mp h
      refine Ex.call (args := [vR (4, 0, m), vI v2]) (rest := []) rfl rfl rfl (exX4_isEmpty (d := d + 0) hv) ?_
      show Ex (d + 2) kX4_wordsIn 31 [some (vR (4, 0, m)), some (vI x1), some (vI x2), some (vI x3), some (vI x4), j5] [vI v3] hp _
      refine Ex.ifc rfl ?_
      by_cases hc : v3 = 0
      · rw [if_pos hc] at h
        rw [brI_ne_p hc]
        show Ex (d + 2) kX4_wordsIn 34 [some (vR (4, 0, m)), some (vI x1), some (vI x2), some (vI x3), some (vI x4), j5] [] hp _
        refine Ex.go 2 (pc' := 39) (ls' := [some (vR (4, 0, m)), some (vI x1), some (vI x2), some (vI x3), some (vI x4), j5]) (st' := [vI 1]) (hp' := hp) (fun _ => rfl) ?_
        exact exX4_wordsIn_39 (fun q0 q1 q2 q3 q4 q5 q6 hv => ih q0 q1 q2 q3 q4 q5 q6 hv) h
      · rw [if_neg hc] at h
        rw [brI_ne_n hc]
        show Ex (d + 2) kX4_wordsIn 38 [some (vR (4, 0, m)), some (vI x1), some (vI x2), some (vI x3), some (vI x4), j5] [] hp _
        refine Ex.go 1 (pc' := 39) (ls' := [some (vR (4, 0, m)), some (vI x1), some (vI x2), some (vI x3), some (vI x4), j5]) (st' := [vI 0]) (hp' := hp) (fun _ => rfl) ?_
        exact exX4_wordsIn_39 (fun q0 q1 q2 q3 q4 q5 q6 hv => ih q0 q1 q2 q3 q4 q5 q6 hv) h
    · rw [if_neg hc] at h
      rw [brI_ge_n hc]
      show Ex (d + 2) kX4_wordsIn 62 [some (vR (4, 0, m)), some (vI x1), some (vI x2), some (vI x3), some (vI x4), j5] [] hp _
      refine Ex.go 1 (pc' := 63) (ls' := [some (vR (4, 0, m)), some (vI x1), some (vI x2), some (vI x3), some (vI x4), j5]) (st' := [vI x2]) (hp' := hp) (fun _ => rfl) ?_
      cases h
      exact Ex.ret rfl rfl rfl
def fX4_wordsIn (m : Nat) (a0 : Int32) (hp : HP) : Option Int32 := fX4_wordsIn_7 FU m a0 0 0 0 hp
theorem exX4_wordsIn {d : Nat} {m : Nat} {a0 : Int32} {hp : HP} {v : Int32} (h : fX4_wordsIn m a0 hp = some v) : Calls (d + 2) 58 [vR (4, 0, m), vI a0] hp (rsI v hp) := by
  replace h : (fX4_wordsIn_7 FU m a0 0 0 0 hp) = some v := h
  show Ex (d + 2) kX4_wordsIn 0 [some (vR (4, 0, m)), some (vI a0), none, none, none, none] [] hp _
  refine Ex.go 6 (pc' := 7) (ls' := [some (vR (4, 0, m)), some (vI a0), some (vI 0), some (vI 0), some (vI 0), none]) (st' := []) (hp' := hp) (fun _ => rfl) ?_
  exact exX4_wordsIn_7 FU _ _ _ _ _ _ _ h
def fX4_placesWith_27 (m : Nat) (x1 : Int32) (x2 : Int32) (x3 : Int32) (k4 : Int32 → Int32 → Int32 → HP → Option Int32) (hp : HP) : Option Int32 := k4 x1 x2 (x3 + 1) hp
theorem exX4_placesWith_27 {d : Nat} {m : Nat} {x1 : Int32} {x2 : Int32} {x3 : Int32} {hp : HP} {v : Int32} {k4 : Int32 → Int32 → Int32 → HP → Option Int32} (hk4 : ∀ (x1 : Int32) (x2 : Int32) (x3 : Int32) (hp : HP) (v : Int32), k4 x1 x2 x3 hp = some v → Ex (d + 2) kX4_placesWith 4 [some (vR (4, 0, m)), some (vI x1), some (vI x2), some (vI x3)] [] hp (rsI v hp)) (h : fX4_placesWith_27 m x1 x2 x3 k4 hp = some v) : Ex (d + 2) kX4_placesWith 27 [some (vR (4, 0, m)), some (vI x1), some (vI x2), some (vI x3)] [] hp (rsI v hp) := by
  replace h : (k4 x1 x2 (x3 + 1) hp) = some v := h
  refine Ex.go 2 (pc' := 4) (ls' := [some (vR (4, 0, m)), some (vI x1), some (vI x2), some (vI (x3 + 1))]) (st' := []) (hp' := hp) (fun _ => rfl) ?_
  exact hk4 _ _ _ _ _ h
def fX4_placesWith_4 (n : Nat) (m : Nat) (x1 : Int32) (x2 : Int32) (x3 : Int32) (hp : HP) : Option Int32 := match n with
  | 0 => none
  | n + 1 => (fX4_places m hp).bind fun v1 => if x3 < v1 then ((fX7_at 2 m x3 hp).bind fun v2 => if v2 = x1 then (fX4_placesWith_27 m x1 (x2 + 1) x3 (fun x1 x2 x3 hq => fX4_placesWith_4 n m x1 x2 x3 hq) hp) else (fX4_placesWith_27 m x1 x2 x3 (fun x1 x2 x3 hq => fX4_placesWith_4 n m x1 x2 x3 hq) hp)) else (some x2)
theorem exX4_placesWith_4 {d : Nat} {m : Nat} : ∀ (n : Nat) (x1 : Int32) (x2 : Int32) (x3 : Int32) (hp : HP) (v : Int32), fX4_placesWith_4 n m x1 x2 x3 hp = some v → Ex (d + 2) kX4_placesWith 4 [some (vR (4, 0, m)), some (vI x1), some (vI x2), some (vI x3)] [] hp (rsI v hp) := by
  intro n
  induction n with
  | zero =>
    intro x1 x2 x3 hp v h
    cases h
  | succ n ih =>
    intro x1 x2 x3 hp v h
    replace h : ((fX4_places m hp).bind fun v1 => if x3 < v1 then ((fX7_at 2 m x3 hp).bind fun v2 => if v2 = x1 then (fX4_placesWith_27 m x1 (x2 + 1) x3 (fun x1 x2 x3 hq => fX4_placesWith_4 n m x1 x2 x3 hq) hp) else (fX4_placesWith_27 m x1 x2 x3 (fun x1 x2 x3 hq => fX4_placesWith_4 n m x1 x2 x3 hq) hp)) else (some x2)) = some v := h
    refine Ex.go 2 (pc' := 6) (ls' := [some (vR (4, 0, m)), some (vI x1), some (vI x2), some (vI x3)]) (st' := [vR (4, 0, m), vI x3]) (hp' := hp) (fun _ => rfl) ?_
    obtain ⟨v1, hv, h⟩ := Option.bind_eq_some_iff.mp h
    refine Ex.call (args := [vR (4, 0, m)]) (rest := [vI x3]) rfl rfl rfl (exX4_places (d := d + 0) hv) ?_
    show Ex (d + 2) kX4_placesWith 9 [some (vR (4, 0, m)), some (vI x1), some (vI x2), some (vI x3)] [vI v1, vI x3] hp _
    refine Ex.icmp rfl ?_
    by_cases hc : x3 < v1
    · rw [if_pos hc] at h
      rw [brI_ge_p hc]
      show Ex (d + 2) kX4_placesWith 12 [some (vR (4, 0, m)), some (vI x1), some (vI x2), some (vI x3)] [] hp _
      refine Ex.go 3 (pc' := 17) (ls' := [some (vR (4, 0, m)), some (vI x1), some (vI x2), some (vI x3)]) (st' := [vI x3, vR (7, 2, m)]) (hp' := hp) (fun _ => rfl) ?_
      obtain ⟨v2, hv, h⟩ := Option.bind_eq_some_iff.mp h
      refine Ex.call (args := [vR (7, 2, m), vI x3]) (rest := []) rfl rfl rfl (exX7_at (d := d + 1) hv) ?_
      show Ex (d + 2) kX4_placesWith 20 [some (vR (4, 0, m)), some (vI x1), some (vI x2), some (vI x3)] [vI v2] hp _
      refine Ex.go 1 (pc' := 21) (ls' := [some (vR (4, 0, m)), some (vI x1), some (vI x2), some (vI x3)]) (st' := [vI x1, vI v2]) (hp' := hp) (fun _ => rfl) ?_
      refine Ex.icmp rfl ?_
      by_cases hc : v2 = x1
      · rw [if_pos hc] at h
        rw [brI_ne_p hc]
        show Ex (d + 2) kX4_placesWith 24 [some (vR (4, 0, m)), some (vI x1), some (vI x2), some (vI x3)] [] hp _
        refine Ex.go 1 (pc' := 27) (ls' := [some (vR (4, 0, m)), some (vI x1), some (vI (x2 + 1)), some (vI x3)]) (st' := []) (hp' := hp) (fun _ => rfl) ?_
        exact exX4_placesWith_27 (fun q0 q1 q2 q3 q4 hv => ih q0 q1 q2 q3 q4 hv) h
      · rw [if_neg hc] at h
        rw [brI_ne_n hc]
        show Ex (d + 2) kX4_placesWith 27 [some (vR (4, 0, m)), some (vI x1), some (vI x2), some (vI x3)] [] hp _
        exact exX4_placesWith_27 (fun q0 q1 q2 q3 q4 hv => ih q0 q1 q2 q3 q4 hv) h
    · rw [if_neg hc] at h
      rw [brI_ge_n hc]
      show Ex (d + 2) kX4_placesWith 33 [some (vR (4, 0, m)), some (vI x1), some (vI x2), some (vI x3)] [] hp _
      refine Ex.go 1 (pc' := 34) (ls' := [some (vR (4, 0, m)), some (vI x1), some (vI x2), some (vI x3)]) (st' := [vI x2]) (hp' := hp) (fun _ => rfl) ?_
      cases h
      exact Ex.ret rfl rfl rfl
def fX4_placesWith (m : Nat) (a0 : Int32) (hp : HP) : Option Int32 := fX4_placesWith_4 FU m a0 0 0 hp
theorem exX4_placesWith {d : Nat} {m : Nat} {a0 : Int32} {hp : HP} {v : Int32} (h : fX4_placesWith m a0 hp = some v) : Calls (d + 2) 59 [vR (4, 0, m), vI a0] hp (rsI v hp) := by
  replace h : (fX4_placesWith_4 FU m a0 0 0 hp) = some v := h
  show Ex (d + 2) kX4_placesWith 0 [some (vR (4, 0, m)), some (vI a0), none, none] [] hp _
  refine Ex.go 4 (pc' := 4) (ls' := [some (vR (4, 0, m)), some (vI a0), some (vI 0), some (vI 0)]) (st' := []) (hp' := hp) (fun _ => rfl) ?_
  exact exX4_placesWith_4 FU _ _ _ _ _ h
def fX4_filledPlaces (m : Nat) (hp : HP) : Option Int32 := (fX4_places m hp).bind fun v1 => (fX4_placesWith m 32 hp).bind fun v2 => some (v1 - v2)
theorem exX4_filledPlaces {d : Nat} {m : Nat} {hp : HP} {v : Int32} (h : fX4_filledPlaces m hp = some v) : Calls (d + 3) 60 [vR (4, 0, m)] hp (rsI v hp) := by
  replace h : ((fX4_places m hp).bind fun v1 => (fX4_placesWith m 32 hp).bind fun v2 => some (v1 - v2)) = some v := h
  show Ex (d + 3) kX4_filledPlaces 0 [some (vR (4, 0, m))] [] hp _
  refine Ex.go 1 (pc' := 1) (ls' := [some (vR (4, 0, m))]) (st' := [vR (4, 0, m)]) (hp' := hp) (fun _ => rfl) ?_
  obtain ⟨v1, hv, h⟩ := Option.bind_eq_some_iff.mp h
  refine Ex.call (args := [vR (4, 0, m)]) (rest := []) rfl rfl rfl (exX4_places (d := d + 1) hv) ?_
  show Ex (d + 3) kX4_filledPlaces 4 [some (vR (4, 0, m))] [vI v1] hp _
  refine Ex.go 2 (pc' := 7) (ls' := [some (vR (4, 0, m))]) (st' := [vI 32, vR (4, 0, m), vI v1]) (hp' := hp) (fun _ => rfl) ?_
  obtain ⟨v2, hv, h⟩ := Option.bind_eq_some_iff.mp h
  refine Ex.call (args := [vR (4, 0, m), vI 32]) (rest := [vI v1]) rfl rfl rfl (exX4_placesWith (d := d + 0) hv) ?_
  show Ex (d + 3) kX4_filledPlaces 10 [some (vR (4, 0, m))] [vI v2, vI v1] hp _
  refine Ex.go 1 (pc' := 11) (ls' := [some (vR (4, 0, m))]) (st' := [vI (v1 - v2)]) (hp' := hp) (fun _ => rfl) ?_
  cases h
  exact Ex.ret rfl rfl rfl
def fX4_allDarkness_4 (n : Nat) (m : Nat) (x1 : Int32) (x2 : Int32) (hp : HP) : Option Int32 := match n with
  | 0 => none
  | n + 1 => (fX4_places m hp).bind fun v1 => if x2 < v1 then ((fX7_at 3 m x2 hp).bind fun v2 => fX4_allDarkness_4 n m (x1 + v2) (x2 + 1) hp) else (some x1)
theorem exX4_allDarkness_4 {d : Nat} {m : Nat} : ∀ (n : Nat) (x1 : Int32) (x2 : Int32) (hp : HP) (v : Int32), fX4_allDarkness_4 n m x1 x2 hp = some v → Ex (d + 2) kX4_allDarkness 4 [some (vR (4, 0, m)), some (vI x1), some (vI x2)] [] hp (rsI v hp) := by
  intro n
  induction n with
  | zero =>
    intro x1 x2 hp v h
    cases h
  | succ n ih =>
    intro x1 x2 hp v h
    replace h : ((fX4_places m hp).bind fun v1 => if x2 < v1 then ((fX7_at 3 m x2 hp).bind fun v2 => fX4_allDarkness_4 n m (x1 + v2) (x2 + 1) hp) else (some x1)) = some v := h
    refine Ex.go 2 (pc' := 6) (ls' := [some (vR (4, 0, m)), some (vI x1), some (vI x2)]) (st' := [vR (4, 0, m), vI x2]) (hp' := hp) (fun _ => rfl) ?_
    obtain ⟨v1, hv, h⟩ := Option.bind_eq_some_iff.mp h
    refine Ex.call (args := [vR (4, 0, m)]) (rest := [vI x2]) rfl rfl rfl (exX4_places (d := d + 0) hv) ?_
    show Ex (d + 2) kX4_allDarkness 9 [some (vR (4, 0, m)), some (vI x1), some (vI x2)] [vI v1, vI x2] hp _
    refine Ex.icmp rfl ?_
    by_cases hc : x2 < v1
    · rw [if_pos hc] at h
      rw [brI_ge_p hc]
      show Ex (d + 2) kX4_allDarkness 12 [some (vR (4, 0, m)), some (vI x1), some (vI x2)] [] hp _
      refine Ex.go 4 (pc' := 18) (ls' := [some (vR (4, 0, m)), some (vI x1), some (vI x2)]) (st' := [vI x2, vR (7, 3, m), vI x1]) (hp' := hp) (fun _ => rfl) ?_
      obtain ⟨v2, hv, h⟩ := Option.bind_eq_some_iff.mp h
      refine Ex.call (args := [vR (7, 3, m), vI x2]) (rest := [vI x1]) rfl rfl rfl (exX7_at (d := d + 1) hv) ?_
      show Ex (d + 2) kX4_allDarkness 21 [some (vR (4, 0, m)), some (vI x1), some (vI x2)] [vI v2, vI x1] hp _
      refine Ex.go 4 (pc' := 4) (ls' := [some (vR (4, 0, m)), some (vI (x1 + v2)), some (vI (x2 + 1))]) (st' := []) (hp' := hp) (fun _ => rfl) ?_
      exact ih _ _ _ _ h
    · rw [if_neg hc] at h
      rw [brI_ge_n hc]
      show Ex (d + 2) kX4_allDarkness 29 [some (vR (4, 0, m)), some (vI x1), some (vI x2)] [] hp _
      refine Ex.go 1 (pc' := 30) (ls' := [some (vR (4, 0, m)), some (vI x1), some (vI x2)]) (st' := [vI x1]) (hp' := hp) (fun _ => rfl) ?_
      cases h
      exact Ex.ret rfl rfl rfl
def fX4_allDarkness (m : Nat) (hp : HP) : Option Int32 := fX4_allDarkness_4 FU m 0 0 hp
theorem exX4_allDarkness {d : Nat} {m : Nat} {hp : HP} {v : Int32} (h : fX4_allDarkness m hp = some v) : Calls (d + 2) 61 [vR (4, 0, m)] hp (rsI v hp) := by
  replace h : (fX4_allDarkness_4 FU m 0 0 hp) = some v := h
  show Ex (d + 2) kX4_allDarkness 0 [some (vR (4, 0, m)), none, none] [] hp _
  refine Ex.go 4 (pc' := 4) (ls' := [some (vR (4, 0, m)), some (vI 0), some (vI 0)]) (st' := []) (hp' := hp) (fun _ => rfl) ?_
  exact exX4_allDarkness_4 FU _ _ _ _ h
def fX4_palestPlace_46 (m : Nat) (x1 : Int32) (x2 : Int32) (k4 : Int32 → Int32 → HP → Option Int32) (hp : HP) : Option Int32 := k4 x1 (x2 + 1) hp
theorem exX4_palestPlace_46 {d : Nat} {m : Nat} {x1 : Int32} {x2 : Int32} {hp : HP} {v : Int32} {k4 : Int32 → Int32 → HP → Option Int32} (hk4 : ∀ (x1 : Int32) (x2 : Int32) (hp : HP) (v : Int32), k4 x1 x2 hp = some v → Ex (d + 2) kX4_palestPlace 4 [some (vR (4, 0, m)), some (vI x1), some (vI x2)] [] hp (rsI v hp)) (h : fX4_palestPlace_46 m x1 x2 k4 hp = some v) : Ex (d + 2) kX4_palestPlace 46 [some (vR (4, 0, m)), some (vI x1), some (vI x2)] [] hp (rsI v hp) := by
  replace h : (k4 x1 (x2 + 1) hp) = some v := h
  refine Ex.go 2 (pc' := 4) (ls' := [some (vR (4, 0, m)), some (vI x1), some (vI (x2 + 1))]) (st' := []) (hp' := hp) (fun _ => rfl) ?_
  exact hk4 _ _ _ _ h
def fX4_palestPlace_44 (m : Nat) (x2 : Int32) (k4 : Int32 → Int32 → HP → Option Int32) (hp : HP) : Option Int32 := fX4_palestPlace_46 m x2 x2 k4 hp
theorem exX4_palestPlace_44 {d : Nat} {m : Nat} {x2 : Int32} {j1 : Option VL} {hp : HP} {v : Int32} {k4 : Int32 → Int32 → HP → Option Int32} (hk4 : ∀ (x1 : Int32) (x2 : Int32) (hp : HP) (v : Int32), k4 x1 x2 hp = some v → Ex (d + 2) kX4_palestPlace 4 [some (vR (4, 0, m)), some (vI x1), some (vI x2)] [] hp (rsI v hp)) (h : fX4_palestPlace_44 m x2 k4 hp = some v) : Ex (d + 2) kX4_palestPlace 44 [some (vR (4, 0, m)), j1, some (vI x2)] [] hp (rsI v hp) := by
  replace h : (fX4_palestPlace_46 m x2 x2 k4 hp) = some v := h
  refine Ex.go 2 (pc' := 46) (ls' := [some (vR (4, 0, m)), some (vI x2), some (vI x2)]) (st' := []) (hp' := hp) (fun _ => rfl) ?_
  exact exX4_palestPlace_46 hk4 h
def fX4_palestPlace_4 (n : Nat) (m : Nat) (x1 : Int32) (x2 : Int32) (hp : HP) : Option Int32 := match n with
  | 0 => none
  | n + 1 => (fX4_places m hp).bind fun v1 => if x2 < v1 then ((fX4_isEmpty m x2 hp).bind fun v2 => if v2 = 0 then (if x1 = m1 then (fX4_palestPlace_44 m x2 (fun x1 x2 hq => fX4_palestPlace_4 n m x1 x2 hq) hp) else ((fX7_at 3 m x2 hp).bind fun v3 => (fX7_at 3 m x1 hp).bind fun v4 => if v3 < v4 then (fX4_palestPlace_44 m x2 (fun x1 x2 hq => fX4_palestPlace_4 n m x1 x2 hq) hp) else (fX4_palestPlace_46 m x1 x2 (fun x1 x2 hq => fX4_palestPlace_4 n m x1 x2 hq) hp))) else (fX4_palestPlace_46 m x1 x2 (fun x1 x2 hq => fX4_palestPlace_4 n m x1 x2 hq) hp)) else (some x1)
theorem exX4_palestPlace_4 {d : Nat} {m : Nat} : ∀ (n : Nat) (x1 : Int32) (x2 : Int32) (hp : HP) (v : Int32), fX4_palestPlace_4 n m x1 x2 hp = some v → Ex (d + 2) kX4_palestPlace 4 [some (vR (4, 0, m)), some (vI x1), some (vI x2)] [] hp (rsI v hp) := by
  intro n
  induction n with
  | zero =>
    intro x1 x2 hp v h
    cases h
  | succ n ih =>
    intro x1 x2 hp v h
    replace h : ((fX4_places m hp).bind fun v1 => if x2 < v1 then ((fX4_isEmpty m x2 hp).bind fun v2 => if v2 = 0 then (if x1 = m1 then (fX4_palestPlace_44 m x2 (fun x1 x2 hq => fX4_palestPlace_4 n m x1 x2 hq) hp) else ((fX7_at 3 m x2 hp).bind fun v3 => (fX7_at 3 m x1 hp).bind fun v4 => if v3 < v4 then (fX4_palestPlace_44 m x2 (fun x1 x2 hq => fX4_palestPlace_4 n m x1 x2 hq) hp) else (fX4_palestPlace_46 m x1 x2 (fun x1 x2 hq => fX4_palestPlace_4 n m x1 x2 hq) hp))) else (fX4_palestPlace_46 m x1 x2 (fun x1 x2 hq => fX4_palestPlace_4 n m x1 x2 hq) hp)) else (some x1)) = some v := h
    refine Ex.go 2 (pc' := 6) (ls' := [some (vR (4, 0, m)), some (vI x1), some (vI x2)]) (st' := [vR (4, 0, m), vI x2]) (hp' := hp) (fun _ => rfl) ?_
    obtain ⟨v1, hv, h⟩ := Option.bind_eq_some_iff.mp h
    refine Ex.call (args := [vR (4, 0, m)]) (rest := [vI x2]) rfl rfl rfl (exX4_places (d := d + 0) hv) ?_
    show Ex (d + 2) kX4_palestPlace 9 [some (vR (4, 0, m)), some (vI x1), some (vI x2)] [vI v1, vI x2] hp _
    refine Ex.icmp rfl ?_
    by_cases hc : x2 < v1
    · rw [if_pos hc] at h
      rw [brI_ge_p hc]
      show Ex (d + 2) kX4_palestPlace 12 [some (vR (4, 0, m)), some (vI x1), some (vI x2)] [] hp _
      refine Ex.go 2 (pc' := 14) (ls' := [some (vR (4, 0, m)), some (vI x1), some (vI x2)]) (st' := [vI x2, vR (4, 0, m)]) (hp' := hp) (fun _ => rfl) ?_
      obtain ⟨v2, hv, h⟩ := Option.bind_eq_some_iff.mp h
      refine Ex.call (args := [vR (4, 0, m), vI x2]) (rest := []) rfl rfl rfl (exX4_isEmpty (d := d + 0) hv) ?_
      show Ex (d + 2) kX4_palestPlace 17 [some (vR (4, 0, m)), some (vI x1), some (vI x2)] [vI v2] hp _
      refine Ex.ifc rfl ?_
      by_cases hc : v2 = 0
      · rw [if_pos hc] at h
        rw [brI_ne_p hc]
        show Ex (d + 2) kX4_palestPlace 20 [some (vR (4, 0, m)), some (vI x1), some (vI x2)] [] hp _
        refine Ex.go 2 (pc' := 22) (ls' := [some (vR (4, 0, m)), some (vI x1), some (vI x2)]) (st' := [vI m1, vI x1]) (hp' := hp) (fun _ => rfl) ?_
        refine Ex.icmp rfl ?_
        by_cases hc : x1 = m1
        · rw [if_pos hc] at h
          rw [brI_eq_p hc]
          show Ex (d + 2) kX4_palestPlace 44 [some (vR (4, 0, m)), some (vI x1), some (vI x2)] [] hp _
          exact exX4_palestPlace_44 (fun q0 q1 q2 q3 hv => ih q0 q1 q2 q3 hv) h
        · rw [if_neg hc] at h
          rw [brI_eq_n hc]
          show Ex (d + 2) kX4_palestPlace 25 [some (vR (4, 0, m)), some (vI x1), some (vI x2)] [] hp _
          refine Ex.go 3 (pc' := 30) (ls' := [some (vR (4, 0, m)), some (vI x1), some (vI x2)]) (st' := [vI x2, vR (7, 3, m)]) (hp' := hp) (fun _ => rfl) ?_
          obtain ⟨v3, hv, h⟩ := Option.bind_eq_some_iff.mp h
          refine Ex.call (args := [vR (7, 3, m), vI x2]) (rest := []) rfl rfl rfl (exX7_at (d := d + 1) hv) ?_
          show Ex (d + 2) kX4_palestPlace 33 [some (vR (4, 0, m)), some (vI x1), some (vI x2)] [vI v3] hp _
          refine Ex.go 3 (pc' := 38) (ls' := [some (vR (4, 0, m)), some (vI x1), some (vI x2)]) (st' := [vI x1, vR (7, 3, m), vI v3]) (hp' := hp) (fun _ => rfl) ?_
          obtain ⟨v4, hv, h⟩ := Option.bind_eq_some_iff.mp h
          refine Ex.call (args := [vR (7, 3, m), vI x1]) (rest := [vI v3]) rfl rfl rfl (exX7_at (d := d + 1) hv) ?_
          show Ex (d + 2) kX4_palestPlace 41 [some (vR (4, 0, m)), some (vI x1), some (vI x2)] [vI v4, vI v3] hp _
          refine Ex.icmp rfl ?_
          by_cases hc : v3 < v4
          · rw [if_pos hc] at h
            rw [brI_ge_p hc]
            show Ex (d + 2) kX4_palestPlace 44 [some (vR (4, 0, m)), some (vI x1), some (vI x2)] [] hp _
            exact exX4_palestPlace_44 (fun q0 q1 q2 q3 hv => ih q0 q1 q2 q3 hv) h
          · rw [if_neg hc] at h
            rw [brI_ge_n hc]
            show Ex (d + 2) kX4_palestPlace 46 [some (vR (4, 0, m)), some (vI x1), some (vI x2)] [] hp _
            exact exX4_palestPlace_46 (fun q0 q1 q2 q3 hv => ih q0 q1 q2 q3 hv) h
      · rw [if_neg hc] at h
        rw [brI_ne_n hc]
        show Ex (d + 2) kX4_palestPlace 46 [some (vR (4, 0, m)), some (vI x1), some (vI x2)] [] hp _
        exact exX4_palestPlace_46 (fun q0 q1 q2 q3 hv => ih q0 q1 q2 q3 hv) h
    · rw [if_neg hc] at h
      rw [brI_ge_n hc]
      show Ex (d + 2) kX4_palestPlace 52 [some (vR (4, 0, m)), some (vI x1), some (vI x2)] [] hp _
      refine Ex.go 1 (pc' := 53) (ls' := [some (vR (4, 0, m)), some (vI x1), some (vI x2)]) (st' := [vI x1]) (hp' := hp) (fun _ => rfl) ?_
      cases h
      exact Ex.ret rfl rfl rfl
def fX4_palestPlace (m : Nat) (hp : HP) : Option Int32 := fX4_palestPlace_4 FU m m1 0 hp
theorem exX4_palestPlace {d : Nat} {m : Nat} {hp : HP} {v : Int32} (h : fX4_palestPlace m hp = some v) : Calls (d + 2) 62 [vR (4, 0, m)] hp (rsI v hp) := by
  replace h : (fX4_palestPlace_4 FU m m1 0 hp) = some v := h
  show Ex (d + 2) kX4_palestPlace 0 [some (vR (4, 0, m)), none, none] [] hp _
  refine Ex.go 4 (pc' := 4) (ls' := [some (vR (4, 0, m)), some (vI m1), some (vI 0)]) (st' := []) (hp' := hp) (fun _ => rfl) ?_
  exact exX4_palestPlace_4 FU _ _ _ _ h
def fX9_isSmall (a0 : Int32) (hp : HP) : Option Int32 := if a0 < 97 then (some 0) else (if 122 < a0 then (some 0) else (some 1))
theorem exX9_isSmall {d : Nat} {a0 : Int32} {hp : HP} {v : Int32} (h : fX9_isSmall a0 hp = some v) : Calls (d + 0) 153 [vI a0] hp (rsI v hp) := by
  replace h : (if a0 < 97 then (some 0) else (if 122 < a0 then (some 0) else (some 1))) = some v := h
  show Ex (d + 0) kX9_isSmall 0 [some (vI a0)] [] hp _
  refine Ex.go 2 (pc' := 3) (ls' := [some (vI a0)]) (st' := [vI 97, vI a0]) (hp' := hp) (fun _ => rfl) ?_
  refine Ex.icmp rfl ?_
  by_cases hc : a0 < 97
  · rw [if_pos hc] at h
    rw [brI_lt_p hc]
    show Ex (d + 0) kX9_isSmall 16 [some (vI a0)] [] hp _
    refine Ex.go 1 (pc' := 17) (ls' := [some (vI a0)]) (st' := [vI 0]) (hp' := hp) (fun _ => rfl) ?_
    cases h
    exact Ex.ret rfl rfl rfl
  · rw [if_neg hc] at h
    rw [brI_lt_n hc]
    show Ex (d + 0) kX9_isSmall 6 [some (vI a0)] [] hp _
    refine Ex.go 2 (pc' := 9) (ls' := [some (vI a0)]) (st' := [vI 122, vI a0]) (hp' := hp) (fun _ => rfl) ?_
    refine Ex.icmp rfl ?_
    by_cases hc : 122 < a0
    · rw [if_pos hc] at h
      rw [brI_gt_p hc]
      show Ex (d + 0) kX9_isSmall 16 [some (vI a0)] [] hp _
      refine Ex.go 1 (pc' := 17) (ls' := [some (vI a0)]) (st' := [vI 0]) (hp' := hp) (fun _ => rfl) ?_
      cases h
      exact Ex.ret rfl rfl rfl
    · rw [if_neg hc] at h
      rw [brI_gt_n hc]
      show Ex (d + 0) kX9_isSmall 12 [some (vI a0)] [] hp _
      refine Ex.go 2 (pc' := 17) (ls' := [some (vI a0)]) (st' := [vI 1]) (hp' := hp) (fun _ => rfl) ?_
      cases h
      exact Ex.ret rfl rfl rfl
def fX5_readWord_61 (y1 : Int32) (hp : HP) : Option HP := some (up hp (5, 0, 0) 4 y1)
theorem exX5_readWord_61 {d : Nat} {y1 : Int32} {hp : HP} {v : HP} (h : fX5_readWord_61 y1 hp = some v) : Ex (d + 1) kX5_readWord 61 [some (vR (5, 0, 0))] [vI y1, vR (5, 0, 0)] hp (rsV () v) := by
  replace h : (some (up hp (5, 0, 0) 4 y1)) = some v := h
  refine Ex.go 1 (pc' := 64) (ls' := [some (vR (5, 0, 0))]) (st' := []) (hp' := (up hp (5, 0, 0) 4 y1)) (fun _ => rfl) ?_
  cases h
  exact Ex.ret rfl rfl rfl
def fX5_readWord_41 (hp : HP) : Option HP := if 7 < ((hp (5, 0, 0) 3) - (hp (5, 0, 0) 5)) then (fX5_readWord_61 4 hp) else (fX5_readWord_61 1 hp)
theorem exX5_readWord_41 {d : Nat} {hp : HP} {v : HP} (h : fX5_readWord_41 hp = some v) : Ex (d + 1) kX5_readWord 41 [some (vR (5, 0, 0))] [] hp (rsV () v) := by
  replace h : (if 7 < ((hp (5, 0, 0) 3) - (hp (5, 0, 0) 5)) then (fX5_readWord_61 4 hp) else (fX5_readWord_61 1 hp)) = some v := h
  refine Ex.go 7 (pc' := 53) (ls' := [some (vR (5, 0, 0))]) (st' := [vI 7, vI ((hp (5, 0, 0) 3) - (hp (5, 0, 0) 5)), vR (5, 0, 0)]) (hp' := hp) (fun _ => rfl) ?_
  refine Ex.icmp rfl ?_
  by_cases hc : 7 < ((hp (5, 0, 0) 3) - (hp (5, 0, 0) 5))
  · rw [if_pos hc] at h
    rw [brI_gt_p hc]
    show Ex (d + 1) kX5_readWord 60 [some (vR (5, 0, 0))] [vR (5, 0, 0)] hp _
    refine Ex.go 1 (pc' := 61) (ls' := [some (vR (5, 0, 0))]) (st' := [vI 4, vR (5, 0, 0)]) (hp' := hp) (fun _ => rfl) ?_
    exact exX5_readWord_61 h
  · rw [if_neg hc] at h
    rw [brI_gt_n hc]
    show Ex (d + 1) kX5_readWord 56 [some (vR (5, 0, 0))] [vR (5, 0, 0)] hp _
    refine Ex.go 2 (pc' := 61) (ls' := [some (vR (5, 0, 0))]) (st' := [vI 1, vR (5, 0, 0)]) (hp' := hp) (fun _ => rfl) ?_
    exact exX5_readWord_61 h
def fX5_readWord_0 (n : Nat) (hp : HP) : Option HP := match n with
  | 0 => none
  | n + 1 => if (hp (5, 0, 0) 3) < (hp (5, 0, 0) 2) then ((fX7_at 10 0 (hp (5, 0, 0) 3) hp).bind fun v1 => (fX9_isSmall v1 hp).bind fun v2 => if v2 = 0 then (fX5_readWord_41 hp) else (fX5_readWord_0 n (up hp (5, 0, 0) 3 ((hp (5, 0, 0) 3) + 1)))) else (fX5_readWord_41 hp)
theorem exX5_readWord_0 {d : Nat} : ∀ (n : Nat) (hp : HP) (v : HP), fX5_readWord_0 n hp = some v → Ex (d + 1) kX5_readWord 0 [some (vR (5, 0, 0))] [] hp (rsV () v) := by
  intro n
  induction n with
  | zero =>
    intro hp v h
    cases h
  | succ n ih =>
    intro hp v h
    replace h : (if (hp (5, 0, 0) 3) < (hp (5, 0, 0) 2) then ((fX7_at 10 0 (hp (5, 0, 0) 3) hp).bind fun v1 => (fX9_isSmall v1 hp).bind fun v2 => if v2 = 0 then (fX5_readWord_41 hp) else (fX5_readWord_0 n (up hp (5, 0, 0) 3 ((hp (5, 0, 0) 3) + 1)))) else (fX5_readWord_41 hp)) = some v := h
    refine Ex.go 4 (pc' := 8) (ls' := [some (vR (5, 0, 0))]) (st' := [vI (hp (5, 0, 0) 2), vI (hp (5, 0, 0) 3)]) (hp' := hp) (fun _ => rfl) ?_
    refine Ex.icmp rfl ?_
    by_cases hc : (hp (5, 0, 0) 3) < (hp (5, 0, 0) 2)
    · rw [if_pos hc] at h
      rw [brI_ge_p hc]
      show Ex (d + 1) kX5_readWord 11 [some (vR (5, 0, 0))] [] hp _
      refine Ex.go 4 (pc' := 19) (ls' := [some (vR (5, 0, 0))]) (st' := [vI (hp (5, 0, 0) 3), vR (7, 10, 0)]) (hp' := hp) (fun _ => rfl) ?_
      obtain ⟨v1, hv, h⟩ := Option.bind_eq_some_iff.mp h
      refine Ex.call (args := [vR (7, 10, 0), vI (hp (5, 0, 0) 3)]) (rest := []) rfl rfl rfl (exX7_at (d := d + 0) hv) ?_
      show Ex (d + 1) kX5_readWord 22 [some (vR (5, 0, 0))] [vI v1] hp _
      obtain ⟨v2, hv, h⟩ := Option.bind_eq_some_iff.mp h
      refine Ex.call (args := [vI v1]) (rest := []) rfl rfl rfl (exX9_isSmall (d := d + 0) hv) ?_
      show Ex (d + 1) kX5_readWord 25 [some (vR (5, 0, 0))] [vI v2] hp _
      refine Ex.ifc rfl ?_
      by_cases hc : v2 = 0
      · rw [if_pos hc] at h
        rw [brI_eq_p hc]
        show Ex (d + 1) kX5_readWord 41 [some (vR (5, 0, 0))] [] hp _
        exact exX5_readWord_41 h
      · rw [if_neg hc] at h
        rw [brI_eq_n hc]
        show Ex (d + 1) kX5_readWord 28 [some (vR (5, 0, 0))] [] hp _
        refine Ex.go 7 (pc' := 0) (ls' := [some (vR (5, 0, 0))]) (st' := []) (hp' := (up hp (5, 0, 0) 3 ((hp (5, 0, 0) 3) + 1))) (fun _ => rfl) ?_
        exact ih _ _ h
    · rw [if_neg hc] at h
      rw [brI_ge_n hc]
      show Ex (d + 1) kX5_readWord 41 [some (vR (5, 0, 0))] [] hp _
      exact exX5_readWord_41 h
def fX5_readWord (hp : HP) : Option HP := fX5_readWord_0 FU hp
theorem exX5_readWord {d : Nat} {hp : HP} {v : HP} (h : fX5_readWord hp = some v) : Calls (d + 1) 74 [vR (5, 0, 0)] hp (rsV () v) := by
  replace h : (fX5_readWord_0 FU hp) = some v := h
  show Ex (d + 1) kX5_readWord 0 [some (vR (5, 0, 0))] [] hp _
  exact exX5_readWord_0 FU _ _ h
def fX5_readNumber_59 (k5 : HP → Option HP) (hp : HP) : Option HP := k5 (up hp (5, 0, 0) 3 ((hp (5, 0, 0) 3) + 1))
theorem exX5_readNumber_59 {d : Nat} {hp : HP} {v : HP} {k5 : HP → Option HP} (hk5 : ∀ (hp : HP) (v : HP), k5 hp = some v → Ex (d + 1) kX5_readNumber 5 [some (vR (5, 0, 0))] [] hp (rsV () v)) (h : fX5_readNumber_59 k5 hp = some v) : Ex (d + 1) kX5_readNumber 59 [some (vR (5, 0, 0))] [] hp (rsV () v) := by
  replace h : (k5 (up hp (5, 0, 0) 3 ((hp (5, 0, 0) 3) + 1))) = some v := h
  refine Ex.go 7 (pc' := 5) (ls' := [some (vR (5, 0, 0))]) (st' := []) (hp' := (up hp (5, 0, 0) 3 ((hp (5, 0, 0) 3) + 1))) (fun _ => rfl) ?_
  exact hk5 _ _ h
def fX5_readNumber_91 (y1 : Int32) (hp : HP) : Option HP := some (up hp (5, 0, 0) 4 y1)
theorem exX5_readNumber_91 {d : Nat} {y1 : Int32} {hp : HP} {v : HP} (h : fX5_readNumber_91 y1 hp = some v) : Ex (d + 1) kX5_readNumber 91 [some (vR (5, 0, 0))] [vI y1, vR (5, 0, 0)] hp (rsV () v) := by
  replace h : (some (up hp (5, 0, 0) 4 y1)) = some v := h
  refine Ex.go 1 (pc' := 94) (ls' := [some (vR (5, 0, 0))]) (st' := []) (hp' := (up hp (5, 0, 0) 4 y1)) (fun _ => rfl) ?_
  cases h
  exact Ex.ret rfl rfl rfl
def fX5_readNumber_72 (hp : HP) : Option HP := if 3 < ((hp (5, 0, 0) 3) - (hp (5, 0, 0) 5)) then (fX5_readNumber_91 4 hp) else (fX5_readNumber_91 2 hp)
theorem exX5_readNumber_72 {d : Nat} {hp : HP} {v : HP} (h : fX5_readNumber_72 hp = some v) : Ex (d + 1) kX5_readNumber 72 [some (vR (5, 0, 0))] [] hp (rsV () v) := by
  replace h : (if 3 < ((hp (5, 0, 0) 3) - (hp (5, 0, 0) 5)) then (fX5_readNumber_91 4 hp) else (fX5_readNumber_91 2 hp)) = some v := h
  refine Ex.go 7 (pc' := 83) (ls' := [some (vR (5, 0, 0))]) (st' := [vI 3, vI ((hp (5, 0, 0) 3) - (hp (5, 0, 0) 5)), vR (5, 0, 0)]) (hp' := hp) (fun _ => rfl) ?_
  refine Ex.icmp rfl ?_
  by_cases hc : 3 < ((hp (5, 0, 0) 3) - (hp (5, 0, 0) 5))
  · rw [if_pos hc] at h
    rw [brI_gt_p hc]
    show Ex (d + 1) kX5_readNumber 90 [some (vR (5, 0, 0))] [vR (5, 0, 0)] hp _
    refine Ex.go 1 (pc' := 91) (ls' := [some (vR (5, 0, 0))]) (st' := [vI 4, vR (5, 0, 0)]) (hp' := hp) (fun _ => rfl) ?_
    exact exX5_readNumber_91 h
  · rw [if_neg hc] at h
    rw [brI_gt_n hc]
    show Ex (d + 1) kX5_readNumber 86 [some (vR (5, 0, 0))] [vR (5, 0, 0)] hp _
    refine Ex.go 2 (pc' := 91) (ls' := [some (vR (5, 0, 0))]) (st' := [vI 2, vR (5, 0, 0)]) (hp' := hp) (fun _ => rfl) ?_
    exact exX5_readNumber_91 h
def fX5_readNumber_5 (n : Nat) (hp : HP) : Option HP := match n with
  | 0 => none
  | n + 1 => if (hp (5, 0, 0) 3) < (hp (5, 0, 0) 2) then ((fX7_at 10 0 (hp (5, 0, 0) 3) hp).bind fun v1 => (fX9_isDigit v1 hp).bind fun v2 => if v2 = 0 then (fX5_readNumber_72 hp) else ((fX7_at 10 0 (hp (5, 0, 0) 3) hp).bind fun v3 => fX5_readNumber_59 (fun hq => fX5_readNumber_5 n hq) (up hp (5, 0, 0) 6 (((10 * (hp (5, 0, 0) 6)) + v3) - 48)))) else (fX5_readNumber_72 hp)
theorem exX5_readNumber_5 {d : Nat} : ∀ (n : Nat) (hp : HP) (v : HP), fX5_readNumber_5 n hp = some v → Ex (d + 1) kX5_readNumber 5 [some (vR (5, 0, 0))] [] hp (rsV () v) := by
  intro n
  induction n with
  | zero =>
    intro hp v h
    cases h
  | succ n ih =>
    intro hp v h
    replace h : (if (hp (5, 0, 0) 3) < (hp (5, 0, 0) 2) then ((fX7_at 10 0 (hp (5, 0, 0) 3) hp).bind fun v1 => (fX9_isDigit v1 hp).bind fun v2 => if v2 = 0 then (fX5_readNumber_72 hp) else ((fX7_at 10 0 (hp (5, 0, 0) 3) hp).bind fun v3 => fX5_readNumber_59 (fun hq => fX5_readNumber_5 n hq) (up hp (5, 0, 0) 6 (((10 * (hp (5, 0, 0) 6)) + v3) - 48)))) else (fX5_readNumber_72 hp)) = some v := h
    refine Ex.go 4 (pc' := 13) (ls' := [some (vR (5, 0, 0))]) (st' := [vI (hp (5, 0, 0) 2), vI (hp (5, 0, 0) 3)]) (hp' := hp) (fun _ => rfl) ?_
    refine Ex.icmp rfl ?_
    by_cases hc : (hp (5, 0, 0) 3) < (hp (5, 0, 0) 2)
    · rw [if_pos hc] at h
      rw [brI_ge_p hc]
      show Ex (d + 1) kX5_readNumber 16 [some (vR (5, 0, 0))] [] hp _
      refine Ex.go 4 (pc' := 24) (ls' := [some (vR (5, 0, 0))]) (st' := [vI (hp (5, 0, 0) 3), vR (7, 10, 0)]) (hp' := hp) (fun _ => rfl) ?_
      obtain ⟨v1, hv, h⟩ := Option.bind_eq_some_iff.mp h
      refine Ex.call (args := [vR (7, 10, 0), vI (hp (5, 0, 0) 3)]) (rest := []) rfl rfl rfl (exX7_at (d := d + 0) hv) ?_
      show Ex (d + 1) kX5_readNumber 27 [some (vR (5, 0, 0))] [vI v1] hp _
      obtain ⟨v2, hv, h⟩ := Option.bind_eq_some_iff.mp h
      refine Ex.call (args := [vI v1]) (rest := []) rfl rfl rfl (exX9_isDigit (d := d + 0) hv) ?_
      show Ex (d + 1) kX5_readNumber 30 [some (vR (5, 0, 0))] [vI v2] hp _
      refine Ex.ifc rfl ?_
      by_cases hc : v2 = 0
      · rw [if_pos hc] at h
        rw [brI_eq_p hc]
        show Ex (d + 1) kX5_readNumber 72 [some (vR (5, 0, 0))] [] hp _
        exact exX5_readNumber_72 h
      · rw [if_neg hc] at h
        rw [brI_eq_n hc]
        show Ex (d + 1) kX5_readNumber 33 [some (vR (5, 0, 0))] [] hp _
        refine Ex.go 9 (pc' := 49) (ls' := [some (vR (5, 0, 0))]) (st' := [vI (hp (5, 0, 0) 3), vR (7, 10, 0), vI (10 * (hp (5, 0, 0) 6)), vR (5, 0, 0)]) (hp' := hp) (fun _ => rfl) ?_
        obtain ⟨v3, hv, h⟩ := Option.bind_eq_some_iff.mp h
        refine Ex.call (args := [vR (7, 10, 0), vI (hp (5, 0, 0) 3)]) (rest := [vI (10 * (hp (5, 0, 0) 6)), vR (5, 0, 0)]) rfl rfl rfl (exX7_at (d := d + 0) hv) ?_
        show Ex (d + 1) kX5_readNumber 52 [some (vR (5, 0, 0))] [vI v3, vI (10 * (hp (5, 0, 0) 6)), vR (5, 0, 0)] hp _
        refine Ex.go 4 (pc' := 59) (ls' := [some (vR (5, 0, 0))]) (st' := []) (hp' := (up hp (5, 0, 0) 6 (((10 * (hp (5, 0, 0) 6)) + v3) - 48))) (fun _ => rfl) ?_
        exact exX5_readNumber_59 (fun q0 q1 hv => ih q0 q1 hv) h
    · rw [if_neg hc] at h
      rw [brI_ge_n hc]
      show Ex (d + 1) kX5_readNumber 72 [some (vR (5, 0, 0))] [] hp _
      exact exX5_readNumber_72 h
def fX5_readNumber (hp : HP) : Option HP := fX5_readNumber_5 FU (up hp (5, 0, 0) 6 0)
theorem exX5_readNumber {d : Nat} {hp : HP} {v : HP} (h : fX5_readNumber hp = some v) : Calls (d + 1) 75 [vR (5, 0, 0)] hp (rsV () v) := by
  replace h : (fX5_readNumber_5 FU (up hp (5, 0, 0) 6 0)) = some v := h
  show Ex (d + 1) kX5_readNumber 0 [some (vR (5, 0, 0))] [] hp _
  refine Ex.go 3 (pc' := 5) (ls' := [some (vR (5, 0, 0))]) (st' := []) (hp' := (up hp (5, 0, 0) 6 0)) (fun _ => rfl) ?_
  exact exX5_readNumber_5 FU _ _ h
def fX5_readToken_130 (hp : HP) : Option HP := some (up hp (5, 0, 0) 3 ((hp (5, 0, 0) 3) + 1))
theorem exX5_readToken_130 {d : Nat} {j1 : Option VL} {hp : HP} {v : HP} (h : fX5_readToken_130 hp = some v) : Ex (d + 2) kX5_readToken 130 [some (vR (5, 0, 0)), j1] [] hp (rsV () v) := by
  replace h : (some (up hp (5, 0, 0) 3 ((hp (5, 0, 0) 3) + 1))) = some v := h
  refine Ex.go 6 (pc' := 140) (ls' := [some (vR (5, 0, 0)), j1]) (st' := []) (hp' := (up hp (5, 0, 0) 3 ((hp (5, 0, 0) 3) + 1))) (fun _ => rfl) ?_
  cases h
  exact Ex.ret rfl rfl rfl
def fX5_readToken_127 (y1 : Int32) (hp : HP) : Option HP := fX5_readToken_130 (up hp (5, 0, 0) 4 y1)
theorem exX5_readToken_127 {d : Nat} {y1 : Int32} {j1 : Option VL} {hp : HP} {v : HP} (h : fX5_readToken_127 y1 hp = some v) : Ex (d + 2) kX5_readToken 127 [some (vR (5, 0, 0)), j1] [vI y1, vR (5, 0, 0)] hp (rsV () v) := by
  replace h : (fX5_readToken_130 (up hp (5, 0, 0) 4 y1)) = some v := h
  refine Ex.go 1 (pc' := 130) (ls' := [some (vR (5, 0, 0)), j1]) (st' := []) (hp' := (up hp (5, 0, 0) 4 y1)) (fun _ => rfl) ?_
  exact exX5_readToken_130 h
def fX5_readToken_56 (hp : HP) : Option HP := (fX7_at 10 0 (hp (5, 0, 0) 3) hp).bind fun v1 => if (hp (5, 0, 0) 3) < (hp (5, 0, 0) 2) then ((fX9_isSmall v1 hp).bind fun v2 => if v2 = 0 then ((fX9_isDigit v1 hp).bind fun v3 => if v3 = 0 then (if v1 = 59 then (fX5_readToken_127 3 hp) else (fX5_readToken_127 4 hp)) else ((fX5_readNumber hp).bind fun hp6 => some hp6)) else ((fX5_readWord hp).bind fun hp9 => some hp9)) else (some (up hp (5, 0, 0) 4 0))
theorem exX5_readToken_56 {d : Nat} {j1 : Option VL} {hp : HP} {v : HP} (h : fX5_readToken_56 hp = some v) : Ex (d + 2) kX5_readToken 56 [some (vR (5, 0, 0)), j1] [] hp (rsV () v) := by
  replace h : ((fX7_at 10 0 (hp (5, 0, 0) 3) hp).bind fun v1 => if (hp (5, 0, 0) 3) < (hp (5, 0, 0) 2) then ((fX9_isSmall v1 hp).bind fun v2 => if v2 = 0 then ((fX9_isDigit v1 hp).bind fun v3 => if v3 = 0 then (if v1 = 59 then (fX5_readToken_127 3 hp) else (fX5_readToken_127 4 hp)) else ((fX5_readNumber hp).bind fun hp6 => some hp6)) else ((fX5_readWord hp).bind fun hp9 => some hp9)) else (some (up hp (5, 0, 0) 4 0))) = some v := h
  refine Ex.go 4 (pc' := 64) (ls' := [some (vR (5, 0, 0)), j1]) (st' := [vI (hp (5, 0, 0) 3), vR (7, 10, 0)]) (hp' := hp) (fun _ => rfl) ?_
  obtain ⟨v1, hv, h⟩ := Option.bind_eq_some_iff.mp h
  refine Ex.call (args := [vR (7, 10, 0), vI (hp (5, 0, 0) 3)]) (rest := []) rfl rfl rfl (exX7_at (d := d + 1) hv) ?_
  show Ex (d + 2) kX5_readToken 67 [some (vR (5, 0, 0)), j1] [vI v1] hp _
  refine Ex.go 5 (pc' := 76) (ls' := [some (vR (5, 0, 0)), some (vI v1)]) (st' := [vI (hp (5, 0, 0) 2), vI (hp (5, 0, 0) 3)]) (hp' := hp) (fun _ => rfl) ?_
  refine Ex.icmp rfl ?_
  by_cases hc : (hp (5, 0, 0) 3) < (hp (5, 0, 0) 2)
  · rw [if_pos hc] at h
    rw [brI_lt_p hc]
    show Ex (d + 2) kX5_readToken 87 [some (vR (5, 0, 0)), some (vI v1)] [] hp _
    refine Ex.go 1 (pc' := 88) (ls' := [some (vR (5, 0, 0)), some (vI v1)]) (st' := [vI v1]) (hp' := hp) (fun _ => rfl) ?_
    obtain ⟨v2, hv, h⟩ := Option.bind_eq_some_iff.mp h
    refine Ex.call (args := [vI v1]) (rest := []) rfl rfl rfl (exX9_isSmall (d := d + 1) hv) ?_
    show Ex (d + 2) kX5_readToken 91 [some (vR (5, 0, 0)), some (vI v1)] [vI v2] hp _
    refine Ex.ifc rfl ?_
    by_cases hc : v2 = 0
    · rw [if_pos hc] at h
      rw [brI_eq_p hc]
      show Ex (d + 2) kX5_readToken 101 [some (vR (5, 0, 0)), some (vI v1)] [] hp _
      refine Ex.go 1 (pc' := 102) (ls' := [some (vR (5, 0, 0)), some (vI v1)]) (st' := [vI v1]) (hp' := hp) (fun _ => rfl) ?_
      obtain ⟨v3, hv, h⟩ := Option.bind_eq_some_iff.mp h
      refine Ex.call (args := [vI v1]) (rest := []) rfl rfl rfl (exX9_isDigit (d := d + 1) hv) ?_
      show Ex (d + 2) kX5_readToken 105 [some (vR (5, 0, 0)), some (vI v1)] [vI v3] hp _
      refine Ex.ifc rfl ?_
      by_cases hc : v3 = 0
      · rw [if_pos hc] at h
        rw [brI_eq_p hc]
        show Ex (d + 2) kX5_readToken 115 [some (vR (5, 0, 0)), some (vI v1)] [] hp _
        refine Ex.go 3 (pc' := 119) (ls' := [some (vR (5, 0, 0)), some (vI v1)]) (st' := [vI 59, vI v1, vR (5, 0, 0)]) (hp' := hp) (fun _ => rfl) ?_
        refine Ex.icmp rfl ?_
        by_cases hc : v1 = 59
        · rw [if_pos hc] at h
          rw [brI_ne_p hc]
          show Ex (d + 2) kX5_readToken 122 [some (vR (5, 0, 0)), some (vI v1)] [vR (5, 0, 0)] hp _
          refine Ex.go 2 (pc' := 127) (ls' := [some (vR (5, 0, 0)), some (vI v1)]) (st' := [vI 3, vR (5, 0, 0)]) (hp' := hp) (fun _ => rfl) ?_
          exact exX5_readToken_127 h
        · rw [if_neg hc] at h
          rw [brI_ne_n hc]
          show Ex (d + 2) kX5_readToken 126 [some (vR (5, 0, 0)), some (vI v1)] [vR (5, 0, 0)] hp _
          refine Ex.go 1 (pc' := 127) (ls' := [some (vR (5, 0, 0)), some (vI v1)]) (st' := [vI 4, vR (5, 0, 0)]) (hp' := hp) (fun _ => rfl) ?_
          exact exX5_readToken_127 h
      · rw [if_neg hc] at h
        rw [brI_eq_n hc]
        show Ex (d + 2) kX5_readToken 108 [some (vR (5, 0, 0)), some (vI v1)] [] hp _
        refine Ex.go 1 (pc' := 109) (ls' := [some (vR (5, 0, 0)), some (vI v1)]) (st' := [vR (5, 0, 0)]) (hp' := hp) (fun _ => rfl) ?_
        obtain ⟨hp6, hv, h⟩ := Option.bind_eq_some_iff.mp h
        refine Ex.call (args := [vR (5, 0, 0)]) (rest := []) rfl rfl rfl (exX5_readNumber (d := d + 0) hv) ?_
        show Ex (d + 2) kX5_readToken 112 [some (vR (5, 0, 0)), some (vI v1)] [] hp6 _
        refine Ex.go 1 (pc' := 140) (ls' := [some (vR (5, 0, 0)), some (vI v1)]) (st' := []) (hp' := hp6) (fun _ => rfl) ?_
        cases h
        exact Ex.ret rfl rfl rfl
    · rw [if_neg hc] at h
      rw [brI_eq_n hc]
      show Ex (d + 2) kX5_readToken 94 [some (vR (5, 0, 0)), some (vI v1)] [] hp _
      refine Ex.go 1 (pc' := 95) (ls' := [some (vR (5, 0, 0)), some (vI v1)]) (st' := [vR (5, 0, 0)]) (hp' := hp) (fun _ => rfl) ?_
      obtain ⟨hp9, hv, h⟩ := Option.bind_eq_some_iff.mp h
      refine Ex.call (args := [vR (5, 0, 0)]) (rest := []) rfl rfl rfl (exX5_readWord (d := d + 0) hv) ?_
      show Ex (d + 2) kX5_readToken 98 [some (vR (5, 0, 0)), some (vI v1)] [] hp9 _
      refine Ex.go 1 (pc' := 140) (ls' := [some (vR (5, 0, 0)), some (vI v1)]) (st' := []) (hp' := hp9) (fun _ => rfl) ?_
      cases h
      exact Ex.ret rfl rfl rfl
  · rw [if_neg hc] at h
    rw [brI_lt_n hc]
    show Ex (d + 2) kX5_readToken 79 [some (vR (5, 0, 0)), some (vI v1)] [] hp _
    refine Ex.go 4 (pc' := 140) (ls' := [some (vR (5, 0, 0)), some (vI v1)]) (st' := []) (hp' := (up hp (5, 0, 0) 4 0)) (fun _ => rfl) ?_
    cases h
    exact Ex.ret rfl rfl rfl
def fX5_readToken_48 (hp : HP) : Option HP := fX5_readToken_56 (up hp (5, 0, 0) 5 (hp (5, 0, 0) 3))
theorem exX5_readToken_48 {d : Nat} {j1 : Option VL} {hp : HP} {v : HP} (h : fX5_readToken_48 hp = some v) : Ex (d + 2) kX5_readToken 48 [some (vR (5, 0, 0)), j1] [] hp (rsV () v) := by
  replace h : (fX5_readToken_56 (up hp (5, 0, 0) 5 (hp (5, 0, 0) 3))) = some v := h
  refine Ex.go 4 (pc' := 56) (ls' := [some (vR (5, 0, 0)), j1]) (st' := []) (hp' := (up hp (5, 0, 0) 5 (hp (5, 0, 0) 3))) (fun _ => rfl) ?_
  exact exX5_readToken_56 h
def fX5_readToken_8 (n : Nat) (hp : HP) : Option HP := match n with
  | 0 => none
  | n + 1 => if (hp (5, 0, 0) 3) < (hp (5, 0, 0) 2) then ((fX7_at 10 0 (hp (5, 0, 0) 3) hp).bind fun v10 => if v10 = 32 then (fX5_readToken_8 n (up hp (5, 0, 0) 3 ((hp (5, 0, 0) 3) + 1))) else (fX5_readToken_48 hp)) else (fX5_readToken_48 hp)
theorem exX5_readToken_8 {d : Nat} : ∀ (n : Nat) (j1 : Option VL) (hp : HP) (v : HP), fX5_readToken_8 n hp = some v → Ex (d + 2) kX5_readToken 8 [some (vR (5, 0, 0)), j1] [] hp (rsV () v) := by
  intro n
  induction n with
  | zero =>
    intro j1 hp v h
    cases h
  | succ n ih =>
    intro j1 hp v h
    replace h : (if (hp (5, 0, 0) 3) < (hp (5, 0, 0) 2) then ((fX7_at 10 0 (hp (5, 0, 0) 3) hp).bind fun v10 => if v10 = 32 then (fX5_readToken_8 n (up hp (5, 0, 0) 3 ((hp (5, 0, 0) 3) + 1))) else (fX5_readToken_48 hp)) else (fX5_readToken_48 hp)) = some v := h
    refine Ex.go 4 (pc' := 16) (ls' := [some (vR (5, 0, 0)), j1]) (st' := [vI (hp (5, 0, 0) 2), vI (hp (5, 0, 0) 3)]) (hp' := hp) (fun _ => rfl) ?_
    refine Ex.icmp rfl ?_
    by_cases hc : (hp (5, 0, 0) 3) < (hp (5, 0, 0) 2)
    · rw [if_pos hc] at h
      rw [brI_ge_p hc]
      show Ex (d + 2) kX5_readToken 19 [some (vR (5, 0, 0)), j1] [] hp _
      refine Ex.go 4 (pc' := 27) (ls' := [some (vR (5, 0, 0)), j1]) (st' := [vI (hp (5, 0, 0) 3), vR (7, 10, 0)]) (hp' := hp) (fun _ => rfl) ?_
      obtain ⟨v10, hv, h⟩ := Option.bind_eq_some_iff.mp h
      refine Ex.call (args := [vR (7, 10, 0), vI (hp (5, 0, 0) 3)]) (rest := []) rfl rfl rfl (exX7_at (d := d + 1) hv) ?_
      show Ex (d + 2) kX5_readToken 30 [some (vR (5, 0, 0)), j1] [vI v10] hp _
      refine Ex.go 1 (pc' := 32) (ls' := [some (vR (5, 0, 0)), j1]) (st' := [vI 32, vI v10]) (hp' := hp) (fun _ => rfl) ?_
      refine Ex.icmp rfl ?_
      by_cases hc : v10 = 32
      · rw [if_pos hc] at h
        rw [brI_ne_p hc]
        show Ex (d + 2) kX5_readToken 35 [some (vR (5, 0, 0)), j1] [] hp _
        refine Ex.go 7 (pc' := 8) (ls' := [some (vR (5, 0, 0)), j1]) (st' := []) (hp' := (up hp (5, 0, 0) 3 ((hp (5, 0, 0) 3) + 1))) (fun _ => rfl) ?_
        exact ih _ _ _ h
      · rw [if_neg hc] at h
        rw [brI_ne_n hc]
        show Ex (d + 2) kX5_readToken 48 [some (vR (5, 0, 0)), j1] [] hp _
        exact exX5_readToken_48 h
    · rw [if_neg hc] at h
      rw [brI_ge_n hc]
      show Ex (d + 2) kX5_readToken 48 [some (vR (5, 0, 0)), j1] [] hp _
      exact exX5_readToken_48 h
def fX5_readToken (hp : HP) : Option HP := if (hp (5, 0, 0) 7) = 0 then (fX5_readToken_8 FU hp) else (some hp)
theorem exX5_readToken {d : Nat} {hp : HP} {v : HP} (h : fX5_readToken hp = some v) : Calls (d + 2) 73 [vR (5, 0, 0)] hp (rsV () v) := by
  replace h : (if (hp (5, 0, 0) 7) = 0 then (fX5_readToken_8 FU hp) else (some hp)) = some v := h
  show Ex (d + 2) kX5_readToken 0 [some (vR (5, 0, 0)), none] [] hp _
  refine Ex.go 2 (pc' := 4) (ls' := [some (vR (5, 0, 0)), none]) (st' := [vI (hp (5, 0, 0) 7)]) (hp' := hp) (fun _ => rfl) ?_
  refine Ex.ifc rfl ?_
  by_cases hc : (hp (5, 0, 0) 7) = 0
  · rw [if_pos hc] at h
    rw [brI_eq_p hc]
    show Ex (d + 2) kX5_readToken 8 [some (vR (5, 0, 0)), none] [] hp _
    exact exX5_readToken_8 FU _ _ _ h
  · rw [if_neg hc] at h
    rw [brI_eq_n hc]
    show Ex (d + 2) kX5_readToken 7 [some (vR (5, 0, 0)), none] [] hp _
    cases h
    exact Ex.ret rfl rfl rfl
def fX5_isWord_28 (n : Nat) (wr1 : Nat) (x2 : Int32) (hp : HP) : Option Int32 := match n with
  | 0 => none
  | n + 1 => if x2 < (nI (txt wr1).length) then ((fX7_at 10 0 ((hp (5, 0, 0) 5) + x2) hp).bind fun v1 => if inb x2 (txt wr1).length = true then (if v1 = ((txt wr1).getD x2.toNatClampNeg 0) then (fX5_isWord_28 n wr1 (x2 + 1) hp) else (some 0)) else none) else (some 1)
theorem exX5_isWord_28 {d : Nat} : ∀ (n : Nat) (wr1 : Nat) (x2 : Int32) (hp : HP) (v : Int32), fX5_isWord_28 n wr1 x2 hp = some v → Ex (d + 5) kX5_isWord 28 [some (vR (5, 0, 0)), some (vR (20, wr1, 0)), some (vI x2)] [] hp (rsI v hp) := by
  intro n
  induction n with
  | zero =>
    intro wr1 x2 hp v h
    cases h
  | succ n ih =>
    intro wr1 x2 hp v h
    replace h : (if x2 < (nI (txt wr1).length) then ((fX7_at 10 0 ((hp (5, 0, 0) 5) + x2) hp).bind fun v1 => if inb x2 (txt wr1).length = true then (if v1 = ((txt wr1).getD x2.toNatClampNeg 0) then (fX5_isWord_28 n wr1 (x2 + 1) hp) else (some 0)) else none) else (some 1)) = some v := h
    refine Ex.go 3 (pc' := 33) (ls' := [some (vR (5, 0, 0)), some (vR (20, wr1, 0)), some (vI x2)]) (st' := [vI (nI (txt wr1).length), vI x2]) (hp' := hp) (fun _ => rfl) ?_
    refine Ex.icmp rfl ?_
    by_cases hc : x2 < (nI (txt wr1).length)
    · rw [if_pos hc] at h
      rw [brI_ge_p hc]
      show Ex (d + 5) kX5_isWord 36 [some (vR (5, 0, 0)), some (vR (20, wr1, 0)), some (vI x2)] [] hp _
      refine Ex.go 6 (pc' := 46) (ls' := [some (vR (5, 0, 0)), some (vR (20, wr1, 0)), some (vI x2)]) (st' := [vI ((hp (5, 0, 0) 5) + x2), vR (7, 10, 0)]) (hp' := hp) (fun _ => rfl) ?_
      obtain ⟨v1, hv, h⟩ := Option.bind_eq_some_iff.mp h
      refine Ex.call (args := [vR (7, 10, 0), vI ((hp (5, 0, 0) 5) + x2)]) (rest := []) rfl rfl rfl (exX7_at (d := d + 4) hv) ?_
      show Ex (d + 5) kX5_isWord 49 [some (vR (5, 0, 0)), some (vR (20, wr1, 0)), some (vI x2)] [vI v1] hp _
      refine Ex.go 2 (pc' := 51) (ls' := [some (vR (5, 0, 0)), some (vR (20, wr1, 0)), some (vI x2)]) (st' := [vI x2, vR (20, wr1, 0), vI v1]) (hp' := hp) (fun _ => rfl) ?_
      by_cases hc : inb x2 (txt wr1).length = true
      · rw [if_pos hc] at h
        refine Ex.chr rfl rfl hc ?_
        show Ex (d + 5) kX5_isWord 54 [some (vR (5, 0, 0)), some (vR (20, wr1, 0)), some (vI x2)] [vI ((txt wr1).getD x2.toNatClampNeg 0), vI v1] hp _
        refine Ex.icmp rfl ?_
        by_cases hc : v1 = ((txt wr1).getD x2.toNatClampNeg 0)
        · rw [if_pos hc] at h
          rw [brI_eq_p hc]
          show Ex (d + 5) kX5_isWord 59 [some (vR (5, 0, 0)), some (vR (20, wr1, 0)), some (vI x2)] [] hp _
          refine Ex.go 2 (pc' := 28) (ls' := [some (vR (5, 0, 0)), some (vR (20, wr1, 0)), some (vI (x2 + 1))]) (st' := []) (hp' := hp) (fun _ => rfl) ?_
          exact ih _ _ _ _ h
        · rw [if_neg hc] at h
          rw [brI_eq_n hc]
          show Ex (d + 5) kX5_isWord 57 [some (vR (5, 0, 0)), some (vR (20, wr1, 0)), some (vI x2)] [] hp _
          refine Ex.go 1 (pc' := 58) (ls' := [some (vR (5, 0, 0)), some (vR (20, wr1, 0)), some (vI x2)]) (st' := [vI 0]) (hp' := hp) (fun _ => rfl) ?_
          cases h
          exact Ex.ret rfl rfl rfl
      · rw [if_neg hc] at h
        cases h
    · rw [if_neg hc] at h
      rw [brI_ge_n hc]
      show Ex (d + 5) kX5_isWord 65 [some (vR (5, 0, 0)), some (vR (20, wr1, 0)), some (vI x2)] [] hp _
      refine Ex.go 1 (pc' := 66) (ls' := [some (vR (5, 0, 0)), some (vR (20, wr1, 0)), some (vI x2)]) (st' := [vI 1]) (hp' := hp) (fun _ => rfl) ?_
      cases h
      exact Ex.ret rfl rfl rfl
def fX5_isWord (wr0 : Nat) (hp : HP) : Option Int32 := if (hp (5, 0, 0) 4) = 1 then (if ((hp (5, 0, 0) 3) - (hp (5, 0, 0) 5)) = (nI (txt wr0).length) then (fX5_isWord_28 FU wr0 0 hp) else (some 0)) else (some 0)
theorem exX5_isWord {d : Nat} {wr0 : Nat} {hp : HP} {v : Int32} (h : fX5_isWord wr0 hp = some v) : Calls (d + 5) 71 [vR (5, 0, 0), vR (20, wr0, 0)] hp (rsI v hp) := by
  replace h : (if (hp (5, 0, 0) 4) = 1 then (if ((hp (5, 0, 0) 3) - (hp (5, 0, 0) 5)) = (nI (txt wr0).length) then (fX5_isWord_28 FU wr0 0 hp) else (some 0)) else (some 0)) = some v := h
  show Ex (d + 5) kX5_isWord 0 [some (vR (5, 0, 0)), some (vR (20, wr0, 0)), none] [] hp _
  refine Ex.go 3 (pc' := 5) (ls' := [some (vR (5, 0, 0)), some (vR (20, wr0, 0)), none]) (st' := [vI 1, vI (hp (5, 0, 0) 4)]) (hp' := hp) (fun _ => rfl) ?_
  refine Ex.icmp rfl ?_
  by_cases hc : (hp (5, 0, 0) 4) = 1
  · rw [if_pos hc] at h
    rw [brI_ne_p hc]
    show Ex (d + 5) kX5_isWord 8 [some (vR (5, 0, 0)), some (vR (20, wr0, 0)), none] [] hp _
    refine Ex.go 7 (pc' := 21) (ls' := [some (vR (5, 0, 0)), some (vR (20, wr0, 0)), none]) (st' := [vI (nI (txt wr0).length), vI ((hp (5, 0, 0) 3) - (hp (5, 0, 0) 5))]) (hp' := hp) (fun _ => rfl) ?_
    refine Ex.icmp rfl ?_
    by_cases hc : ((hp (5, 0, 0) 3) - (hp (5, 0, 0) 5)) = (nI (txt wr0).length)
    · rw [if_pos hc] at h
      rw [brI_eq_p hc]
      show Ex (d + 5) kX5_isWord 26 [some (vR (5, 0, 0)), some (vR (20, wr0, 0)), none] [] hp _
      refine Ex.go 2 (pc' := 28) (ls' := [some (vR (5, 0, 0)), some (vR (20, wr0, 0)), some (vI 0)]) (st' := []) (hp' := hp) (fun _ => rfl) ?_
      exact exX5_isWord_28 FU _ _ _ _ h
    · rw [if_neg hc] at h
      rw [brI_eq_n hc]
      show Ex (d + 5) kX5_isWord 24 [some (vR (5, 0, 0)), some (vR (20, wr0, 0)), none] [] hp _
      refine Ex.go 1 (pc' := 25) (ls' := [some (vR (5, 0, 0)), some (vR (20, wr0, 0)), none]) (st' := [vI 0]) (hp' := hp) (fun _ => rfl) ?_
      cases h
      exact Ex.ret rfl rfl rfl
  · rw [if_neg hc] at h
    rw [brI_ne_n hc]
    show Ex (d + 5) kX5_isWord 24 [some (vR (5, 0, 0)), some (vR (20, wr0, 0)), none] [] hp _
    refine Ex.go 1 (pc' := 25) (ls' := [some (vR (5, 0, 0)), some (vR (20, wr0, 0)), none]) (st' := [vI 0]) (hp' := hp) (fun _ => rfl) ?_
    cases h
    exact Ex.ret rfl rfl rfl
def fX5_fail_12 (hp : HP) : Option HP := some (up hp (5, 0, 0) 8 (hp (5, 0, 0) 5))
theorem exX5_fail_12 {d : Nat} {j1 : Option VL} {hp : HP} {v : HP} (h : fX5_fail_12 hp = some v) : Ex (d + 0) kX5_fail 12 [some (vR (5, 0, 0)), j1] [] hp (rsV () v) := by
  replace h : (some (up hp (5, 0, 0) 8 (hp (5, 0, 0) 5))) = some v := h
  refine Ex.go 4 (pc' := 20) (ls' := [some (vR (5, 0, 0)), j1]) (st' := []) (hp' := (up hp (5, 0, 0) 8 (hp (5, 0, 0) 5))) (fun _ => rfl) ?_
  cases h
  exact Ex.ret rfl rfl rfl
def fX5_fail (a0 : Int32) (hp : HP) : Option HP := if (hp (5, 0, 0) 7) = 0 then (fX5_fail_12 (up hp (5, 0, 0) 7 a0)) else (some hp)
theorem exX5_fail {d : Nat} {a0 : Int32} {hp : HP} {v : HP} (h : fX5_fail a0 hp = some v) : Calls (d + 0) 72 [vR (5, 0, 0), vI a0] hp (rsV () v) := by
  replace h : (if (hp (5, 0, 0) 7) = 0 then (fX5_fail_12 (up hp (5, 0, 0) 7 a0)) else (some hp)) = some v := h
  show Ex (d + 0) kX5_fail 0 [some (vR (5, 0, 0)), some (vI a0)] [] hp _
  refine Ex.go 2 (pc' := 4) (ls' := [some (vR (5, 0, 0)), some (vI a0)]) (st' := [vI (hp (5, 0, 0) 7)]) (hp' := hp) (fun _ => rfl) ?_
  refine Ex.ifc rfl ?_
  by_cases hc : (hp (5, 0, 0) 7) = 0
  · rw [if_pos hc] at h
    rw [brI_ne_p hc]
    show Ex (d + 0) kX5_fail 7 [some (vR (5, 0, 0)), some (vI a0)] [] hp _
    refine Ex.go 3 (pc' := 12) (ls' := [some (vR (5, 0, 0)), some (vI a0)]) (st' := []) (hp' := (up hp (5, 0, 0) 7 a0)) (fun _ => rfl) ?_
    exact exX5_fail_12 h
  · rw [if_neg hc] at h
    rw [brI_ne_n hc]
    show Ex (d + 0) kX5_fail 20 [some (vR (5, 0, 0)), some (vI a0)] [] hp _
    cases h
    exact Ex.ret rfl rfl rfl
def fX5_takeWord_13 (hp : HP) : Option HP := (fX5_readToken hp).bind fun hp3 => some hp3
theorem exX5_takeWord_13 {d : Nat} {j1 : Option VL} {hp : HP} {v : HP} (h : fX5_takeWord_13 hp = some v) : Ex (d + 6) kX5_takeWord 13 [some (vR (5, 0, 0)), j1] [] hp (rsV () v) := by
  replace h : ((fX5_readToken hp).bind fun hp3 => some hp3) = some v := h
  refine Ex.go 1 (pc' := 14) (ls' := [some (vR (5, 0, 0)), j1]) (st' := [vR (5, 0, 0)]) (hp' := hp) (fun _ => rfl) ?_
  obtain ⟨hp3, hv, h⟩ := Option.bind_eq_some_iff.mp h
  refine Ex.call (args := [vR (5, 0, 0)]) (rest := []) rfl rfl rfl (exX5_readToken (d := d + 3) hv) ?_
  show Ex (d + 6) kX5_takeWord 17 [some (vR (5, 0, 0)), j1] [] hp3 _
  cases h
  exact Ex.ret rfl rfl rfl
def fX5_takeWord (wr0 : Nat) (hp : HP) : Option HP := (fX5_isWord wr0 hp).bind fun v4 => if v4 = 0 then ((fX5_fail 1 hp).bind fun hp7 => fX5_takeWord_13 hp7) else (fX5_takeWord_13 hp)
theorem exX5_takeWord {d : Nat} {wr0 : Nat} {hp : HP} {v : HP} (h : fX5_takeWord wr0 hp = some v) : Calls (d + 6) 69 [vR (5, 0, 0), vR (20, wr0, 0)] hp (rsV () v) := by
  replace h : ((fX5_isWord wr0 hp).bind fun v4 => if v4 = 0 then ((fX5_fail 1 hp).bind fun hp7 => fX5_takeWord_13 hp7) else (fX5_takeWord_13 hp)) = some v := h
  show Ex (d + 6) kX5_takeWord 0 [some (vR (5, 0, 0)), some (vR (20, wr0, 0))] [] hp _
  refine Ex.go 2 (pc' := 2) (ls' := [some (vR (5, 0, 0)), some (vR (20, wr0, 0))]) (st' := [vR (20, wr0, 0), vR (5, 0, 0)]) (hp' := hp) (fun _ => rfl) ?_
  obtain ⟨v4, hv, h⟩ := Option.bind_eq_some_iff.mp h
  refine Ex.call (args := [vR (5, 0, 0), vR (20, wr0, 0)]) (rest := []) rfl rfl rfl (exX5_isWord (d := d + 0) hv) ?_
  show Ex (d + 6) kX5_takeWord 5 [some (vR (5, 0, 0)), some (vR (20, wr0, 0))] [vI v4] hp _
  refine Ex.ifc rfl ?_
  by_cases hc : v4 = 0
  · rw [if_pos hc] at h
    rw [brI_ne_p hc]
    show Ex (d + 6) kX5_takeWord 8 [some (vR (5, 0, 0)), some (vR (20, wr0, 0))] [] hp _
    refine Ex.go 2 (pc' := 10) (ls' := [some (vR (5, 0, 0)), some (vR (20, wr0, 0))]) (st' := [vI 1, vR (5, 0, 0)]) (hp' := hp) (fun _ => rfl) ?_
    obtain ⟨hp7, hv, h⟩ := Option.bind_eq_some_iff.mp h
    refine Ex.call (args := [vR (5, 0, 0), vI 1]) (rest := []) rfl rfl rfl (exX5_fail (d := d + 5) hv) ?_
    show Ex (d + 6) kX5_takeWord 13 [some (vR (5, 0, 0)), some (vR (20, wr0, 0))] [] hp7 _
    exact exX5_takeWord_13 h
  · rw [if_neg hc] at h
    rw [brI_ne_n hc]
    show Ex (d + 6) kX5_takeWord 13 [some (vR (5, 0, 0)), some (vR (20, wr0, 0))] [] hp _
    exact exX5_takeWord_13 h
end
