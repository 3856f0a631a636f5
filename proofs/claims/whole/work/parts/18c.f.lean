noncomputable section
def fX9_lowest (wr0 : Nat) (mr0 : Nat) (a1 : Int32) (hp : HP) : Option Int32 := if a1 = 0 then (some 10) else (if a1 = 1 then (some 1) else (if a1 = 2 then (some 0) else (if a1 = 3 then ((fX7_at wr0 mr0 2 hp).bind fun v1 => some (v1 + 1)) else (if a1 = 4 then (some 0) else (if a1 = 5 then (some 1) else (if a1 = 6 then (some 1) else (if a1 = 7 then (some 0) else (if a1 = 8 then (some 0) else (if a1 = 9 then (some 5) else (if a1 = 10 then (some 1) else (if a1 = 11 then (some 0) else (if a1 = 12 then (some 1) else (some 0)))))))))))))
theorem exX9_lowest {d : Nat} {wr0 : Nat} {mr0 : Nat} {a1 : Int32} {hp : HP} {v : Int32} (h : fX9_lowest wr0 mr0 a1 hp = some v) : Calls (d + 1) 151 [vR (7, wr0, mr0), vI a1] hp (rsI v hp) := by
  replace h : (if a1 = 0 then (some 10) else (if a1 = 1 then (some 1) else (if a1 = 2 then (some 0) else (if a1 = 3 then ((fX7_at wr0 mr0 2 hp).bind fun v1 => some (v1 + 1)) else (if a1 = 4 then (some 0) else (if a1 = 5 then (some 1) else (if a1 = 6 then (some 1) else (if a1 = 7 then (some 0) else (if a1 = 8 then (some 0) else (if a1 = 9 then (some 5) else (if a1 = 10 then (some 1) else (if a1 = 11 then (some 0) else (if a1 = 12 then (some 1) else (some 0)))))))))))))) = some v := h
  show Ex (d + 1) kX9_lowest 0 [some (vR (7, wr0, mr0)), some (vI a1)] [] hp _
  refine Ex.go 1 (pc' := 1) (ls' := [some (vR (7, wr0, mr0)), some (vI a1)]) (st' := [vI a1]) (hp' := hp) (fun _ => rfl) ?_
  refine Ex.tsw rfl ?_
  refine sw_c (k := 0) rfl (fun hc => ?_) (fun hc => ?_)
  · rw [if_pos hc] at h
    show Ex (d + 1) kX9_lowest 68 [some (vR (7, wr0, mr0)), some (vI a1)] [] hp _
    refine Ex.go 1 (pc' := 70) (ls' := [some (vR (7, wr0, mr0)), some (vI a1)]) (st' := [vI 10]) (hp' := hp) (fun _ => rfl) ?_
    cases h
    exact Ex.ret rfl rfl rfl
  rw [if_neg hc] at h
  refine sw_c (k := 1) rfl (fun hc => ?_) (fun hc => ?_)
  · rw [if_pos hc] at h
    show Ex (d + 1) kX9_lowest 81 [some (vR (7, wr0, mr0)), some (vI a1)] [] hp _
    refine Ex.go 1 (pc' := 82) (ls' := [some (vR (7, wr0, mr0)), some (vI a1)]) (st' := [vI 1]) (hp' := hp) (fun _ => rfl) ?_
    cases h
    exact Ex.ret rfl rfl rfl
  rw [if_neg hc] at h
  refine sw_c (k := 2) rfl (fun hc => ?_) (fun hc => ?_)
  · rw [if_pos hc] at h
    show Ex (d + 1) kX9_lowest 83 [some (vR (7, wr0, mr0)), some (vI a1)] [] hp _
    refine Ex.go 1 (pc' := 84) (ls' := [some (vR (7, wr0, mr0)), some (vI a1)]) (st' := [vI 0]) (hp' := hp) (fun _ => rfl) ?_
    cases h
    exact Ex.ret rfl rfl rfl
  rw [if_neg hc] at h
  refine sw_c (k := 3) rfl (fun hc => ?_) (fun hc => ?_)
  · rw [if_pos hc] at h
    show Ex (d + 1) kX9_lowest 71 [some (vR (7, wr0, mr0)), some (vI a1)] [] hp _
    refine Ex.go 2 (pc' := 73) (ls' := [some (vR (7, wr0, mr0)), some (vI a1)]) (st' := [vI 2, vR (7, wr0, mr0)]) (hp' := hp) (fun _ => rfl) ?_
    obtain ⟨v2, hv, h⟩ := Option.bind_eq_some_iff.mp h
    refine Ex.call (args := [vR (7, wr0, mr0), vI 2]) (rest := []) rfl rfl rfl (exX7_at (d := d + 0) hv) ?_
    show Ex (d + 1) kX9_lowest 76 [some (vR (7, wr0, mr0)), some (vI a1)] [vI v2] hp _
    refine Ex.go 2 (pc' := 78) (ls' := [some (vR (7, wr0, mr0)), some (vI a1)]) (st' := [vI (v2 + 1)]) (hp' := hp) (fun _ => rfl) ?_
    cases h
    exact Ex.ret rfl rfl rfl
  rw [if_neg hc] at h
  refine sw_c (k := 4) rfl (fun hc => ?_) (fun hc => ?_)
  · rw [if_pos hc] at h
    show Ex (d + 1) kX9_lowest 83 [some (vR (7, wr0, mr0)), some (vI a1)] [] hp _
    refine Ex.go 1 (pc' := 84) (ls' := [some (vR (7, wr0, mr0)), some (vI a1)]) (st' := [vI 0]) (hp' := hp) (fun _ => rfl) ?_
    cases h
    exact Ex.ret rfl rfl rfl
  rw [if_neg hc] at h
  refine sw_c (k := 5) rfl (fun hc => ?_) (fun hc => ?_)
  · rw [if_pos hc] at h
    show Ex (d + 1) kX9_lowest 81 [some (vR (7, wr0, mr0)), some (vI a1)] [] hp _
    refine Ex.go 1 (pc' := 82) (ls' := [some (vR (7, wr0, mr0)), some (vI a1)]) (st' := [vI 1]) (hp' := hp) (fun _ => rfl) ?_
    cases h
    exact Ex.ret rfl rfl rfl
  rw [if_neg hc] at h
  refine sw_c (k := 6) rfl (fun hc => ?_) (fun hc => ?_)
  · rw [if_pos hc] at h
    show Ex (d + 1) kX9_lowest 81 [some (vR (7, wr0, mr0)), some (vI a1)] [] hp _
    refine Ex.go 1 (pc' := 82) (ls' := [some (vR (7, wr0, mr0)), some (vI a1)]) (st' := [vI 1]) (hp' := hp) (fun _ => rfl) ?_
    cases h
    exact Ex.ret rfl rfl rfl
  rw [if_neg hc] at h
  refine sw_c (k := 7) rfl (fun hc => ?_) (fun hc => ?_)
  · rw [if_pos hc] at h
    show Ex (d + 1) kX9_lowest 83 [some (vR (7, wr0, mr0)), some (vI a1)] [] hp _
    refine Ex.go 1 (pc' := 84) (ls' := [some (vR (7, wr0, mr0)), some (vI a1)]) (st' := [vI 0]) (hp' := hp) (fun _ => rfl) ?_
    cases h
    exact Ex.ret rfl rfl rfl
  rw [if_neg hc] at h
  refine sw_c (k := 8) rfl (fun hc => ?_) (fun hc => ?_)
  · rw [if_pos hc] at h
    show Ex (d + 1) kX9_lowest 83 [some (vR (7, wr0, mr0)), some (vI a1)] [] hp _
    refine Ex.go 1 (pc' := 84) (ls' := [some (vR (7, wr0, mr0)), some (vI a1)]) (st' := [vI 0]) (hp' := hp) (fun _ => rfl) ?_
    cases h
    exact Ex.ret rfl rfl rfl
  rw [if_neg hc] at h
  refine sw_c (k := 9) rfl (fun hc => ?_) (fun hc => ?_)
  · rw [if_pos hc] at h
    show Ex (d + 1) kX9_lowest 79 [some (vR (7, wr0, mr0)), some (vI a1)] [] hp _
    refine Ex.go 1 (pc' := 80) (ls' := [some (vR (7, wr0, mr0)), some (vI a1)]) (st' := [vI 5]) (hp' := hp) (fun _ => rfl) ?_
    cases h
    exact Ex.ret rfl rfl rfl
  rw [if_neg hc] at h
  refine sw_c (k := 10) rfl (fun hc => ?_) (fun hc => ?_)
  · rw [if_pos hc] at h
    show Ex (d + 1) kX9_lowest 81 [some (vR (7, wr0, mr0)), some (vI a1)] [] hp _
    refine Ex.go 1 (pc' := 82) (ls' := [some (vR (7, wr0, mr0)), some (vI a1)]) (st' := [vI 1]) (hp' := hp) (fun _ => rfl) ?_
    cases h
    exact Ex.ret rfl rfl rfl
  rw [if_neg hc] at h
  refine sw_c (k := 11) rfl (fun hc => ?_) (fun hc => ?_)
  · rw [if_pos hc] at h
    show Ex (d + 1) kX9_lowest 83 [some (vR (7, wr0, mr0)), some (vI a1)] [] hp _
    refine Ex.go 1 (pc' := 84) (ls' := [some (vR (7, wr0, mr0)), some (vI a1)]) (st' := [vI 0]) (hp' := hp) (fun _ => rfl) ?_
    cases h
    exact Ex.ret rfl rfl rfl
  rw [if_neg hc] at h
  refine sw_c (k := 12) rfl (fun hc => ?_) (fun hc => ?_)
  · rw [if_pos hc] at h
    show Ex (d + 1) kX9_lowest 81 [some (vR (7, wr0, mr0)), some (vI a1)] [] hp _
    refine Ex.go 1 (pc' := 82) (ls' := [some (vR (7, wr0, mr0)), some (vI a1)]) (st' := [vI 1]) (hp' := hp) (fun _ => rfl) ?_
    cases h
    exact Ex.ret rfl rfl rfl
  rw [if_neg hc] at h
  show Ex (d + 1) kX9_lowest 83 [some (vR (7, wr0, mr0)), some (vI a1)] [] hp _
  refine Ex.go 1 (pc' := 84) (ls' := [some (vR (7, wr0, mr0)), some (vI a1)]) (st' := [vI 0]) (hp' := hp) (fun _ => rfl) ?_
  cases h
  exact Ex.ret rfl rfl rfl
def fX9_highest (wr0 : Nat) (mr0 : Nat) (a1 : Int32) (hp : HP) : Option Int32 := if a1 = 0 then (some 40) else (if a1 = 1 then (some 12) else (if a1 = 2 then ((fX7_at wr0 mr0 0 hp).bind fun v4 => some (v4 - 2)) else (if a1 = 3 then ((fX7_at wr0 mr0 0 hp).bind fun v3 => some (v3 - 1)) else (if a1 = 4 then ((fX7_at wr0 mr0 3 hp).bind fun v1 => (fX7_at wr0 mr0 2 hp).bind fun v2 => some (v1 - v2)) else (if a1 = 5 then (some 999) else (if a1 = 6 then (some 99) else (if a1 = 7 then (some 99) else (if a1 = 8 then (some 99) else (if a1 = 9 then (some 60) else (if a1 = 10 then (some 9) else (if a1 = 11 then (some 3) else (if a1 = 12 then (some 3) else (some 99)))))))))))))
theorem exX9_highest {d : Nat} {wr0 : Nat} {mr0 : Nat} {a1 : Int32} {hp : HP} {v : Int32} (h : fX9_highest wr0 mr0 a1 hp = some v) : Calls (d + 1) 152 [vR (7, wr0, mr0), vI a1] hp (rsI v hp) := by
  replace h : (if a1 = 0 then (some 40) else (if a1 = 1 then (some 12) else (if a1 = 2 then ((fX7_at wr0 mr0 0 hp).bind fun v4 => some (v4 - 2)) else (if a1 = 3 then ((fX7_at wr0 mr0 0 hp).bind fun v3 => some (v3 - 1)) else (if a1 = 4 then ((fX7_at wr0 mr0 3 hp).bind fun v1 => (fX7_at wr0 mr0 2 hp).bind fun v2 => some (v1 - v2)) else (if a1 = 5 then (some 999) else (if a1 = 6 then (some 99) else (if a1 = 7 then (some 99) else (if a1 = 8 then (some 99) else (if a1 = 9 then (some 60) else (if a1 = 10 then (some 9) else (if a1 = 11 then (some 3) else (if a1 = 12 then (some 3) else (some 99)))))))))))))) = some v := h
  show Ex (d + 1) kX9_highest 0 [some (vR (7, wr0, mr0)), some (vI a1)] [] hp _
  refine Ex.go 1 (pc' := 1) (ls' := [some (vR (7, wr0, mr0)), some (vI a1)]) (st' := [vI a1]) (hp' := hp) (fun _ => rfl) ?_
  refine Ex.tsw rfl ?_
  refine sw_c (k := 0) rfl (fun hc => ?_) (fun hc => ?_)
  · rw [if_pos hc] at h
    show Ex (d + 1) kX9_highest 68 [some (vR (7, wr0, mr0)), some (vI a1)] [] hp _
    refine Ex.go 1 (pc' := 70) (ls' := [some (vR (7, wr0, mr0)), some (vI a1)]) (st' := [vI 40]) (hp' := hp) (fun _ => rfl) ?_
    cases h
    exact Ex.ret rfl rfl rfl
  rw [if_neg hc] at h
  refine sw_c (k := 1) rfl (fun hc => ?_) (fun hc => ?_)
  · rw [if_pos hc] at h
    show Ex (d + 1) kX9_highest 71 [some (vR (7, wr0, mr0)), some (vI a1)] [] hp _
    refine Ex.go 1 (pc' := 73) (ls' := [some (vR (7, wr0, mr0)), some (vI a1)]) (st' := [vI 12]) (hp' := hp) (fun _ => rfl) ?_
    cases h
    exact Ex.ret rfl rfl rfl
  rw [if_neg hc] at h
  refine sw_c (k := 2) rfl (fun hc => ?_) (fun hc => ?_)
  · rw [if_pos hc] at h
    show Ex (d + 1) kX9_highest 74 [some (vR (7, wr0, mr0)), some (vI a1)] [] hp _
    refine Ex.go 2 (pc' := 76) (ls' := [some (vR (7, wr0, mr0)), some (vI a1)]) (st' := [vI 0, vR (7, wr0, mr0)]) (hp' := hp) (fun _ => rfl) ?_
    obtain ⟨v5, hv, h⟩ := Option.bind_eq_some_iff.mp h
    refine Ex.call (args := [vR (7, wr0, mr0), vI 0]) (rest := []) rfl rfl rfl (exX7_at (d := d + 0) hv) ?_
    show Ex (d + 1) kX9_highest 79 [some (vR (7, wr0, mr0)), some (vI a1)] [vI v5] hp _
    refine Ex.go 2 (pc' := 81) (ls' := [some (vR (7, wr0, mr0)), some (vI a1)]) (st' := [vI (v5 - 2)]) (hp' := hp) (fun _ => rfl) ?_
    cases h
    exact Ex.ret rfl rfl rfl
  rw [if_neg hc] at h
  refine sw_c (k := 3) rfl (fun hc => ?_) (fun hc => ?_)
  · rw [if_pos hc] at h
    show Ex (d + 1) kX9_highest 82 [some (vR (7, wr0, mr0)), some (vI a1)] [] hp _
    refine Ex.go 2 (pc' := 84) (ls' := [some (vR (7, wr0, mr0)), some (vI a1)]) (st' := [vI 0, vR (7, wr0, mr0)]) (hp' := hp) (fun _ => rfl) ?_
    obtain ⟨v6, hv, h⟩ := Option.bind_eq_some_iff.mp h
    refine Ex.call (args := [vR (7, wr0, mr0), vI 0]) (rest := []) rfl rfl rfl (exX7_at (d := d + 0) hv) ?_
    show Ex (d + 1) kX9_highest 87 [some (vR (7, wr0, mr0)), some (vI a1)] [vI v6] hp _
    refine Ex.go 2 (pc' := 89) (ls' := [some (vR (7, wr0, mr0)), some (vI a1)]) (st' := [vI (v6 - 1)]) (hp' := hp) (fun _ => rfl) ?_
    cases h
    exact Ex.ret rfl rfl rfl
  rw [if_neg hc] at h
  refine sw_c (k := 4) rfl (fun hc => ?_) (fun hc => ?_)
  · rw [if_pos hc] at h
    show Ex (d + 1) kX9_highest 90 [some (vR (7, wr0, mr0)), some (vI a1)] [] hp _
    refine Ex.go 2 (pc' := 92) (ls' := [some (vR (7, wr0, mr0)), some (vI a1)]) (st' := [vI 3, vR (7, wr0, mr0)]) (hp' := hp) (fun _ => rfl) ?_
    obtain ⟨v7, hv, h⟩ := Option.bind_eq_some_iff.mp h
    refine Ex.call (args := [vR (7, wr0, mr0), vI 3]) (rest := []) rfl rfl rfl (exX7_at (d := d + 0) hv) ?_
    show Ex (d + 1) kX9_highest 95 [some (vR (7, wr0, mr0)), some (vI a1)] [vI v7] hp _
    refine Ex.go 2 (pc' := 97) (ls' := [some (vR (7, wr0, mr0)), some (vI a1)]) (st' := [vI 2, vR (7, wr0, mr0), vI v7]) (hp' := hp) (fun _ => rfl) ?_
    obtain ⟨v8, hv, h⟩ := Option.bind_eq_some_iff.mp h
    refine Ex.call (args := [vR (7, wr0, mr0), vI 2]) (rest := [vI v7]) rfl rfl rfl (exX7_at (d := d + 0) hv) ?_
    show Ex (d + 1) kX9_highest 100 [some (vR (7, wr0, mr0)), some (vI a1)] [vI v8, vI v7] hp _
    refine Ex.go 1 (pc' := 101) (ls' := [some (vR (7, wr0, mr0)), some (vI a1)]) (st' := [vI (v7 - v8)]) (hp' := hp) (fun _ => rfl) ?_
    cases h
    exact Ex.ret rfl rfl rfl
  rw [if_neg hc] at h
  refine sw_c (k := 5) rfl (fun hc => ?_) (fun hc => ?_)
  · rw [if_pos hc] at h
    show Ex (d + 1) kX9_highest 102 [some (vR (7, wr0, mr0)), some (vI a1)] [] hp _
    refine Ex.go 1 (pc' := 105) (ls' := [some (vR (7, wr0, mr0)), some (vI a1)]) (st' := [vI 999]) (hp' := hp) (fun _ => rfl) ?_
    cases h
    exact Ex.ret rfl rfl rfl
  rw [if_neg hc] at h
  refine sw_c (k := 6) rfl (fun hc => ?_) (fun hc => ?_)
  · rw [if_pos hc] at h
    show Ex (d + 1) kX9_highest 114 [some (vR (7, wr0, mr0)), some (vI a1)] [] hp _
    refine Ex.go 1 (pc' := 116) (ls' := [some (vR (7, wr0, mr0)), some (vI a1)]) (st' := [vI 99]) (hp' := hp) (fun _ => rfl) ?_
    cases h
    exact Ex.ret rfl rfl rfl
  rw [if_neg hc] at h
  refine sw_c (k := 7) rfl (fun hc => ?_) (fun hc => ?_)
  · rw [if_pos hc] at h
    show Ex (d + 1) kX9_highest 114 [some (vR (7, wr0, mr0)), some (vI a1)] [] hp _
    refine Ex.go 1 (pc' := 116) (ls' := [some (vR (7, wr0, mr0)), some (vI a1)]) (st' := [vI 99]) (hp' := hp) (fun _ => rfl) ?_
    cases h
    exact Ex.ret rfl rfl rfl
  rw [if_neg hc] at h
  refine sw_c (k := 8) rfl (fun hc => ?_) (fun hc => ?_)
  · rw [if_pos hc] at h
    show Ex (d + 1) kX9_highest 114 [some (vR (7, wr0, mr0)), some (vI a1)] [] hp _
    refine Ex.go 1 (pc' := 116) (ls' := [some (vR (7, wr0, mr0)), some (vI a1)]) (st' := [vI 99]) (hp' := hp) (fun _ => rfl) ?_
    cases h
    exact Ex.ret rfl rfl rfl
  rw [if_neg hc] at h
  refine sw_c (k := 9) rfl (fun hc => ?_) (fun hc => ?_)
  · rw [if_pos hc] at h
    show Ex (d + 1) kX9_highest 106 [some (vR (7, wr0, mr0)), some (vI a1)] [] hp _
    refine Ex.go 1 (pc' := 108) (ls' := [some (vR (7, wr0, mr0)), some (vI a1)]) (st' := [vI 60]) (hp' := hp) (fun _ => rfl) ?_
    cases h
    exact Ex.ret rfl rfl rfl
  rw [if_neg hc] at h
  refine sw_c (k := 10) rfl (fun hc => ?_) (fun hc => ?_)
  · rw [if_pos hc] at h
    show Ex (d + 1) kX9_highest 109 [some (vR (7, wr0, mr0)), some (vI a1)] [] hp _
    refine Ex.go 1 (pc' := 111) (ls' := [some (vR (7, wr0, mr0)), some (vI a1)]) (st' := [vI 9]) (hp' := hp) (fun _ => rfl) ?_
    cases h
    exact Ex.ret rfl rfl rfl
  rw [if_neg hc] at h
  refine sw_c (k := 11) rfl (fun hc => ?_) (fun hc => ?_)
  · rw [if_pos hc] at h
    show Ex (d + 1) kX9_highest 112 [some (vR (7, wr0, mr0)), some (vI a1)] [] hp _
    refine Ex.go 1 (pc' := 113) (ls' := [some (vR (7, wr0, mr0)), some (vI a1)]) (st' := [vI 3]) (hp' := hp) (fun _ => rfl) ?_
    cases h
    exact Ex.ret rfl rfl rfl
  rw [if_neg hc] at h
  refine sw_c (k := 12) rfl (fun hc => ?_) (fun hc => ?_)
  · rw [if_pos hc] at h
    show Ex (d + 1) kX9_highest 112 [some (vR (7, wr0, mr0)), some (vI a1)] [] hp _
    refine Ex.go 1 (pc' := 113) (ls' := [some (vR (7, wr0, mr0)), some (vI a1)]) (st' := [vI 3]) (hp' := hp) (fun _ => rfl) ?_
    cases h
    exact Ex.ret rfl rfl rfl
  rw [if_neg hc] at h
  show Ex (d + 1) kX9_highest 114 [some (vR (7, wr0, mr0)), some (vI a1)] [] hp _
  refine Ex.go 1 (pc' := 116) (ls' := [some (vR (7, wr0, mr0)), some (vI a1)]) (st' := [vI 99]) (hp' := hp) (fun _ => rfl) ?_
  cases h
  exact Ex.ret rfl rfl rfl
def fX5_requireNumber_32 (hp : HP) : Option HP := (fX5_fail 2 hp).bind fun hp3 => some hp3
theorem exX5_requireNumber_32 {d : Nat} {j1 : Option VL} {j2 : Option VL} {hp : HP} {v : HP} (h : fX5_requireNumber_32 hp = some v) : Ex (d + 1) kX5_requireNumber 32 [some (vR (5, 0, 0)), j1, j2] [] hp (rsV () v) := by
  replace h : ((fX5_fail 2 hp).bind fun hp3 => some hp3) = some v := h
  refine Ex.go 2 (pc' := 34) (ls' := [some (vR (5, 0, 0)), j1, j2]) (st' := [vI 2, vR (5, 0, 0)]) (hp' := hp) (fun _ => rfl) ?_
  obtain ⟨hp3, hv, h⟩ := Option.bind_eq_some_iff.mp h
  refine Ex.call (args := [vR (5, 0, 0), vI 2]) (rest := []) rfl rfl rfl (exX5_fail (d := d + 0) hv) ?_
  show Ex (d + 1) kX5_requireNumber 37 [some (vR (5, 0, 0)), j1, j2] [] hp3 _
  cases h
  exact Ex.ret rfl rfl rfl
def fX5_requireNumber (a0 : Int32) (a1 : Int32) (hp : HP) : Option HP := if (hp (5, 0, 0) 4) = 2 then (if (hp (5, 0, 0) 6) < a0 then (fX5_requireNumber_32 hp) else (if a1 < (hp (5, 0, 0) 6) then (fX5_requireNumber_32 hp) else (some hp))) else ((fX5_fail 1 hp).bind fun hp6 => some hp6)
theorem exX5_requireNumber {d : Nat} {a0 : Int32} {a1 : Int32} {hp : HP} {v : HP} (h : fX5_requireNumber a0 a1 hp = some v) : Calls (d + 1) 68 [vR (5, 0, 0), vI a0, vI a1] hp (rsV () v) := by
  replace h : (if (hp (5, 0, 0) 4) = 2 then (if (hp (5, 0, 0) 6) < a0 then (fX5_requireNumber_32 hp) else (if a1 < (hp (5, 0, 0) 6) then (fX5_requireNumber_32 hp) else (some hp))) else ((fX5_fail 1 hp).bind fun hp6 => some hp6)) = some v := h
  show Ex (d + 1) kX5_requireNumber 0 [some (vR (5, 0, 0)), some (vI a0), some (vI a1)] [] hp _
  refine Ex.go 3 (pc' := 5) (ls' := [some (vR (5, 0, 0)), some (vI a0), some (vI a1)]) (st' := [vI 2, vI (hp (5, 0, 0) 4)]) (hp' := hp) (fun _ => rfl) ?_
  refine Ex.icmp rfl ?_
  by_cases hc : (hp (5, 0, 0) 4) = 2
  · rw [if_pos hc] at h
    rw [brI_eq_p hc]
    show Ex (d + 1) kX5_requireNumber 16 [some (vR (5, 0, 0)), some (vI a0), some (vI a1)] [] hp _
    refine Ex.go 3 (pc' := 21) (ls' := [some (vR (5, 0, 0)), some (vI a0), some (vI a1)]) (st' := [vI a0, vI (hp (5, 0, 0) 6)]) (hp' := hp) (fun _ => rfl) ?_
    refine Ex.icmp rfl ?_
    by_cases hc : (hp (5, 0, 0) 6) < a0
    · rw [if_pos hc] at h
      rw [brI_lt_p hc]
      show Ex (d + 1) kX5_requireNumber 32 [some (vR (5, 0, 0)), some (vI a0), some (vI a1)] [] hp _
      exact exX5_requireNumber_32 h
    · rw [if_neg hc] at h
      rw [brI_lt_n hc]
      show Ex (d + 1) kX5_requireNumber 24 [some (vR (5, 0, 0)), some (vI a0), some (vI a1)] [] hp _
      refine Ex.go 3 (pc' := 29) (ls' := [some (vR (5, 0, 0)), some (vI a0), some (vI a1)]) (st' := [vI a1, vI (hp (5, 0, 0) 6)]) (hp' := hp) (fun _ => rfl) ?_
      refine Ex.icmp rfl ?_
      by_cases hc : a1 < (hp (5, 0, 0) 6)
      · rw [if_pos hc] at h
        rw [brI_le_p hc]
        show Ex (d + 1) kX5_requireNumber 32 [some (vR (5, 0, 0)), some (vI a0), some (vI a1)] [] hp _
        exact exX5_requireNumber_32 h
      · rw [if_neg hc] at h
        rw [brI_le_n hc]
        show Ex (d + 1) kX5_requireNumber 37 [some (vR (5, 0, 0)), some (vI a0), some (vI a1)] [] hp _
        cases h
        exact Ex.ret rfl rfl rfl
  · rw [if_neg hc] at h
    rw [brI_eq_n hc]
    show Ex (d + 1) kX5_requireNumber 8 [some (vR (5, 0, 0)), some (vI a0), some (vI a1)] [] hp _
    refine Ex.go 2 (pc' := 10) (ls' := [some (vR (5, 0, 0)), some (vI a0), some (vI a1)]) (st' := [vI 1, vR (5, 0, 0)]) (hp' := hp) (fun _ => rfl) ?_
    obtain ⟨hp6, hv, h⟩ := Option.bind_eq_some_iff.mp h
    refine Ex.call (args := [vR (5, 0, 0), vI 1]) (rest := []) rfl rfl rfl (exX5_fail (d := d + 0) hv) ?_
    show Ex (d + 1) kX5_requireNumber 13 [some (vR (5, 0, 0)), some (vI a0), some (vI a1)] [] hp6 _
    refine Ex.go 1 (pc' := 37) (ls' := [some (vR (5, 0, 0)), some (vI a0), some (vI a1)]) (st' := []) (hp' := hp6) (fun _ => rfl) ?_
    cases h
    exact Ex.ret rfl rfl rfl
def fX5_takeNumber (a0 : Int32) (a1 : Int32) (hp : HP) : Option (Int32 × HP) := (fX5_requireNumber a0 a1 hp).bind fun hp3 => (fX5_readToken hp3).bind fun hp6 => some ((hp3 (5, 0, 0) 6), hp6)
theorem exX5_takeNumber {d : Nat} {a0 : Int32} {a1 : Int32} {hp : HP} {v : (Int32 × HP)} (h : fX5_takeNumber a0 a1 hp = some v) : Calls (d + 3) 67 [vR (5, 0, 0), vI a0, vI a1] hp (rsI v.1 v.2) := by
  replace h : ((fX5_requireNumber a0 a1 hp).bind fun hp3 => (fX5_readToken hp3).bind fun hp6 => some ((hp3 (5, 0, 0) 6), hp6)) = some v := h
  show Ex (d + 3) kX5_takeNumber 0 [some (vR (5, 0, 0)), some (vI a0), some (vI a1), none] [] hp _
  refine Ex.go 3 (pc' := 3) (ls' := [some (vR (5, 0, 0)), some (vI a0), some (vI a1), none]) (st' := [vI a1, vI a0, vR (5, 0, 0)]) (hp' := hp) (fun _ => rfl) ?_
  obtain ⟨hp3, hv, h⟩ := Option.bind_eq_some_iff.mp h
  refine Ex.call (args := [vR (5, 0, 0), vI a0, vI a1]) (rest := []) rfl rfl rfl (exX5_requireNumber (d := d + 1) hv) ?_
  show Ex (d + 3) kX5_takeNumber 6 [some (vR (5, 0, 0)), some (vI a0), some (vI a1), none] [] hp3 _
  refine Ex.go 4 (pc' := 12) (ls' := [some (vR (5, 0, 0)), some (vI a0), some (vI a1), some (vI (hp3 (5, 0, 0) 6))]) (st' := [vR (5, 0, 0)]) (hp' := hp3) (fun _ => rfl) ?_
  obtain ⟨hp6, hv, h⟩ := Option.bind_eq_some_iff.mp h
  refine Ex.call (args := [vR (5, 0, 0)]) (rest := []) rfl rfl rfl (exX5_readToken (d := d + 0) hv) ?_
  show Ex (d + 3) kX5_takeNumber 15 [some (vR (5, 0, 0)), some (vI a0), some (vI a1), some (vI (hp3 (5, 0, 0) 6))] [] hp6 _
  refine Ex.go 1 (pc' := 16) (ls' := [some (vR (5, 0, 0)), some (vI a0), some (vI a1), some (vI (hp3 (5, 0, 0) 6))]) (st' := [vI (hp3 (5, 0, 0) 6)]) (hp' := hp6) (fun _ => rfl) ?_
  cases h
  exact Ex.ret rfl rfl rfl
def fX5_takeSettings_2 (n : Nat) (x2 : Int32) (x3 : Int32) (hp : HP) : Option HP := match n with
  | 0 => none
  | n + 1 => if x2 < x3 then (some hp) else ((fX9_lowest 0 1 x3 hp).bind fun v1 => (fX9_highest 0 1 x3 hp).bind fun v2 => (fX5_takeNumber v1 v2 hp).bind fun q4 => (fX7_put 0 1 x3 q4.1 q4.2).bind fun hp7 => fX5_takeSettings_2 n x2 (x3 + 1) hp7)
theorem exX5_takeSettings_2 {d : Nat} : ∀ (n : Nat) (x2 : Int32) (x3 : Int32) (j1 : Option VL) (j4 : Option VL) (j5 : Option VL) (hp : HP) (v : HP), fX5_takeSettings_2 n x2 x3 hp = some v → Ex (d + 4) kX5_takeSettings 2 [some (vR (5, 0, 0)), j1, some (vI x2), some (vI x3), j4, j5] [] hp (rsV () v) := by
  intro n
  induction n with
  | zero =>
    intro x2 x3 j1 j4 j5 hp v h
    cases h
  | succ n ih =>
    intro x2 x3 j1 j4 j5 hp v h
    replace h : (if x2 < x3 then (some hp) else ((fX9_lowest 0 1 x3 hp).bind fun v1 => (fX9_highest 0 1 x3 hp).bind fun v2 => (fX5_takeNumber v1 v2 hp).bind fun q4 => (fX7_put 0 1 x3 q4.1 q4.2).bind fun hp7 => fX5_takeSettings_2 n x2 (x3 + 1) hp7)) = some v := h
    refine Ex.go 2 (pc' := 4) (ls' := [some (vR (5, 0, 0)), j1, some (vI x2), some (vI x3), j4, j5]) (st' := [vI x2, vI x3]) (hp' := hp) (fun _ => rfl) ?_
    refine Ex.icmp rfl ?_
    by_cases hc : x2 < x3
    · rw [if_pos hc] at h
      rw [brI_gt_p hc]
      show Ex (d + 4) kX5_takeSettings 58 [some (vR (5, 0, 0)), j1, some (vI x2), some (vI x3), j4, j5] [] hp _
      cases h
      exact Ex.ret rfl rfl rfl
    · rw [if_neg hc] at h
      rw [brI_gt_n hc]
      show Ex (d + 4) kX5_takeSettings 7 [some (vR (5, 0, 0)), j1, some (vI x2), some (vI x3), j4, j5] [] hp _
      refine Ex.go 4 (pc' := 15) (ls' := [some (vR (5, 0, 0)), j1, some (vI x2), some (vI x3), j4, j5]) (st' := [vI x3, vR (7, 0, 1)]) (hp' := hp) (fun _ => rfl) ?_
      obtain ⟨v1, hv, h⟩ := Option.bind_eq_some_iff.mp h
      refine Ex.call (args := [vR (7, 0, 1), vI x3]) (rest := []) rfl rfl rfl (exX9_lowest (d := d + 2) hv) ?_
      show Ex (d + 4) kX5_takeSettings 18 [some (vR (5, 0, 0)), j1, some (vI x2), some (vI x3), j4, j5] [vI v1] hp _
      refine Ex.go 5 (pc' := 28) (ls' := [some (vR (5, 0, 0)), j1, some (vI x2), some (vI x3), some (vI v1), j5]) (st' := [vI x3, vR (7, 0, 1)]) (hp' := hp) (fun _ => rfl) ?_
      obtain ⟨v2, hv, h⟩ := Option.bind_eq_some_iff.mp h
      refine Ex.call (args := [vR (7, 0, 1), vI x3]) (rest := []) rfl rfl rfl (exX9_highest (d := d + 2) hv) ?_
      show Ex (d + 4) kX5_takeSettings 31 [some (vR (5, 0, 0)), j1, some (vI x2), some (vI x3), some (vI v1), j5] [vI v2] hp _
      refine Ex.go 8 (pc' := 46) (ls' := [some (vR (5, 0, 0)), j1, some (vI x2), some (vI x3), some (vI v1), some (vI v2)]) (st' := [vI v2, vI v1, vR (5, 0, 0), vI x3, vR (7, 0, 1)]) (hp' := hp) (fun _ => rfl) ?_
      obtain ⟨q4, hv, h⟩ := Option.bind_eq_some_iff.mp h
      refine Ex.call (args := [vR (5, 0, 0), vI v1, vI v2]) (rest := [vI x3, vR (7, 0, 1)]) rfl rfl rfl (exX5_takeNumber (d := d + 0) hv) ?_
      show Ex (d + 4) kX5_takeSettings 49 [some (vR (5, 0, 0)), j1, some (vI x2), some (vI x3), some (vI v1), some (vI v2)] [vI q4.1, vI x3, vR (7, 0, 1)] q4.2 _
      obtain ⟨hp7, hv, h⟩ := Option.bind_eq_some_iff.mp h
      refine Ex.call (args := [vR (7, 0, 1), vI x3, vI q4.1]) (rest := []) rfl rfl rfl (exX7_put (d := d + 3) hv) ?_
      show Ex (d + 4) kX5_takeSettings 52 [some (vR (5, 0, 0)), j1, some (vI x2), some (vI x3), some (vI v1), some (vI v2)] [] hp7 _
      refine Ex.go 2 (pc' := 2) (ls' := [some (vR (5, 0, 0)), j1, some (vI x2), some (vI (x3 + 1)), some (vI v1), some (vI v2)]) (st' := []) (hp' := hp7) (fun _ => rfl) ?_
      exact ih _ _ _ _ _ _ _ h
def fX5_takeSettings (a0 : Int32) (a1 : Int32) (hp : HP) : Option HP := fX5_takeSettings_2 FU a1 a0 hp
theorem exX5_takeSettings {d : Nat} {a0 : Int32} {a1 : Int32} {hp : HP} {v : HP} (h : fX5_takeSettings a0 a1 hp = some v) : Calls (d + 4) 66 [vR (5, 0, 0), vI a0, vI a1] hp (rsV () v) := by
  replace h : (fX5_takeSettings_2 FU a1 a0 hp) = some v := h
  show Ex (d + 4) kX5_takeSettings 0 [some (vR (5, 0, 0)), some (vI a0), some (vI a1), none, none, none] [] hp _
  refine Ex.go 2 (pc' := 2) (ls' := [some (vR (5, 0, 0)), some (vI a0), some (vI a1), some (vI a0), none, none]) (st' := []) (hp' := hp) (fun _ => rfl) ?_
  exact exX5_takeSettings_2 FU _ _ _ _ _ _ _ h
def fX5_takeSemicolon_13 (hp : HP) : Option HP := (fX5_readToken hp).bind fun hp3 => some hp3
theorem exX5_takeSemicolon_13 {d : Nat} {hp : HP} {v : HP} (h : fX5_takeSemicolon_13 hp = some v) : Ex (d + 3) kX5_takeSemicolon 13 [some (vR (5, 0, 0))] [] hp (rsV () v) := by
  replace h : ((fX5_readToken hp).bind fun hp3 => some hp3) = some v := h
  refine Ex.go 1 (pc' := 14) (ls' := [some (vR (5, 0, 0))]) (st' := [vR (5, 0, 0)]) (hp' := hp) (fun _ => rfl) ?_
  obtain ⟨hp3, hv, h⟩ := Option.bind_eq_some_iff.mp h
  refine Ex.call (args := [vR (5, 0, 0)]) (rest := []) rfl rfl rfl (exX5_readToken (d := d + 0) hv) ?_
  show Ex (d + 3) kX5_takeSemicolon 17 [some (vR (5, 0, 0))] [] hp3 _
  cases h
  exact Ex.ret rfl rfl rfl
def fX5_takeSemicolon (hp : HP) : Option HP := if (hp (5, 0, 0) 4) = 3 then (fX5_takeSemicolon_13 hp) else ((fX5_fail 1 hp).bind fun hp6 => fX5_takeSemicolon_13 hp6)
theorem exX5_takeSemicolon {d : Nat} {hp : HP} {v : HP} (h : fX5_takeSemicolon hp = some v) : Calls (d + 3) 70 [vR (5, 0, 0)] hp (rsV () v) := by
  replace h : (if (hp (5, 0, 0) 4) = 3 then (fX5_takeSemicolon_13 hp) else ((fX5_fail 1 hp).bind fun hp6 => fX5_takeSemicolon_13 hp6)) = some v := h
  show Ex (d + 3) kX5_takeSemicolon 0 [some (vR (5, 0, 0))] [] hp _
  refine Ex.go 3 (pc' := 5) (ls' := [some (vR (5, 0, 0))]) (st' := [vI 3, vI (hp (5, 0, 0) 4)]) (hp' := hp) (fun _ => rfl) ?_
  refine Ex.icmp rfl ?_
  by_cases hc : (hp (5, 0, 0) 4) = 3
  · rw [if_pos hc] at h
    rw [brI_eq_p hc]
    show Ex (d + 3) kX5_takeSemicolon 13 [some (vR (5, 0, 0))] [] hp _
    exact exX5_takeSemicolon_13 h
  · rw [if_neg hc] at h
    rw [brI_eq_n hc]
    show Ex (d + 3) kX5_takeSemicolon 8 [some (vR (5, 0, 0))] [] hp _
    refine Ex.go 2 (pc' := 10) (ls' := [some (vR (5, 0, 0))]) (st' := [vI 1, vR (5, 0, 0)]) (hp' := hp) (fun _ => rfl) ?_
    obtain ⟨hp6, hv, h⟩ := Option.bind_eq_some_iff.mp h
    refine Ex.call (args := [vR (5, 0, 0), vI 1]) (rest := []) rfl rfl rfl (exX5_fail (d := d + 2) hv) ?_
    show Ex (d + 3) kX5_takeSemicolon 13 [some (vR (5, 0, 0))] [] hp6 _
    exact exX5_takeSemicolon_13 h
def fX5_takeBar_75 (x2 : Int32) (hp : HP) : Option HP := (fX5_readToken hp).bind fun hp3 => (fX5_takeNumber 0 180 hp3).bind fun q5 => (fX0_add 1 x2 q5.1 q5.2).bind fun hp8 => some hp8
theorem exX5_takeBar_75 {d : Nat} {x2 : Int32} {j1 : Option VL} {j3 : Option VL} {hp : HP} {v : HP} (h : fX5_takeBar_75 x2 hp = some v) : Ex (d + 4) kX5_takeBar 75 [some (vR (5, 0, 0)), j1, some (vI x2), j3] [] hp (rsV () v) := by
  replace h : ((fX5_readToken hp).bind fun hp3 => (fX5_takeNumber 0 180 hp3).bind fun q5 => (fX0_add 1 x2 q5.1 q5.2).bind fun hp8 => some hp8) = some v := h
  refine Ex.go 1 (pc' := 76) (ls' := [some (vR (5, 0, 0)), j1, some (vI x2), j3]) (st' := [vR (5, 0, 0)]) (hp' := hp) (fun _ => rfl) ?_
  obtain ⟨hp3, hv, h⟩ := Option.bind_eq_some_iff.mp h
  refine Ex.call (args := [vR (5, 0, 0)]) (rest := []) rfl rfl rfl (exX5_readToken (d := d + 1) hv) ?_
  show Ex (d + 4) kX5_takeBar 79 [some (vR (5, 0, 0)), j1, some (vI x2), j3] [] hp3 _
  refine Ex.go 3 (pc' := 84) (ls' := [some (vR (5, 0, 0)), j1, some (vI x2), j3]) (st' := [vI 180, vI 0, vR (5, 0, 0)]) (hp' := hp3) (fun _ => rfl) ?_
  obtain ⟨q5, hv, h⟩ := Option.bind_eq_some_iff.mp h
  refine Ex.call (args := [vR (5, 0, 0), vI 0, vI 180]) (rest := []) rfl rfl rfl (exX5_takeNumber (d := d + 0) hv) ?_
  show Ex (d + 4) kX5_takeBar 87 [some (vR (5, 0, 0)), j1, some (vI x2), j3] [vI q5.1] q5.2 _
  refine Ex.go 6 (pc' := 97) (ls' := [some (vR (5, 0, 0)), j1, some (vI x2), some (vI q5.1)]) (st' := [vI q5.1, vI x2, vR (0, 0, 1)]) (hp' := q5.2) (fun _ => rfl) ?_
  obtain ⟨hp8, hv, h⟩ := Option.bind_eq_some_iff.mp h
  refine Ex.call (args := [vR (0, 0, 1), vI x2, vI q5.1]) (rest := []) rfl rfl rfl (exX0_add (d := d + 2) hv) ?_
  show Ex (d + 4) kX5_takeBar 100 [some (vR (5, 0, 0)), j1, some (vI x2), some (vI q5.1)] [] hp8 _
  cases h
  exact Ex.ret rfl rfl rfl
def fX5_takeBar_30 (y0 : Int32) (hp : HP) : Option HP := (fX7_at 10 0 (hp (5, 0, 0) 5) hp).bind fun v9 => if y0 = 0 then ((fX5_fail 1 hp).bind fun hp16 => fX5_takeBar_75 v9 hp16) else ((fX0_withLetter 1 v9 hp).bind fun v10 => if v10 = m1 then (fX5_takeBar_75 v9 hp) else ((fX5_fail 3 hp).bind fun hp13 => fX5_takeBar_75 v9 hp13))
theorem exX5_takeBar_30 {d : Nat} {y0 : Int32} {j1 : Option VL} {j2 : Option VL} {j3 : Option VL} {hp : HP} {v : HP} (h : fX5_takeBar_30 y0 hp = some v) : Ex (d + 4) kX5_takeBar 30 [some (vR (5, 0, 0)), j1, j2, j3] [vI y0] hp (rsV () v) := by
  replace h : ((fX7_at 10 0 (hp (5, 0, 0) 5) hp).bind fun v9 => if y0 = 0 then ((fX5_fail 1 hp).bind fun hp16 => fX5_takeBar_75 v9 hp16) else ((fX0_withLetter 1 v9 hp).bind fun v10 => if v10 = m1 then (fX5_takeBar_75 v9 hp) else ((fX5_fail 3 hp).bind fun hp13 => fX5_takeBar_75 v9 hp13))) = some v := h
  refine Ex.go 5 (pc' := 39) (ls' := [some (vR (5, 0, 0)), some (vI y0), j2, j3]) (st' := [vI (hp (5, 0, 0) 5), vR (7, 10, 0)]) (hp' := hp) (fun _ => rfl) ?_
  obtain ⟨v9, hv, h⟩ := Option.bind_eq_some_iff.mp h
  refine Ex.call (args := [vR (7, 10, 0), vI (hp (5, 0, 0) 5)]) (rest := []) rfl rfl rfl (exX7_at (d := d + 3) hv) ?_
  show Ex (d + 4) kX5_takeBar 42 [some (vR (5, 0, 0)), some (vI y0), j2, j3] [vI v9] hp _
  refine Ex.go 2 (pc' := 44) (ls' := [some (vR (5, 0, 0)), some (vI y0), some (vI v9), j3]) (st' := [vI y0]) (hp' := hp) (fun _ => rfl) ?_
  refine Ex.ifc rfl ?_
  by_cases hc : y0 = 0
  · rw [if_pos hc] at h
    rw [brI_ne_p hc]
    show Ex (d + 4) kX5_takeBar 47 [some (vR (5, 0, 0)), some (vI y0), some (vI v9), j3] [] hp _
    refine Ex.go 2 (pc' := 49) (ls' := [some (vR (5, 0, 0)), some (vI y0), some (vI v9), j3]) (st' := [vI 1, vR (5, 0, 0)]) (hp' := hp) (fun _ => rfl) ?_
    obtain ⟨hp16, hv, h⟩ := Option.bind_eq_some_iff.mp h
    refine Ex.call (args := [vR (5, 0, 0), vI 1]) (rest := []) rfl rfl rfl (exX5_fail (d := d + 3) hv) ?_
    show Ex (d + 4) kX5_takeBar 52 [some (vR (5, 0, 0)), some (vI y0), some (vI v9), j3] [] hp16 _
    refine Ex.go 1 (pc' := 75) (ls' := [some (vR (5, 0, 0)), some (vI y0), some (vI v9), j3]) (st' := []) (hp' := hp16) (fun _ => rfl) ?_
    exact exX5_takeBar_75 h
  · rw [if_neg hc] at h
    rw [brI_ne_n hc]
    show Ex (d + 4) kX5_takeBar 55 [some (vR (5, 0, 0)), some (vI y0), some (vI v9), j3] [] hp _
    refine Ex.go 4 (pc' := 63) (ls' := [some (vR (5, 0, 0)), some (vI y0), some (vI v9), j3]) (st' := [vI v9, vR (0, 0, 1)]) (hp' := hp) (fun _ => rfl) ?_
    obtain ⟨v10, hv, h⟩ := Option.bind_eq_some_iff.mp h
    refine Ex.call (args := [vR (0, 0, 1), vI v9]) (rest := []) rfl rfl rfl (exX0_withLetter (d := d + 2) hv) ?_
    show Ex (d + 4) kX5_takeBar 66 [some (vR (5, 0, 0)), some (vI y0), some (vI v9), j3] [vI v10] hp _
    refine Ex.go 1 (pc' := 67) (ls' := [some (vR (5, 0, 0)), some (vI y0), some (vI v9), j3]) (st' := [vI m1, vI v10]) (hp' := hp) (fun _ => rfl) ?_
    refine Ex.icmp rfl ?_
    by_cases hc : v10 = m1
    · rw [if_pos hc] at h
      rw [brI_eq_p hc]
      show Ex (d + 4) kX5_takeBar 75 [some (vR (5, 0, 0)), some (vI y0), some (vI v9), j3] [] hp _
      exact exX5_takeBar_75 h
    · rw [if_neg hc] at h
      rw [brI_eq_n hc]
      show Ex (d + 4) kX5_takeBar 70 [some (vR (5, 0, 0)), some (vI y0), some (vI v9), j3] [] hp _
      refine Ex.go 2 (pc' := 72) (ls' := [some (vR (5, 0, 0)), some (vI y0), some (vI v9), j3]) (st' := [vI 3, vR (5, 0, 0)]) (hp' := hp) (fun _ => rfl) ?_
      obtain ⟨hp13, hv, h⟩ := Option.bind_eq_some_iff.mp h
      refine Ex.call (args := [vR (5, 0, 0), vI 3]) (rest := []) rfl rfl rfl (exX5_fail (d := d + 3) hv) ?_
      show Ex (d + 4) kX5_takeBar 75 [some (vR (5, 0, 0)), some (vI y0), some (vI v9), j3] [] hp13 _
      exact exX5_takeBar_75 h
def fX5_takeBar_29 (hp : HP) : Option HP := fX5_takeBar_30 0 hp
theorem exX5_takeBar_29 {d : Nat} {j1 : Option VL} {j2 : Option VL} {j3 : Option VL} {hp : HP} {v : HP} (h : fX5_takeBar_29 hp = some v) : Ex (d + 4) kX5_takeBar 29 [some (vR (5, 0, 0)), j1, j2, j3] [] hp (rsV () v) := by
  replace h : (fX5_takeBar_30 0 hp) = some v := h
  refine Ex.go 1 (pc' := 30) (ls' := [some (vR (5, 0, 0)), j1, j2, j3]) (st' := [vI 0]) (hp' := hp) (fun _ => rfl) ?_
  exact exX5_takeBar_30 h
def fX5_takeBar (hp : HP) : Option HP := (fX5_readToken hp).bind fun hp19 => if (hp19 (5, 0, 0) 4) = 1 then (if ((hp19 (5, 0, 0) 3) - (hp19 (5, 0, 0) 5)) = 1 then (fX5_takeBar_30 1 hp19) else (fX5_takeBar_29 hp19)) else (fX5_takeBar_29 hp19)
theorem exX5_takeBar {d : Nat} {hp : HP} {v : HP} (h : fX5_takeBar hp = some v) : Calls (d + 4) 64 [vR (5, 0, 0)] hp (rsV () v) := by
  replace h : ((fX5_readToken hp).bind fun hp19 => if (hp19 (5, 0, 0) 4) = 1 then (if ((hp19 (5, 0, 0) 3) - (hp19 (5, 0, 0) 5)) = 1 then (fX5_takeBar_30 1 hp19) else (fX5_takeBar_29 hp19)) else (fX5_takeBar_29 hp19)) = some v := h
  show Ex (d + 4) kX5_takeBar 0 [some (vR (5, 0, 0)), none, none, none] [] hp _
  refine Ex.go 1 (pc' := 1) (ls' := [some (vR (5, 0, 0)), none, none, none]) (st' := [vR (5, 0, 0)]) (hp' := hp) (fun _ => rfl) ?_
  obtain ⟨hp19, hv, h⟩ := Option.bind_eq_some_iff.mp h
  refine Ex.call (args := [vR (5, 0, 0)]) (rest := []) rfl rfl rfl (exX5_readToken (d := d + 1) hv) ?_
  show Ex (d + 4) kX5_takeBar 4 [some (vR (5, 0, 0)), none, none, none] [] hp19 _
  refine Ex.go 3 (pc' := 9) (ls' := [some (vR (5, 0, 0)), none, none, none]) (st' := [vI 1, vI (hp19 (5, 0, 0) 4)]) (hp' := hp19) (fun _ => rfl) ?_
  refine Ex.icmp rfl ?_
  by_cases hc : (hp19 (5, 0, 0) 4) = 1
  · rw [if_pos hc] at h
    rw [brI_ne_p hc]
    show Ex (d + 4) kX5_takeBar 12 [some (vR (5, 0, 0)), none, none, none] [] hp19 _
    refine Ex.go 6 (pc' := 22) (ls' := [some (vR (5, 0, 0)), none, none, none]) (st' := [vI 1, vI ((hp19 (5, 0, 0) 3) - (hp19 (5, 0, 0) 5))]) (hp' := hp19) (fun _ => rfl) ?_
    refine Ex.icmp rfl ?_
    by_cases hc : ((hp19 (5, 0, 0) 3) - (hp19 (5, 0, 0) 5)) = 1
    · rw [if_pos hc] at h
      rw [brI_ne_p hc]
      show Ex (d + 4) kX5_takeBar 25 [some (vR (5, 0, 0)), none, none, none] [] hp19 _
      refine Ex.go 2 (pc' := 30) (ls' := [some (vR (5, 0, 0)), none, none, none]) (st' := [vI 1]) (hp' := hp19) (fun _ => rfl) ?_
      exact exX5_takeBar_30 h
    · rw [if_neg hc] at h
      rw [brI_ne_n hc]
      show Ex (d + 4) kX5_takeBar 29 [some (vR (5, 0, 0)), none, none, none] [] hp19 _
      exact exX5_takeBar_29 h
  · rw [if_neg hc] at h
    rw [brI_ne_n hc]
    show Ex (d + 4) kX5_takeBar 29 [some (vR (5, 0, 0)), none, none, none] [] hp19 _
    exact exX5_takeBar_29 h
def fX5_takeTab_46 (x1 : Int32) (hp : HP) : Option HP := (fX5_readToken hp).bind fun hp3 => (fX7_put 4 1 x1 1 hp3).bind fun hp6 => some hp6
theorem exX5_takeTab_46 {d : Nat} {x1 : Int32} {hp : HP} {v : HP} (h : fX5_takeTab_46 x1 hp = some v) : Ex (d + 3) kX5_takeTab 46 [some (vR (5, 0, 0)), some (vI x1)] [] hp (rsV () v) := by
  replace h : ((fX5_readToken hp).bind fun hp3 => (fX7_put 4 1 x1 1 hp3).bind fun hp6 => some hp6) = some v := h
  refine Ex.go 1 (pc' := 47) (ls' := [some (vR (5, 0, 0)), some (vI x1)]) (st' := [vR (5, 0, 0)]) (hp' := hp) (fun _ => rfl) ?_
  obtain ⟨hp3, hv, h⟩ := Option.bind_eq_some_iff.mp h
  refine Ex.call (args := [vR (5, 0, 0)]) (rest := []) rfl rfl rfl (exX5_readToken (d := d + 0) hv) ?_
  show Ex (d + 3) kX5_takeTab 50 [some (vR (5, 0, 0)), some (vI x1)] [] hp3 _
  refine Ex.go 6 (pc' := 62) (ls' := [some (vR (5, 0, 0)), some (vI x1)]) (st' := [vI 1, vI x1, vR (7, 4, 1)]) (hp' := hp3) (fun _ => rfl) ?_
  obtain ⟨hp6, hv, h⟩ := Option.bind_eq_some_iff.mp h
  refine Ex.call (args := [vR (7, 4, 1), vI x1, vI 1]) (rest := []) rfl rfl rfl (exX7_put (d := d + 2) hv) ?_
  show Ex (d + 3) kX5_takeTab 65 [some (vR (5, 0, 0)), some (vI x1)] [] hp6 _
  cases h
  exact Ex.ret rfl rfl rfl
def fX5_takeTab (hp : HP) : Option HP := (fX5_readToken hp).bind fun hp9 => (fX7_at 0 1 0 hp9).bind fun v10 => (fX5_requireNumber 0 (v10 - 1) hp9).bind fun hp13 => (fX1_stopsAt 1 (hp13 (5, 0, 0) 6) hp13).bind fun v14 => if v14 = 0 then (fX5_takeTab_46 (hp13 (5, 0, 0) 6) hp13) else ((fX5_fail 3 hp13).bind fun hp17 => fX5_takeTab_46 (hp13 (5, 0, 0) 6) hp17)
theorem exX5_takeTab {d : Nat} {hp : HP} {v : HP} (h : fX5_takeTab hp = some v) : Calls (d + 3) 65 [vR (5, 0, 0)] hp (rsV () v) := by
  replace h : ((fX5_readToken hp).bind fun hp9 => (fX7_at 0 1 0 hp9).bind fun v10 => (fX5_requireNumber 0 (v10 - 1) hp9).bind fun hp13 => (fX1_stopsAt 1 (hp13 (5, 0, 0) 6) hp13).bind fun v14 => if v14 = 0 then (fX5_takeTab_46 (hp13 (5, 0, 0) 6) hp13) else ((fX5_fail 3 hp13).bind fun hp17 => fX5_takeTab_46 (hp13 (5, 0, 0) 6) hp17)) = some v := h
  show Ex (d + 3) kX5_takeTab 0 [some (vR (5, 0, 0)), none] [] hp _
  refine Ex.go 1 (pc' := 1) (ls' := [some (vR (5, 0, 0)), none]) (st' := [vR (5, 0, 0)]) (hp' := hp) (fun _ => rfl) ?_
  obtain ⟨hp9, hv, h⟩ := Option.bind_eq_some_iff.mp h
  refine Ex.call (args := [vR (5, 0, 0)]) (rest := []) rfl rfl rfl (exX5_readToken (d := d + 0) hv) ?_
  show Ex (d + 3) kX5_takeTab 4 [some (vR (5, 0, 0)), none] [] hp9 _
  refine Ex.go 6 (pc' := 14) (ls' := [some (vR (5, 0, 0)), none]) (st' := [vI 0, vR (7, 0, 1), vI 0, vR (5, 0, 0)]) (hp' := hp9) (fun _ => rfl) ?_
  obtain ⟨v10, hv, h⟩ := Option.bind_eq_some_iff.mp h
  refine Ex.call (args := [vR (7, 0, 1), vI 0]) (rest := [vI 0, vR (5, 0, 0)]) rfl rfl rfl (exX7_at (d := d + 2) hv) ?_
  show Ex (d + 3) kX5_takeTab 17 [some (vR (5, 0, 0)), none] [vI v10, vI 0, vR (5, 0, 0)] hp9 _
  refine Ex.go 2 (pc' := 19) (ls' := [some (vR (5, 0, 0)), none]) (st' := [vI (v10 - 1), vI 0, vR (5, 0, 0)]) (hp' := hp9) (fun _ => rfl) ?_
  obtain ⟨hp13, hv, h⟩ := Option.bind_eq_some_iff.mp h
  refine Ex.call (args := [vR (5, 0, 0), vI 0, vI (v10 - 1)]) (rest := []) rfl rfl rfl (exX5_requireNumber (d := d + 1) hv) ?_
  show Ex (d + 3) kX5_takeTab 22 [some (vR (5, 0, 0)), none] [] hp13 _
  refine Ex.go 7 (pc' := 35) (ls' := [some (vR (5, 0, 0)), some (vI (hp13 (5, 0, 0) 6))]) (st' := [vI (hp13 (5, 0, 0) 6), vR (1, 0, 1)]) (hp' := hp13) (fun _ => rfl) ?_
  obtain ⟨v14, hv, h⟩ := Option.bind_eq_some_iff.mp h
  refine Ex.call (args := [vR (1, 0, 1), vI (hp13 (5, 0, 0) 6)]) (rest := []) rfl rfl rfl (exX1_stopsAt (d := d + 1) hv) ?_
  show Ex (d + 3) kX5_takeTab 38 [some (vR (5, 0, 0)), some (vI (hp13 (5, 0, 0) 6))] [vI v14] hp13 _
  refine Ex.ifc rfl ?_
  by_cases hc : v14 = 0
  · rw [if_pos hc] at h
    rw [brI_eq_p hc]
    show Ex (d + 3) kX5_takeTab 46 [some (vR (5, 0, 0)), some (vI (hp13 (5, 0, 0) 6))] [] hp13 _
    exact exX5_takeTab_46 h
  · rw [if_neg hc] at h
    rw [brI_eq_n hc]
    show Ex (d + 3) kX5_takeTab 41 [some (vR (5, 0, 0)), some (vI (hp13 (5, 0, 0) 6))] [] hp13 _
    refine Ex.go 2 (pc' := 43) (ls' := [some (vR (5, 0, 0)), some (vI (hp13 (5, 0, 0) 6))]) (st' := [vI 3, vR (5, 0, 0)]) (hp' := hp13) (fun _ => rfl) ?_
    obtain ⟨hp17, hv, h⟩ := Option.bind_eq_some_iff.mp h
    refine Ex.call (args := [vR (5, 0, 0), vI 3]) (rest := []) rfl rfl rfl (exX5_fail (d := d + 2) hv) ?_
    show Ex (d + 3) kX5_takeTab 46 [some (vR (5, 0, 0)), some (vI (hp13 (5, 0, 0) 6))] [] hp17 _
    exact exX5_takeTab_46 h
def fX5_parse_143 (x2 : Int32) (k80 : Int32 → HP → Option HP) (hp : HP) : Option HP := k80 (x2 + 1) hp
theorem exX5_parse_143 {d : Nat} {x2 : Int32} {j1 : Option VL} {hp : HP} {v : HP} {k80 : Int32 → HP → Option HP} (hk80 : ∀ (x2 : Int32) (j1 : Option VL) (hp : HP) (v : HP), k80 x2 hp = some v → Ex (d + 7) kX5_parse 80 [some (vR (5, 0, 0)), j1, some (vI x2)] [] hp (rsV () v)) (h : fX5_parse_143 x2 k80 hp = some v) : Ex (d + 7) kX5_parse 143 [some (vR (5, 0, 0)), j1, some (vI x2)] [] hp (rsV () v) := by
  replace h : (k80 (x2 + 1) hp) = some v := h
  refine Ex.go 2 (pc' := 80) (ls' := [some (vR (5, 0, 0)), j1, some (vI (x2 + 1))]) (st' := []) (hp' := hp) (fun _ => rfl) ?_
  exact hk80 _ _ _ _ h
def fX5_parse_149 (hp : HP) : Option HP := (fX3_begin 1 hp).bind fun hp3 => some hp3
theorem exX5_parse_149 {d : Nat} {j1 : Option VL} {j2 : Option VL} {hp : HP} {v : HP} (h : fX5_parse_149 hp = some v) : Ex (d + 7) kX5_parse 149 [some (vR (5, 0, 0)), j1, j2] [] hp (rsV () v) := by
  replace h : ((fX3_begin 1 hp).bind fun hp3 => some hp3) = some v := h
  refine Ex.go 2 (pc' := 153) (ls' := [some (vR (5, 0, 0)), j1, j2]) (st' := [vR (3, 0, 1)]) (hp' := hp) (fun _ => rfl) ?_
  obtain ⟨hp3, hv, h⟩ := Option.bind_eq_some_iff.mp h
  refine Ex.call (args := [vR (3, 0, 1)]) (rest := []) rfl rfl rfl (exX3_begin (d := d + 3) hv) ?_
  show Ex (d + 7) kX5_parse 156 [some (vR (5, 0, 0)), j1, j2] [] hp3 _
  cases h
  exact Ex.ret rfl rfl rfl
def fX5_parse_80 (n : Nat) (x2 : Int32) (hp : HP) : Option HP := match n with
  | 0 => none
  | n + 1 => if x2 < (hp (5, 0, 0) 2) then (if (hp (5, 0, 0) 7) = 0 then (if (hp (5, 0, 0) 4) = 0 then (fX5_parse_149 hp) else ((fX5_takeSemicolon hp).bind fun hp6 => (fX5_isWord 3 hp6).bind fun v7 => if v7 = 0 then ((fX5_isWord 4 hp6).bind fun v8 => if v8 = 0 then ((fX5_fail 1 hp6).bind fun hp11 => fX5_parse_143 x2 (fun x2 hq => fX5_parse_80 n x2 hq) hp11) else ((fX5_takeTab hp6).bind fun hp14 => fX5_parse_143 x2 (fun x2 hq => fX5_parse_80 n x2 hq) hp14)) else ((fX5_takeBar hp6).bind fun hp17 => fX5_parse_143 x2 (fun x2 hq => fX5_parse_80 n x2 hq) hp17))) else (fX5_parse_149 hp)) else (fX5_parse_149 hp)
theorem exX5_parse_80 {d : Nat} : ∀ (n : Nat) (x2 : Int32) (j1 : Option VL) (hp : HP) (v : HP), fX5_parse_80 n x2 hp = some v → Ex (d + 7) kX5_parse 80 [some (vR (5, 0, 0)), j1, some (vI x2)] [] hp (rsV () v) := by
  intro n
  induction n with
  | zero =>
    intro x2 j1 hp v h
    cases h
  | succ n ih =>
    intro x2 j1 hp v h
    replace h : (if x2 < (hp (5, 0, 0) 2) then (if (hp (5, 0, 0) 7) = 0 then (if (hp (5, 0, 0) 4) = 0 then (fX5_parse_149 hp) else ((fX5_takeSemicolon hp).bind fun hp6 => (fX5_isWord 3 hp6).bind fun v7 => if v7 = 0 then ((fX5_isWord 4 hp6).bind fun v8 => if v8 = 0 then ((fX5_fail 1 hp6).bind fun hp11 => fX5_parse_143 x2 (fun x2 hq => fX5_parse_80 n x2 hq) hp11) else ((fX5_takeTab hp6).bind fun hp14 => fX5_parse_143 x2 (fun x2 hq => fX5_parse_80 n x2 hq) hp14)) else ((fX5_takeBar hp6).bind fun hp17 => fX5_parse_143 x2 (fun x2 hq => fX5_parse_80 n x2 hq) hp17))) else (fX5_parse_149 hp)) else (fX5_parse_149 hp)) = some v := h
    refine Ex.go 3 (pc' := 85) (ls' := [some (vR (5, 0, 0)), j1, some (vI x2)]) (st' := [vI (hp (5, 0, 0) 2), vI x2]) (hp' := hp) (fun _ => rfl) ?_
    refine Ex.icmp rfl ?_
    by_cases hc : x2 < (hp (5, 0, 0) 2)
    · rw [if_pos hc] at h
      rw [brI_ge_p hc]
      show Ex (d + 7) kX5_parse 88 [some (vR (5, 0, 0)), j1, some (vI x2)] [] hp _
      refine Ex.go 2 (pc' := 92) (ls' := [some (vR (5, 0, 0)), j1, some (vI x2)]) (st' := [vI (hp (5, 0, 0) 7)]) (hp' := hp) (fun _ => rfl) ?_
      refine Ex.ifc rfl ?_
      by_cases hc : (hp (5, 0, 0) 7) = 0
      · rw [if_pos hc] at h
        rw [brI_ne_p hc]
        show Ex (d + 7) kX5_parse 95 [some (vR (5, 0, 0)), j1, some (vI x2)] [] hp _
        refine Ex.go 2 (pc' := 99) (ls' := [some (vR (5, 0, 0)), j1, some (vI x2)]) (st' := [vI (hp (5, 0, 0) 4)]) (hp' := hp) (fun _ => rfl) ?_
        refine Ex.ifc rfl ?_
        by_cases hc : (hp (5, 0, 0) 4) = 0
        · rw [if_pos hc] at h
          rw [brI_eq_p hc]
          show Ex (d + 7) kX5_parse 149 [some (vR (5, 0, 0)), j1, some (vI x2)] [] hp _
          exact exX5_parse_149 h
        · rw [if_neg hc] at h
          rw [brI_eq_n hc]
          show Ex (d + 7) kX5_parse 102 [some (vR (5, 0, 0)), j1, some (vI x2)] [] hp _
          refine Ex.go 1 (pc' := 103) (ls' := [some (vR (5, 0, 0)), j1, some (vI x2)]) (st' := [vR (5, 0, 0)]) (hp' := hp) (fun _ => rfl) ?_
          obtain ⟨hp6, hv, h⟩ := Option.bind_eq_some_iff.mp h
          refine Ex.call (args := [vR (5, 0, 0)]) (rest := []) rfl rfl rfl (exX5_takeSemicolon (d := d + 3) hv) ?_
          show Ex (d + 7) kX5_parse 106 [some (vR (5, 0, 0)), j1, some (vI x2)] [] hp6 _
          refine Ex.go 2 (pc' := 109) (ls' := [some (vR (5, 0, 0)), j1, some (vI x2)]) (st' := [vR (20, 3, 0), vR (5, 0, 0)]) (hp' := hp6) (fun _ => rfl) ?_
          obtain ⟨v7, hv, h⟩ := Option.bind_eq_some_iff.mp h
          refine Ex.call (args := [vR (5, 0, 0), vR (20, 3, 0)]) (rest := []) rfl rfl rfl (exX5_isWord (d := d + 1) hv) ?_
          show Ex (d + 7) kX5_parse 112 [some (vR (5, 0, 0)), j1, some (vI x2)] [vI v7] hp6 _
          refine Ex.ifc rfl ?_
          by_cases hc : v7 = 0
          · rw [if_pos hc] at h
            rw [brI_eq_p hc]
            show Ex (d + 7) kX5_parse 122 [some (vR (5, 0, 0)), j1, some (vI x2)] [] hp6 _
            refine Ex.go 2 (pc' := 125) (ls' := [some (vR (5, 0, 0)), j1, some (vI x2)]) (st' := [vR (20, 4, 0), vR (5, 0, 0)]) (hp' := hp6) (fun _ => rfl) ?_
            obtain ⟨v8, hv, h⟩ := Option.bind_eq_some_iff.mp h
            refine Ex.call (args := [vR (5, 0, 0), vR (20, 4, 0)]) (rest := []) rfl rfl rfl (exX5_isWord (d := d + 1) hv) ?_
            show Ex (d + 7) kX5_parse 128 [some (vR (5, 0, 0)), j1, some (vI x2)] [vI v8] hp6 _
            refine Ex.ifc rfl ?_
            by_cases hc : v8 = 0
            · rw [if_pos hc] at h
              rw [brI_eq_p hc]
              show Ex (d + 7) kX5_parse 138 [some (vR (5, 0, 0)), j1, some (vI x2)] [] hp6 _
              refine Ex.go 2 (pc' := 140) (ls' := [some (vR (5, 0, 0)), j1, some (vI x2)]) (st' := [vI 1, vR (5, 0, 0)]) (hp' := hp6) (fun _ => rfl) ?_
              obtain ⟨hp11, hv, h⟩ := Option.bind_eq_some_iff.mp h
              refine Ex.call (args := [vR (5, 0, 0), vI 1]) (rest := []) rfl rfl rfl (exX5_fail (d := d + 6) hv) ?_
              show Ex (d + 7) kX5_parse 143 [some (vR (5, 0, 0)), j1, some (vI x2)] [] hp11 _
              exact exX5_parse_143 (fun q0 q1 q2 q3 hv => ih q0 q1 q2 q3 hv) h
            · rw [if_neg hc] at h
              rw [brI_eq_n hc]
              show Ex (d + 7) kX5_parse 131 [some (vR (5, 0, 0)), j1, some (vI x2)] [] hp6 _
              refine Ex.go 1 (pc' := 132) (ls' := [some (vR (5, 0, 0)), j1, some (vI x2)]) (st' := [vR (5, 0, 0)]) (hp' := hp6) (fun _ => rfl) ?_
              obtain ⟨hp14, hv, h⟩ := Option.bind_eq_some_iff.mp h
              refine Ex.call (args := [vR (5, 0, 0)]) (rest := []) rfl rfl rfl (exX5_takeTab (d := d + 3) hv) ?_
              show Ex (d + 7) kX5_parse 135 [some (vR (5, 0, 0)), j1, some (vI x2)] [] hp14 _
              refine Ex.go 1 (pc' := 143) (ls' := [some (vR (5, 0, 0)), j1, some (vI x2)]) (st' := []) (hp' := hp14) (fun _ => rfl) ?_
              exact exX5_parse_143 (fun q0 q1 q2 q3 hv => ih q0 q1 q2 q3 hv) h
          · rw [if_neg hc] at h
            rw [brI_eq_n hc]
            show Ex (d + 7) kX5_parse 115 [some (vR (5, 0, 0)), j1, some (vI x2)] [] hp6 _
            refine Ex.go 1 (pc' := 116) (ls' := [some (vR (5, 0, 0)), j1, some (vI x2)]) (st' := [vR (5, 0, 0)]) (hp' := hp6) (fun _ => rfl) ?_
            obtain ⟨hp17, hv, h⟩ := Option.bind_eq_some_iff.mp h
            refine Ex.call (args := [vR (5, 0, 0)]) (rest := []) rfl rfl rfl (exX5_takeBar (d := d + 2) hv) ?_
            show Ex (d + 7) kX5_parse 119 [some (vR (5, 0, 0)), j1, some (vI x2)] [] hp17 _
            refine Ex.go 1 (pc' := 143) (ls' := [some (vR (5, 0, 0)), j1, some (vI x2)]) (st' := []) (hp' := hp17) (fun _ => rfl) ?_
            exact exX5_parse_143 (fun q0 q1 q2 q3 hv => ih q0 q1 q2 q3 hv) h
      · rw [if_neg hc] at h
        rw [brI_ne_n hc]
        show Ex (d + 7) kX5_parse 149 [some (vR (5, 0, 0)), j1, some (vI x2)] [] hp _
        exact exX5_parse_149 h
    · rw [if_neg hc] at h
      rw [brI_ge_n hc]
      show Ex (d + 7) kX5_parse 149 [some (vR (5, 0, 0)), j1, some (vI x2)] [] hp _
      exact exX5_parse_149 h
def fX5_parse (a0 : Int32) (hp : HP) : Option HP := (fX3_clear 1 (up (up (up (up hp (5, 0, 0) 2 a0) (5, 0, 0) 3 0) (5, 0, 0) 7 0) (5, 0, 0) 8 m1)).bind fun hp20 => (fX5_readToken hp20).bind fun hp23 => (fX5_takeWord 0 hp23).bind fun hp26 => (fX5_takeSettings 0 4 hp26).bind fun hp29 => (fX5_takeSemicolon hp29).bind fun hp32 => (fX5_takeWord 1 hp32).bind fun hp35 => (fX5_takeSettings 5 8 hp35).bind fun hp38 => (fX5_takeSemicolon hp38).bind fun hp41 => (fX5_takeWord 2 hp41).bind fun hp44 => (fX5_takeSettings 9 11 hp44).bind fun hp47 => fX5_parse_80 FU 0 hp47
theorem exX5_parse {d : Nat} {a0 : Int32} {hp : HP} {v : HP} (h : fX5_parse a0 hp = some v) : Calls (d + 7) 63 [vR (5, 0, 0), vI a0] hp (rsV () v) := by
  replace h : ((fX3_clear 1 (up (up (up (up hp (5, 0, 0) 2 a0) (5, 0, 0) 3 0) (5, 0, 0) 7 0) (5, 0, 0) 8 m1)).bind fun hp20 => (fX5_readToken hp20).bind fun hp23 => (fX5_takeWord 0 hp23).bind fun hp26 => (fX5_takeSettings 0 4 hp26).bind fun hp29 => (fX5_takeSemicolon hp29).bind fun hp32 => (fX5_takeWord 1 hp32).bind fun hp35 => (fX5_takeSettings 5 8 hp35).bind fun hp38 => (fX5_takeSemicolon hp38).bind fun hp41 => (fX5_takeWord 2 hp41).bind fun hp44 => (fX5_takeSettings 9 11 hp44).bind fun hp47 => fX5_parse_80 FU 0 hp47) = some v := h
  show Ex (d + 7) kX5_parse 0 [some (vR (5, 0, 0)), some (vI a0), none] [] hp _
  refine Ex.go 14 (pc' := 24) (ls' := [some (vR (5, 0, 0)), some (vI a0), none]) (st' := [vR (3, 0, 1)]) (hp' := (up (up (up (up hp (5, 0, 0) 2 a0) (5, 0, 0) 3 0) (5, 0, 0) 7 0) (5, 0, 0) 8 m1)) (fun _ => rfl) ?_
  obtain ⟨hp20, hv, h⟩ := Option.bind_eq_some_iff.mp h
  refine Ex.call (args := [vR (3, 0, 1)]) (rest := []) rfl rfl rfl (exX3_clear (d := d + 4) hv) ?_
  show Ex (d + 7) kX5_parse 27 [some (vR (5, 0, 0)), some (vI a0), none] [] hp20 _
  refine Ex.go 1 (pc' := 28) (ls' := [some (vR (5, 0, 0)), some (vI a0), none]) (st' := [vR (5, 0, 0)]) (hp' := hp20) (fun _ => rfl) ?_
  obtain ⟨hp23, hv, h⟩ := Option.bind_eq_some_iff.mp h
  refine Ex.call (args := [vR (5, 0, 0)]) (rest := []) rfl rfl rfl (exX5_readToken (d := d + 4) hv) ?_
  show Ex (d + 7) kX5_parse 31 [some (vR (5, 0, 0)), some (vI a0), none] [] hp23 _
  refine Ex.go 2 (pc' := 34) (ls' := [some (vR (5, 0, 0)), some (vI a0), none]) (st' := [vR (20, 0, 0), vR (5, 0, 0)]) (hp' := hp23) (fun _ => rfl) ?_
  obtain ⟨hp26, hv, h⟩ := Option.bind_eq_some_iff.mp h
  refine Ex.call (args := [vR (5, 0, 0), vR (20, 0, 0)]) (rest := []) rfl rfl rfl (exX5_takeWord (d := d + 0) hv) ?_
  show Ex (d + 7) kX5_parse 37 [some (vR (5, 0, 0)), some (vI a0), none] [] hp26 _
  refine Ex.go 3 (pc' := 40) (ls' := [some (vR (5, 0, 0)), some (vI a0), none]) (st' := [vI 4, vI 0, vR (5, 0, 0)]) (hp' := hp26) (fun _ => rfl) ?_
  obtain ⟨hp29, hv, h⟩ := Option.bind_eq_some_iff.mp h
  refine Ex.call (args := [vR (5, 0, 0), vI 0, vI 4]) (rest := []) rfl rfl rfl (exX5_takeSettings (d := d + 2) hv) ?_
  show Ex (d + 7) kX5_parse 43 [some (vR (5, 0, 0)), some (vI a0), none] [] hp29 _
  refine Ex.go 1 (pc' := 44) (ls' := [some (vR (5, 0, 0)), some (vI a0), none]) (st' := [vR (5, 0, 0)]) (hp' := hp29) (fun _ => rfl) ?_
  obtain ⟨hp32, hv, h⟩ := Option.bind_eq_some_iff.mp h
  refine Ex.call (args := [vR (5, 0, 0)]) (rest := []) rfl rfl rfl (exX5_takeSemicolon (d := d + 3) hv) ?_
  show Ex (d + 7) kX5_parse 47 [some (vR (5, 0, 0)), some (vI a0), none] [] hp32 _
  refine Ex.go 2 (pc' := 50) (ls' := [some (vR (5, 0, 0)), some (vI a0), none]) (st' := [vR (20, 1, 0), vR (5, 0, 0)]) (hp' := hp32) (fun _ => rfl) ?_
  obtain ⟨hp35, hv, h⟩ := Option.bind_eq_some_iff.mp h
  refine Ex.call (args := [vR (5, 0, 0), vR (20, 1, 0)]) (rest := []) rfl rfl rfl (exX5_takeWord (d := d + 0) hv) ?_
  show Ex (d + 7) kX5_parse 53 [some (vR (5, 0, 0)), some (vI a0), none] [] hp35 _
  refine Ex.go 3 (pc' := 57) (ls' := [some (vR (5, 0, 0)), some (vI a0), none]) (st' := [vI 8, vI 5, vR (5, 0, 0)]) (hp' := hp35) (fun _ => rfl) ?_
  obtain ⟨hp38, hv, h⟩ := Option.bind_eq_some_iff.mp h
  refine Ex.call (args := [vR (5, 0, 0), vI 5, vI 8]) (rest := []) rfl rfl rfl (exX5_takeSettings (d := d + 2) hv) ?_
  show Ex (d + 7) kX5_parse 60 [some (vR (5, 0, 0)), some (vI a0), none] [] hp38 _
  refine Ex.go 1 (pc' := 61) (ls' := [some (vR (5, 0, 0)), some (vI a0), none]) (st' := [vR (5, 0, 0)]) (hp' := hp38) (fun _ => rfl) ?_
  obtain ⟨hp41, hv, h⟩ := Option.bind_eq_some_iff.mp h
  refine Ex.call (args := [vR (5, 0, 0)]) (rest := []) rfl rfl rfl (exX5_takeSemicolon (d := d + 3) hv) ?_
  show Ex (d + 7) kX5_parse 64 [some (vR (5, 0, 0)), some (vI a0), none] [] hp41 _
  refine Ex.go 2 (pc' := 67) (ls' := [some (vR (5, 0, 0)), some (vI a0), none]) (st' := [vR (20, 2, 0), vR (5, 0, 0)]) (hp' := hp41) (fun _ => rfl) ?_
  obtain ⟨hp44, hv, h⟩ := Option.bind_eq_some_iff.mp h
  refine Ex.call (args := [vR (5, 0, 0), vR (20, 2, 0)]) (rest := []) rfl rfl rfl (exX5_takeWord (d := d + 0) hv) ?_
  show Ex (d + 7) kX5_parse 70 [some (vR (5, 0, 0)), some (vI a0), none] [] hp44 _
  refine Ex.go 3 (pc' := 75) (ls' := [some (vR (5, 0, 0)), some (vI a0), none]) (st' := [vI 11, vI 9, vR (5, 0, 0)]) (hp' := hp44) (fun _ => rfl) ?_
  obtain ⟨hp47, hv, h⟩ := Option.bind_eq_some_iff.mp h
  refine Ex.call (args := [vR (5, 0, 0), vI 9, vI 11]) (rest := []) rfl rfl rfl (exX5_takeSettings (d := d + 2) hv) ?_
  show Ex (d + 7) kX5_parse 78 [some (vR (5, 0, 0)), some (vI a0), none] [] hp47 _
  refine Ex.go 2 (pc' := 80) (ls' := [some (vR (5, 0, 0)), some (vI a0), some (vI 0)]) (st' := []) (hp' := hp47) (fun _ => rfl) ?_
  exact exX5_parse_80 FU _ _ _ _ h
def fX6_allInk_4 (n : Nat) (m : Nat) (x1 : Int32) (x2 : Int32) (hp : HP) : Option Int32 := match n with
  | 0 => none
  | n + 1 => (fX7_at 0 m 9 hp).bind fun v1 => if x2 < v1 then ((fX7_at 1 m x2 hp).bind fun v2 => fX6_allInk_4 n m (x1 + v2) (x2 + 1) hp) else (some x1)
theorem exX6_allInk_4 {d : Nat} {m : Nat} : ∀ (n : Nat) (x1 : Int32) (x2 : Int32) (hp : HP) (v : Int32), fX6_allInk_4 n m x1 x2 hp = some v → Ex (d + 1) kX6_allInk 4 [some (vR (6, 0, m)), some (vI x1), some (vI x2)] [] hp (rsI v hp) := by
  intro n
  induction n with
  | zero =>
    intro x1 x2 hp v h
    cases h
  | succ n ih =>
    intro x1 x2 hp v h
    replace h : ((fX7_at 0 m 9 hp).bind fun v1 => if x2 < v1 then ((fX7_at 1 m x2 hp).bind fun v2 => fX6_allInk_4 n m (x1 + v2) (x2 + 1) hp) else (some x1)) = some v := h
    refine Ex.go 4 (pc' := 11) (ls' := [some (vR (6, 0, m)), some (vI x1), some (vI x2)]) (st' := [vI 9, vR (7, 0, m), vI x2]) (hp' := hp) (fun _ => rfl) ?_
    obtain ⟨v1, hv, h⟩ := Option.bind_eq_some_iff.mp h
    refine Ex.call (args := [vR (7, 0, m), vI 9]) (rest := [vI x2]) rfl rfl rfl (exX7_at (d := d + 0) hv) ?_
    show Ex (d + 1) kX6_allInk 14 [some (vR (6, 0, m)), some (vI x1), some (vI x2)] [vI v1, vI x2] hp _
    refine Ex.icmp rfl ?_
    by_cases hc : x2 < v1
    · rw [if_pos hc] at h
      rw [brI_ge_p hc]
      show Ex (d + 1) kX6_allInk 17 [some (vR (6, 0, m)), some (vI x1), some (vI x2)] [] hp _
      refine Ex.go 4 (pc' := 23) (ls' := [some (vR (6, 0, m)), some (vI x1), some (vI x2)]) (st' := [vI x2, vR (7, 1, m), vI x1]) (hp' := hp) (fun _ => rfl) ?_
      obtain ⟨v2, hv, h⟩ := Option.bind_eq_some_iff.mp h
      refine Ex.call (args := [vR (7, 1, m), vI x2]) (rest := [vI x1]) rfl rfl rfl (exX7_at (d := d + 0) hv) ?_
      show Ex (d + 1) kX6_allInk 26 [some (vR (6, 0, m)), some (vI x1), some (vI x2)] [vI v2, vI x1] hp _
      refine Ex.go 4 (pc' := 4) (ls' := [some (vR (6, 0, m)), some (vI (x1 + v2)), some (vI (x2 + 1))]) (st' := []) (hp' := hp) (fun _ => rfl) ?_
      exact ih _ _ _ _ h
    · rw [if_neg hc] at h
      rw [brI_ge_n hc]
      show Ex (d + 1) kX6_allInk 34 [some (vR (6, 0, m)), some (vI x1), some (vI x2)] [] hp _
      refine Ex.go 1 (pc' := 35) (ls' := [some (vR (6, 0, m)), some (vI x1), some (vI x2)]) (st' := [vI x1]) (hp' := hp) (fun _ => rfl) ?_
      cases h
      exact Ex.ret rfl rfl rfl
def fX6_allInk (m : Nat) (hp : HP) : Option Int32 := fX6_allInk_4 FU m 0 0 hp
theorem exX6_allInk {d : Nat} {m : Nat} {hp : HP} {v : Int32} (h : fX6_allInk m hp = some v) : Calls (d + 1) 79 [vR (6, 0, m)] hp (rsI v hp) := by
  replace h : (fX6_allInk_4 FU m 0 0 hp) = some v := h
  show Ex (d + 1) kX6_allInk 0 [some (vR (6, 0, m)), none, none] [] hp _
  refine Ex.go 4 (pc' := 4) (ls' := [some (vR (6, 0, m)), some (vI 0), some (vI 0)]) (st' := []) (hp' := hp) (fun _ => rfl) ?_
  exact exX6_allInk_4 FU _ _ _ _ h
def fX6_dryPlaces_31 (m : Nat) (x1 : Int32) (x2 : Int32) (k4 : Int32 → Int32 → HP → Option Int32) (hp : HP) : Option Int32 := k4 x1 (x2 + 1) hp
theorem exX6_dryPlaces_31 {d : Nat} {m : Nat} {x1 : Int32} {x2 : Int32} {hp : HP} {v : Int32} {k4 : Int32 → Int32 → HP → Option Int32} (hk4 : ∀ (x1 : Int32) (x2 : Int32) (hp : HP) (v : Int32), k4 x1 x2 hp = some v → Ex (d + 1) kX6_dryPlaces 4 [some (vR (6, 0, m)), some (vI x1), some (vI x2)] [] hp (rsI v hp)) (h : fX6_dryPlaces_31 m x1 x2 k4 hp = some v) : Ex (d + 1) kX6_dryPlaces 31 [some (vR (6, 0, m)), some (vI x1), some (vI x2)] [] hp (rsI v hp) := by
  replace h : (k4 x1 (x2 + 1) hp) = some v := h
  refine Ex.go 2 (pc' := 4) (ls' := [some (vR (6, 0, m)), some (vI x1), some (vI (x2 + 1))]) (st' := []) (hp' := hp) (fun _ => rfl) ?_
  exact hk4 _ _ _ _ h
def fX6_dryPlaces_4 (n : Nat) (m : Nat) (x1 : Int32) (x2 : Int32) (hp : HP) : Option Int32 := match n with
  | 0 => none
  | n + 1 => (fX7_at 0 m 9 hp).bind fun v1 => if x2 < v1 then ((fX7_at 1 m x2 hp).bind fun v2 => if v2 = 0 then (fX6_dryPlaces_31 m (x1 + 1) x2 (fun x1 x2 hq => fX6_dryPlaces_4 n m x1 x2 hq) hp) else (fX6_dryPlaces_31 m x1 x2 (fun x1 x2 hq => fX6_dryPlaces_4 n m x1 x2 hq) hp)) else (some x1)
theorem exX6_dryPlaces_4 {d : Nat} {m : Nat} : ∀ (n : Nat) (x1 : Int32) (x2 : Int32) (hp : HP) (v : Int32), fX6_dryPlaces_4 n m x1 x2 hp = some v → Ex (d + 1) kX6_dryPlaces 4 [some (vR (6, 0, m)), some (vI x1), some (vI x2)] [] hp (rsI v hp) := by
  intro n
  induction n with
  | zero =>
    intro x1 x2 hp v h
    cases h
  | succ n ih =>
    intro x1 x2 hp v h
    replace h : ((fX7_at 0 m 9 hp).bind fun v1 => if x2 < v1 then ((fX7_at 1 m x2 hp).bind fun v2 => if v2 = 0 then (fX6_dryPlaces_31 m (x1 + 1) x2 (fun x1 x2 hq => fX6_dryPlaces_4 n m x1 x2 hq) hp) else (fX6_dryPlaces_31 m x1 x2 (fun x1 x2 hq => fX6_dryPlaces_4 n m x1 x2 hq) hp)) else (some x1)) = some v := h
    refine Ex.go 4 (pc' := 11) (ls' := [some (vR (6, 0, m)), some (vI x1), some (vI x2)]) (st' := [vI 9, vR (7, 0, m), vI x2]) (hp' := hp) (fun _ => rfl) ?_
    obtain ⟨v1, hv, h⟩ := Option.bind_eq_some_iff.mp h
    refine Ex.call (args := [vR (7, 0, m), vI 9]) (rest := [vI x2]) rfl rfl rfl (exX7_at (d := d + 0) hv) ?_
    show Ex (d + 1) kX6_dryPlaces 14 [some (vR (6, 0, m)), some (vI x1), some (vI x2)] [vI v1, vI x2] hp _
    refine Ex.icmp rfl ?_
    by_cases hc : x2 < v1
    · rw [if_pos hc] at h
      rw [brI_ge_p hc]
      show Ex (d + 1) kX6_dryPlaces 17 [some (vR (6, 0, m)), some (vI x1), some (vI x2)] [] hp _
      refine Ex.go 3 (pc' := 22) (ls' := [some (vR (6, 0, m)), some (vI x1), some (vI x2)]) (st' := [vI x2, vR (7, 1, m)]) (hp' := hp) (fun _ => rfl) ?_
      obtain ⟨v2, hv, h⟩ := Option.bind_eq_some_iff.mp h
      refine Ex.call (args := [vR (7, 1, m), vI x2]) (rest := []) rfl rfl rfl (exX7_at (d := d + 0) hv) ?_
      show Ex (d + 1) kX6_dryPlaces 25 [some (vR (6, 0, m)), some (vI x1), some (vI x2)] [vI v2] hp _
      refine Ex.ifc rfl ?_
      by_cases hc : v2 = 0
      · rw [if_pos hc] at h
        rw [brI_ne_p hc]
        show Ex (d + 1) kX6_dryPlaces 28 [some (vR (6, 0, m)), some (vI x1), some (vI x2)] [] hp _
        refine Ex.go 1 (pc' := 31) (ls' := [some (vR (6, 0, m)), some (vI (x1 + 1)), some (vI x2)]) (st' := []) (hp' := hp) (fun _ => rfl) ?_
        exact exX6_dryPlaces_31 (fun q0 q1 q2 q3 hv => ih q0 q1 q2 q3 hv) h
      · rw [if_neg hc] at h
        rw [brI_ne_n hc]
        show Ex (d + 1) kX6_dryPlaces 31 [some (vR (6, 0, m)), some (vI x1), some (vI x2)] [] hp _
        exact exX6_dryPlaces_31 (fun q0 q1 q2 q3 hv => ih q0 q1 q2 q3 hv) h
    · rw [if_neg hc] at h
      rw [brI_ge_n hc]
      show Ex (d + 1) kX6_dryPlaces 37 [some (vR (6, 0, m)), some (vI x1), some (vI x2)] [] hp _
      refine Ex.go 1 (pc' := 38) (ls' := [some (vR (6, 0, m)), some (vI x1), some (vI x2)]) (st' := [vI x1]) (hp' := hp) (fun _ => rfl) ?_
      cases h
      exact Ex.ret rfl rfl rfl
def fX6_dryPlaces (m : Nat) (hp : HP) : Option Int32 := fX6_dryPlaces_4 FU m 0 0 hp
theorem exX6_dryPlaces {d : Nat} {m : Nat} {hp : HP} {v : Int32} (h : fX6_dryPlaces m hp = some v) : Calls (d + 1) 80 [vR (6, 0, m)] hp (rsI v hp) := by
  replace h : (fX6_dryPlaces_4 FU m 0 0 hp) = some v := h
  show Ex (d + 1) kX6_dryPlaces 0 [some (vR (6, 0, m)), none, none] [] hp _
  refine Ex.go 4 (pc' := 4) (ls' := [some (vR (6, 0, m)), some (vI 0), some (vI 0)]) (st' := []) (hp' := hp) (fun _ => rfl) ?_
  exact exX6_dryPlaces_4 FU _ _ _ _ h
def fX9_appendFour_3 (n : Nat) (x1 : Int32) (x2 : Int32) (hp : HP) : Option HP := match n with
  | 0 => none
  | n + 1 => if x2 < 0 then (some hp) else ((fX7_put 10 0 (hp (9, 0, 0) 1) ((x1 >>> (x2 &&& 31)) &&& 255) hp).bind fun hp3 => fX9_appendFour_3 n x1 (x2 + m8) (up hp3 (9, 0, 0) 1 ((hp3 (9, 0, 0) 1) + 1)))
theorem exX9_appendFour_3 {d : Nat} : ∀ (n : Nat) (x1 : Int32) (x2 : Int32) (hp : HP) (v : HP), fX9_appendFour_3 n x1 x2 hp = some v → Ex (d + 1) kX9_appendFour 3 [some (vR (9, 0, 0)), some (vI x1), some (vI x2)] [] hp (rsV () v) := by
  intro n
  induction n with
  | zero =>
    intro x1 x2 hp v h
    cases h
  | succ n ih =>
    intro x1 x2 hp v h
    replace h : (if x2 < 0 then (some hp) else ((fX7_put 10 0 (hp (9, 0, 0) 1) ((x1 >>> (x2 &&& 31)) &&& 255) hp).bind fun hp3 => fX9_appendFour_3 n x1 (x2 + m8) (up hp3 (9, 0, 0) 1 ((hp3 (9, 0, 0) 1) + 1)))) = some v := h
    refine Ex.go 1 (pc' := 4) (ls' := [some (vR (9, 0, 0)), some (vI x1), some (vI x2)]) (st' := [vI x2]) (hp' := hp) (fun _ => rfl) ?_
    refine Ex.ifc rfl ?_
    by_cases hc : x2 < 0
    · rw [if_pos hc] at h
      rw [brI_lt_p hc]
      show Ex (d + 1) kX9_appendFour 41 [some (vR (9, 0, 0)), some (vI x1), some (vI x2)] [] hp _
      cases h
      exact Ex.ret rfl rfl rfl
    · rw [if_neg hc] at h
      rw [brI_lt_n hc]
      show Ex (d + 1) kX9_appendFour 7 [some (vR (9, 0, 0)), some (vI x1), some (vI x2)] [] hp _
      refine Ex.go 9 (pc' := 22) (ls' := [some (vR (9, 0, 0)), some (vI x1), some (vI x2)]) (st' := [vI ((x1 >>> (x2 &&& 31)) &&& 255), vI (hp (9, 0, 0) 1), vR (7, 10, 0)]) (hp' := hp) (fun _ => rfl) ?_
      obtain ⟨hp3, hv, h⟩ := Option.bind_eq_some_iff.mp h
      refine Ex.call (args := [vR (7, 10, 0), vI (hp (9, 0, 0) 1), vI ((x1 >>> (x2 &&& 31)) &&& 255)]) (rest := []) rfl rfl rfl (exX7_put (d := d + 0) hv) ?_
      show Ex (d + 1) kX9_appendFour 25 [some (vR (9, 0, 0)), some (vI x1), some (vI x2)] [] hp3 _
      refine Ex.go 6 (pc' := 35) (ls' := [some (vR (9, 0, 0)), some (vI x1), some (vI x2)]) (st' := []) (hp' := (up hp3 (9, 0, 0) 1 ((hp3 (9, 0, 0) 1) + 1))) (fun _ => rfl) ?_
      refine Ex.iinc rfl rfl ?_
      show Ex (d + 1) kX9_appendFour 38 [some (vR (9, 0, 0)), some (vI x1), some (vI (x2 + m8))] [] (up hp3 (9, 0, 0) 1 ((hp3 (9, 0, 0) 1) + 1)) _
      refine Ex.go 1 (pc' := 3) (ls' := [some (vR (9, 0, 0)), some (vI x1), some (vI (x2 + m8))]) (st' := []) (hp' := (up hp3 (9, 0, 0) 1 ((hp3 (9, 0, 0) 1) + 1))) (fun _ => rfl) ?_
      exact ih _ _ _ _ h
def fX9_appendFour (a0 : Int32) (hp : HP) : Option HP := fX9_appendFour_3 FU a0 24 hp
theorem exX9_appendFour {d : Nat} {a0 : Int32} {hp : HP} {v : HP} (h : fX9_appendFour a0 hp = some v) : Calls (d + 1) 86 [vR (9, 0, 0), vI a0] hp (rsV () v) := by
  replace h : (fX9_appendFour_3 FU a0 24 hp) = some v := h
  show Ex (d + 1) kX9_appendFour 0 [some (vR (9, 0, 0)), some (vI a0), none] [] hp _
  refine Ex.go 2 (pc' := 3) (ls' := [some (vR (9, 0, 0)), some (vI a0), some (vI 24)]) (st' := []) (hp' := hp) (fun _ => rfl) ?_
  exact exX9_appendFour_3 FU _ _ _ _ h
def fX9_append (a0 : Int32) (a1 : Int32) (a2 : Int32) (a3 : Int32) (a4 : Int32) (hp : HP) : Option (Int32 × HP) := if 500 < ((hp (9, 0, 0) 1) + 20) then (some (m1, hp)) else ((fX9_appendFour a0 hp).bind fun hp3 => (fX9_appendFour a1 hp3).bind fun hp6 => (fX9_appendFour a2 hp6).bind fun hp9 => (fX9_appendFour a3 hp9).bind fun hp12 => (fX9_appendFour a4 hp12).bind fun hp15 => some ((hp15 (9, 0, 0) 1), hp15))
theorem exX9_append {d : Nat} {a0 : Int32} {a1 : Int32} {a2 : Int32} {a3 : Int32} {a4 : Int32} {hp : HP} {v : (Int32 × HP)} (h : fX9_append a0 a1 a2 a3 a4 hp = some v) : Calls (d + 2) 85 [vR (9, 0, 0), vI a0, vI a1, vI a2, vI a3, vI a4] hp (rsI v.1 v.2) := by
  replace h : (if 500 < ((hp (9, 0, 0) 1) + 20) then (some (m1, hp)) else ((fX9_appendFour a0 hp).bind fun hp3 => (fX9_appendFour a1 hp3).bind fun hp6 => (fX9_appendFour a2 hp6).bind fun hp9 => (fX9_appendFour a3 hp9).bind fun hp12 => (fX9_appendFour a4 hp12).bind fun hp15 => some ((hp15 (9, 0, 0) 1), hp15))) = some v := h
  show Ex (d + 2) kX9_append 0 [some (vR (9, 0, 0)), some (vI a0), some (vI a1), some (vI a2), some (vI a3), some (vI a4)] [] hp _
  refine Ex.go 5 (pc' := 10) (ls' := [some (vR (9, 0, 0)), some (vI a0), some (vI a1), some (vI a2), some (vI a3), some (vI a4)]) (st' := [vI 500, vI ((hp (9, 0, 0) 1) + 20)]) (hp' := hp) (fun _ => rfl) ?_
  refine Ex.icmp rfl ?_
  by_cases hc : 500 < ((hp (9, 0, 0) 1) + 20)
  · rw [if_pos hc] at h
    rw [brI_le_p hc]
    show Ex (d + 2) kX9_append 13 [some (vR (9, 0, 0)), some (vI a0), some (vI a1), some (vI a2), some (vI a3), some (vI a4)] [] hp _
    refine Ex.go 1 (pc' := 14) (ls' := [some (vR (9, 0, 0)), some (vI a0), some (vI a1), some (vI a2), some (vI a3), some (vI a4)]) (st' := [vI m1]) (hp' := hp) (fun _ => rfl) ?_
    cases h
    exact Ex.ret rfl rfl rfl
  · rw [if_neg hc] at h
    rw [brI_le_n hc]
    show Ex (d + 2) kX9_append 15 [some (vR (9, 0, 0)), some (vI a0), some (vI a1), some (vI a2), some (vI a3), some (vI a4)] [] hp _
    refine Ex.go 2 (pc' := 17) (ls' := [some (vR (9, 0, 0)), some (vI a0), some (vI a1), some (vI a2), some (vI a3), some (vI a4)]) (st' := [vI a0, vR (9, 0, 0)]) (hp' := hp) (fun _ => rfl) ?_
    obtain ⟨hp3, hv, h⟩ := Option.bind_eq_some_iff.mp h
    refine Ex.call (args := [vR (9, 0, 0), vI a0]) (rest := []) rfl rfl rfl (exX9_appendFour (d := d + 0) hv) ?_
    show Ex (d + 2) kX9_append 20 [some (vR (9, 0, 0)), some (vI a0), some (vI a1), some (vI a2), some (vI a3), some (vI a4)] [] hp3 _
    refine Ex.go 2 (pc' := 22) (ls' := [some (vR (9, 0, 0)), some (vI a0), some (vI a1), some (vI a2), some (vI a3), some (vI a4)]) (st' := [vI a1, vR (9, 0, 0)]) (hp' := hp3) (fun _ => rfl) ?_
    obtain ⟨hp6, hv, h⟩ := Option.bind_eq_some_iff.mp h
    refine Ex.call (args := [vR (9, 0, 0), vI a1]) (rest := []) rfl rfl rfl (exX9_appendFour (d := d + 0) hv) ?_
    show Ex (d + 2) kX9_append 25 [some (vR (9, 0, 0)), some (vI a0), some (vI a1), some (vI a2), some (vI a3), some (vI a4)] [] hp6 _
    refine Ex.go 2 (pc' := 27) (ls' := [some (vR (9, 0, 0)), some (vI a0), some (vI a1), some (vI a2), some (vI a3), some (vI a4)]) (st' := [vI a2, vR (9, 0, 0)]) (hp' := hp6) (fun _ => rfl) ?_
    obtain ⟨hp9, hv, h⟩ := Option.bind_eq_some_iff.mp h
    refine Ex.call (args := [vR (9, 0, 0), vI a2]) (rest := []) rfl rfl rfl (exX9_appendFour (d := d + 0) hv) ?_
    show Ex (d + 2) kX9_append 30 [some (vR (9, 0, 0)), some (vI a0), some (vI a1), some (vI a2), some (vI a3), some (vI a4)] [] hp9 _
    refine Ex.go 2 (pc' := 33) (ls' := [some (vR (9, 0, 0)), some (vI a0), some (vI a1), some (vI a2), some (vI a3), some (vI a4)]) (st' := [vI a3, vR (9, 0, 0)]) (hp' := hp9) (fun _ => rfl) ?_
    obtain ⟨hp12, hv, h⟩ := Option.bind_eq_some_iff.mp h
    refine Ex.call (args := [vR (9, 0, 0), vI a3]) (rest := []) rfl rfl rfl (exX9_appendFour (d := d + 0) hv) ?_
    show Ex (d + 2) kX9_append 36 [some (vR (9, 0, 0)), some (vI a0), some (vI a1), some (vI a2), some (vI a3), some (vI a4)] [] hp12 _
    refine Ex.go 2 (pc' := 39) (ls' := [some (vR (9, 0, 0)), some (vI a0), some (vI a1), some (vI a2), some (vI a3), some (vI a4)]) (st' := [vI a4, vR (9, 0, 0)]) (hp' := hp12) (fun _ => rfl) ?_
    obtain ⟨hp15, hv, h⟩ := Option.bind_eq_some_iff.mp h
    refine Ex.call (args := [vR (9, 0, 0), vI a4]) (rest := []) rfl rfl rfl (exX9_appendFour (d := d + 0) hv) ?_
    show Ex (d + 2) kX9_append 42 [some (vR (9, 0, 0)), some (vI a0), some (vI a1), some (vI a2), some (vI a3), some (vI a4)] [] hp15 _
    refine Ex.go 2 (pc' := 46) (ls' := [some (vR (9, 0, 0)), some (vI a0), some (vI a1), some (vI a2), some (vI a3), some (vI a4)]) (st' := [vI (hp15 (9, 0, 0) 1)]) (hp' := hp15) (fun _ => rfl) ?_
    cases h
    exact Ex.ret rfl rfl rfl
def fX9_requireIndex (a0 : Int32) (hp : HP) : Option (Unit ⊕ Nat) := if a0 = 0 then (some (.inr 3)) else (some (.inl ()))
theorem exX9_requireIndex {d : Nat} {a0 : Int32} {hp : HP} {v : (Unit ⊕ Nat)} (h : fX9_requireIndex a0 hp = some v) : Calls (d + 6) 148 [vI a0] hp (rsT rsV v hp) := by
  replace h : (if a0 = 0 then (some (.inr 3)) else (some (.inl ()))) = some v := h
  show Ex (d + 6) kX9_requireIndex 0 [some (vI a0)] [] hp _
  refine Ex.go 1 (pc' := 1) (ls' := [some (vI a0)]) (st' := [vI a0]) (hp' := hp) (fun _ => rfl) ?_
  refine Ex.ifc rfl ?_
  by_cases hc : a0 = 0
  · rw [if_pos hc] at h
    rw [brI_ne_p hc]
    show Ex (d + 6) kX9_requireIndex 4 [some (vI a0)] [] hp _
    cases h
    exact Ex.thr rfl rfl rfl
  · rw [if_neg hc] at h
    rw [brI_ne_n hc]
    show Ex (d + 6) kX9_requireIndex 15 [some (vI a0)] [] hp _
    cases h
    exact Ex.ret rfl rfl rfl
def fX9_requireBytes_17 (y0 : Int32) (hp : HP) : Option (Unit ⊕ Nat) := (fX9_requireIndex y0 hp).bind fun q2 => Sum.elim (fun _ => some (.inl ())) (fun E => some (.inr E)) q2
theorem exX9_requireBytes_17 {d : Nat} {y0 : Int32} {j1 : Option VL} {hp : HP} {v : (Unit ⊕ Nat)} (h : fX9_requireBytes_17 y0 hp = some v) : Ex (d + 7) kX9_requireBytes 17 [some (vR (9, 0, 0)), j1] [vI y0] hp (rsT rsV v hp) := by
  replace h : ((fX9_requireIndex y0 hp).bind fun q2 => Sum.elim (fun _ => some (.inl ())) (fun E => some (.inr E)) q2) = some v := h
  obtain ⟨q2, hv, h⟩ := Option.bind_eq_some_iff.mp h
  rcases q2 with _ | E
  · replace h : (some (.inl ())) = some v := h
    refine Ex.call (args := [vI y0]) (rest := []) rfl rfl rfl (exX9_requireIndex (d := d + 0) hv) ?_
    show Ex (d + 7) kX9_requireBytes 20 [some (vR (9, 0, 0)), j1] [] hp _
    cases h
    exact Ex.ret rfl rfl rfl
  · cases h
    exact Ex.callT (args := [vI y0]) (rest := []) rfl rfl rfl (exX9_requireIndex (d := d + 0) hv) rfl
def fX9_requireBytes_16 (hp : HP) : Option (Unit ⊕ Nat) := fX9_requireBytes_17 0 hp
theorem exX9_requireBytes_16 {d : Nat} {j1 : Option VL} {hp : HP} {v : (Unit ⊕ Nat)} (h : fX9_requireBytes_16 hp = some v) : Ex (d + 7) kX9_requireBytes 16 [some (vR (9, 0, 0)), j1] [] hp (rsT rsV v hp) := by
  replace h : (fX9_requireBytes_17 0 hp) = some v := h
  refine Ex.go 1 (pc' := 17) (ls' := [some (vR (9, 0, 0)), j1]) (st' := [vI 0]) (hp' := hp) (fun _ => rfl) ?_
  exact exX9_requireBytes_17 h
def fX9_requireBytes (a0 : Int32) (hp : HP) : Option (Unit ⊕ Nat) := if a0 < 0 then (fX9_requireBytes_16 hp) else (if (hp (9, 0, 0) 1) < a0 then (fX9_requireBytes_16 hp) else (fX9_requireBytes_17 1 hp))
theorem exX9_requireBytes {d : Nat} {a0 : Int32} {hp : HP} {v : (Unit ⊕ Nat)} (h : fX9_requireBytes a0 hp = some v) : Calls (d + 7) 142 [vR (9, 0, 0), vI a0] hp (rsT rsV v hp) := by
  replace h : (if a0 < 0 then (fX9_requireBytes_16 hp) else (if (hp (9, 0, 0) 1) < a0 then (fX9_requireBytes_16 hp) else (fX9_requireBytes_17 1 hp))) = some v := h
  show Ex (d + 7) kX9_requireBytes 0 [some (vR (9, 0, 0)), some (vI a0)] [] hp _
  refine Ex.go 1 (pc' := 1) (ls' := [some (vR (9, 0, 0)), some (vI a0)]) (st' := [vI a0]) (hp' := hp) (fun _ => rfl) ?_
  refine Ex.ifc rfl ?_
  by_cases hc : a0 < 0
  · rw [if_pos hc] at h
    rw [brI_lt_p hc]
    show Ex (d + 7) kX9_requireBytes 16 [some (vR (9, 0, 0)), some (vI a0)] [] hp _
    exact exX9_requireBytes_16 h
  · rw [if_neg hc] at h
    rw [brI_lt_n hc]
    show Ex (d + 7) kX9_requireBytes 4 [some (vR (9, 0, 0)), some (vI a0)] [] hp _
    refine Ex.go 3 (pc' := 9) (ls' := [some (vR (9, 0, 0)), some (vI a0)]) (st' := [vI (hp (9, 0, 0) 1), vI a0]) (hp' := hp) (fun _ => rfl) ?_
    refine Ex.icmp rfl ?_
    by_cases hc : (hp (9, 0, 0) 1) < a0
    · rw [if_pos hc] at h
      rw [brI_gt_p hc]
      show Ex (d + 7) kX9_requireBytes 16 [some (vR (9, 0, 0)), some (vI a0)] [] hp _
      exact exX9_requireBytes_16 h
    · rw [if_neg hc] at h
      rw [brI_gt_n hc]
      show Ex (d + 7) kX9_requireBytes 12 [some (vR (9, 0, 0)), some (vI a0)] [] hp _
      refine Ex.go 2 (pc' := 17) (ls' := [some (vR (9, 0, 0)), some (vI a0)]) (st' := [vI 1]) (hp' := hp) (fun _ => rfl) ?_
      exact exX9_requireBytes_17 h
def fX9_requireArgument (a0 : Int32) (hp : HP) : Option (Unit ⊕ Nat) := if a0 = 0 then (some (.inr 2)) else (some (.inl ()))
theorem exX9_requireArgument {d : Nat} {a0 : Int32} {hp : HP} {v : (Unit ⊕ Nat)} (h : fX9_requireArgument a0 hp = some v) : Calls (d + 6) 149 [vI a0] hp (rsT rsV v hp) := by
  replace h : (if a0 = 0 then (some (.inr 2)) else (some (.inl ()))) = some v := h
  show Ex (d + 6) kX9_requireArgument 0 [some (vI a0)] [] hp _
  refine Ex.go 1 (pc' := 1) (ls' := [some (vI a0)]) (st' := [vI a0]) (hp' := hp) (fun _ => rfl) ?_
  refine Ex.ifc rfl ?_
  by_cases hc : a0 = 0
  · rw [if_pos hc] at h
    rw [brI_ne_p hc]
    show Ex (d + 6) kX9_requireArgument 4 [some (vI a0)] [] hp _
    cases h
    exact Ex.thr rfl rfl rfl
  · rw [if_neg hc] at h
    rw [brI_ne_n hc]
    show Ex (d + 6) kX9_requireArgument 15 [some (vI a0)] [] hp _
    cases h
    exact Ex.ret rfl rfl rfl
def fX9_load_75 (hp : HP) : Option ((Int32 ⊕ Nat) × HP) := some ((.inl (hp (0, 0, 0) 5)), hp)
theorem exX9_load_75 {d : Nat} {j1 : Option VL} {hp : HP} {v : ((Int32 ⊕ Nat) × HP)} (h : fX9_load_75 hp = some v) : Ex (d + 8) kX9_load 75 [some (vR (9, 0, 0)), j1] [] hp (rsT rsI v.1 v.2) := by
  replace h : (some ((.inl (hp (0, 0, 0) 5)), hp)) = some v := h
  refine Ex.go 4 (pc' := 85) (ls' := [some (vR (9, 0, 0)), j1]) (st' := [vI (hp (0, 0, 0) 5)]) (hp' := hp) (fun _ => rfl) ?_
  cases h
  exact Ex.ret rfl rfl rfl
def fX9_load_67 (hp : HP) : Option ((Int32 ⊕ Nat) × HP) := fX9_load_75 (up hp (8, 0, 1) 1 0)
theorem exX9_load_67 {d : Nat} {j1 : Option VL} {hp : HP} {v : ((Int32 ⊕ Nat) × HP)} (h : fX9_load_67 hp = some v) : Ex (d + 8) kX9_load 67 [some (vR (9, 0, 0)), j1] [] hp (rsT rsI v.1 v.2) := by
  replace h : (fX9_load_75 (up hp (8, 0, 1) 1 0)) = some v := h
  refine Ex.go 3 (pc' := 72) (ls' := [some (vR (9, 0, 0)), j1]) (st' := [vI 0, vR (8, 0, 1)]) (hp' := hp) (fun _ => rfl) ?_
  refine Ex.putz rfl rfl rfl (by decide) rfl ?_
  show Ex (d + 8) kX9_load 75 [some (vR (9, 0, 0)), j1] [] (up hp (8, 0, 1) 1 0) _
  exact exX9_load_75 h
def fX9_load_33 (y0 : Int32) (hp : HP) : Option ((Int32 ⊕ Nat) × HP) := (fX9_requireArgument y0 hp).bind fun q2 => Sum.elim (fun _ => (fX3_copyFrom 0 1 hp).bind fun hp5 => (fX2_clear (up hp5 (9, 0, 0) 2 1)).bind fun hp8 => fX9_load_67 (up hp8 (8, 0, 0) 1 0)) (fun E => some (.inr E, hp)) q2
theorem exX9_load_33 {d : Nat} {y0 : Int32} {j1 : Option VL} {hp : HP} {v : ((Int32 ⊕ Nat) × HP)} (h : fX9_load_33 y0 hp = some v) : Ex (d + 8) kX9_load 33 [some (vR (9, 0, 0)), j1] [vI y0] hp (rsT rsI v.1 v.2) := by
  replace h : ((fX9_requireArgument y0 hp).bind fun q2 => Sum.elim (fun _ => (fX3_copyFrom 0 1 hp).bind fun hp5 => (fX2_clear (up hp5 (9, 0, 0) 2 1)).bind fun hp8 => fX9_load_67 (up hp8 (8, 0, 0) 1 0)) (fun E => some (.inr E, hp)) q2) = some v := h
  obtain ⟨q2, hv, h⟩ := Option.bind_eq_some_iff.mp h
  rcases q2 with _ | E
  · replace h : ((fX3_copyFrom 0 1 hp).bind fun hp5 => (fX2_clear (up hp5 (9, 0, 0) 2 1)).bind fun hp8 => fX9_load_67 (up hp8 (8, 0, 0) 1 0)) = some v := h
    refine Ex.call (args := [vI y0]) (rest := []) rfl rfl rfl (exX9_requireArgument (d := d + 1) hv) ?_
    show Ex (d + 8) kX9_load 36 [some (vR (9, 0, 0)), j1] [] hp _
    refine Ex.go 4 (pc' := 44) (ls' := [some (vR (9, 0, 0)), j1]) (st' := [vR (3, 0, 1), vR (3, 0, 0)]) (hp' := hp) (fun _ => rfl) ?_
    obtain ⟨hp5, hv, h⟩ := Option.bind_eq_some_iff.mp h
    refine Ex.call (args := [vR (3, 0, 0), vR (3, 0, 1)]) (rest := []) rfl rfl rfl (exX3_copyFrom (d := d + 2) hv) ?_
    show Ex (d + 8) kX9_load 47 [some (vR (9, 0, 0)), j1] [] hp5 _
    refine Ex.go 2 (pc' := 49) (ls' := [some (vR (9, 0, 0)), j1]) (st' := [vI 1, vR (9, 0, 0)]) (hp' := hp5) (fun _ => rfl) ?_
    refine Ex.putz rfl rfl rfl (by decide) rfl ?_
    show Ex (d + 8) kX9_load 52 [some (vR (9, 0, 0)), j1] [] (up hp5 (9, 0, 0) 2 1) _
    refine Ex.go 2 (pc' := 56) (ls' := [some (vR (9, 0, 0)), j1]) (st' := [vR (2, 0, 0)]) (hp' := (up hp5 (9, 0, 0) 2 1)) (fun _ => rfl) ?_
    obtain ⟨hp8, hv, h⟩ := Option.bind_eq_some_iff.mp h
    refine Ex.call (args := [vR (2, 0, 0)]) (rest := []) rfl rfl rfl (exX2_clear (d := d + 7) hv) ?_
    show Ex (d + 8) kX9_load 59 [some (vR (9, 0, 0)), j1] [] hp8 _
    refine Ex.go 3 (pc' := 64) (ls' := [some (vR (9, 0, 0)), j1]) (st' := [vI 0, vR (8, 0, 0)]) (hp' := hp8) (fun _ => rfl) ?_
    refine Ex.putz rfl rfl rfl (by decide) rfl ?_
    show Ex (d + 8) kX9_load 67 [some (vR (9, 0, 0)), j1] [] (up hp8 (8, 0, 0) 1 0) _
    exact exX9_load_67 h
  · cases h
    exact Ex.callT (args := [vI y0]) (rest := []) rfl rfl rfl (exX9_requireArgument (d := d + 1) hv) rfl
def fX9_load_18 (hp : HP) : Option ((Int32 ⊕ Nat) × HP) := if (hp (5, 0, 0) 7) = 0 then (fX9_load_33 1 hp) else (fX9_load_33 0 hp)
theorem exX9_load_18 {d : Nat} {j1 : Option VL} {hp : HP} {v : ((Int32 ⊕ Nat) × HP)} (h : fX9_load_18 hp = some v) : Ex (d + 8) kX9_load 18 [some (vR (9, 0, 0)), j1] [] hp (rsT rsI v.1 v.2) := by
  replace h : (if (hp (5, 0, 0) 7) = 0 then (fX9_load_33 1 hp) else (fX9_load_33 0 hp)) = some v := h
  refine Ex.go 3 (pc' := 25) (ls' := [some (vR (9, 0, 0)), j1]) (st' := [vI (hp (5, 0, 0) 7)]) (hp' := hp) (fun _ => rfl) ?_
  refine Ex.ifc rfl ?_
  by_cases hc : (hp (5, 0, 0) 7) = 0
  · rw [if_pos hc] at h
    rw [brI_ne_p hc]
    show Ex (d + 8) kX9_load 28 [some (vR (9, 0, 0)), j1] [] hp _
    refine Ex.go 2 (pc' := 33) (ls' := [some (vR (9, 0, 0)), j1]) (st' := [vI 1]) (hp' := hp) (fun _ => rfl) ?_
    exact exX9_load_33 h
  · rw [if_neg hc] at h
    rw [brI_ne_n hc]
    show Ex (d + 8) kX9_load 32 [some (vR (9, 0, 0)), j1] [] hp _
    refine Ex.go 1 (pc' := 33) (ls' := [some (vR (9, 0, 0)), j1]) (st' := [vI 0]) (hp' := hp) (fun _ => rfl) ?_
    exact exX9_load_33 h
def fX9_load (a0 : Int32) (hp : HP) : Option ((Int32 ⊕ Nat) × HP) := (fX9_requireBytes a0 hp).bind fun q10 => Sum.elim (fun _ => (fX5_parse a0 hp).bind fun hp13 => fX9_load_18 (up hp13 (9, 0, 0) 1 0)) (fun E => some (.inr E, hp)) q10
theorem exX9_load {d : Nat} {a0 : Int32} {hp : HP} {v : ((Int32 ⊕ Nat) × HP)} (h : fX9_load a0 hp = some v) : Calls (d + 8) 87 [vR (9, 0, 0), vI a0] hp (rsT rsI v.1 v.2) := by
  replace h : ((fX9_requireBytes a0 hp).bind fun q10 => Sum.elim (fun _ => (fX5_parse a0 hp).bind fun hp13 => fX9_load_18 (up hp13 (9, 0, 0) 1 0)) (fun E => some (.inr E, hp)) q10) = some v := h
  show Ex (d + 8) kX9_load 0 [some (vR (9, 0, 0)), some (vI a0)] [] hp _
  refine Ex.go 2 (pc' := 2) (ls' := [some (vR (9, 0, 0)), some (vI a0)]) (st' := [vI a0, vR (9, 0, 0)]) (hp' := hp) (fun _ => rfl) ?_
  obtain ⟨q10, hv, h⟩ := Option.bind_eq_some_iff.mp h
  rcases q10 with _ | E
  · replace h : ((fX5_parse a0 hp).bind fun hp13 => fX9_load_18 (up hp13 (9, 0, 0) 1 0)) = some v := h
    refine Ex.call (args := [vR (9, 0, 0), vI a0]) (rest := []) rfl rfl rfl (exX9_requireBytes (d := d + 0) hv) ?_
    show Ex (d + 8) kX9_load 5 [some (vR (9, 0, 0)), some (vI a0)] [] hp _
    refine Ex.go 3 (pc' := 10) (ls' := [some (vR (9, 0, 0)), some (vI a0)]) (st' := [vI a0, vR (5, 0, 0)]) (hp' := hp) (fun _ => rfl) ?_
    obtain ⟨hp13, hv, h⟩ := Option.bind_eq_some_iff.mp h
    refine Ex.call (args := [vR (5, 0, 0), vI a0]) (rest := []) rfl rfl rfl (exX5_parse (d := d + 0) hv) ?_
    show Ex (d + 8) kX9_load 13 [some (vR (9, 0, 0)), some (vI a0)] [] hp13 _
    refine Ex.go 3 (pc' := 18) (ls' := [some (vR (9, 0, 0)), some (vI a0)]) (st' := []) (hp' := (up hp13 (9, 0, 0) 1 0)) (fun _ => rfl) ?_
    exact exX9_load_18 h
  · cases h
    exact Ex.callT (args := [vR (9, 0, 0), vI a0]) (rest := []) rfl rfl rfl (exX9_requireBytes (d := d + 0) hv) rfl
def fX9_parseError (hp : HP) : Option Int32 := some (hp (5, 0, 0) 7)
theorem exX9_parseError {d : Nat} {hp : HP} {v : Int32} (h : fX9_parseError hp = some v) : Calls (d + 0) 88 [vR (9, 0, 0)] hp (rsI v hp) := by
  replace h : (some (hp (5, 0, 0) 7)) = some v := h
  show Ex (d + 0) kX9_parseError 0 [some (vR (9, 0, 0))] [] hp _
  refine Ex.go 3 (pc' := 7) (ls' := [some (vR (9, 0, 0))]) (st' := [vI (hp (5, 0, 0) 7)]) (hp' := hp) (fun _ => rfl) ?_
  cases h
  exact Ex.ret rfl rfl rfl
def fX9_errorPosition (hp : HP) : Option Int32 := some (hp (5, 0, 0) 8)
theorem exX9_errorPosition {d : Nat} {hp : HP} {v : Int32} (h : fX9_errorPosition hp = some v) : Calls (d + 0) 89 [vR (9, 0, 0)] hp (rsI v hp) := by
  replace h : (some (hp (5, 0, 0) 8)) = some v := h
  show Ex (d + 0) kX9_errorPosition 0 [some (vR (9, 0, 0))] [] hp _
  refine Ex.go 3 (pc' := 7) (ls' := [some (vR (9, 0, 0))]) (st' := [vI (hp (5, 0, 0) 8)]) (hp' := hp) (fun _ => rfl) ?_
  cases h
  exact Ex.ret rfl rfl rfl
def fX9_buffered (hp : HP) : Option Int32 := some (hp (9, 0, 0) 1)
theorem exX9_buffered {d : Nat} {hp : HP} {v : Int32} (h : fX9_buffered hp = some v) : Calls (d + 0) 90 [vR (9, 0, 0)] hp (rsI v hp) := by
  replace h : (some (hp (9, 0, 0) 1)) = some v := h
  show Ex (d + 0) kX9_buffered 0 [some (vR (9, 0, 0))] [] hp _
  refine Ex.go 2 (pc' := 4) (ls' := [some (vR (9, 0, 0))]) (st' := [vI (hp (9, 0, 0) 1)]) (hp' := hp) (fun _ => rfl) ?_
  cases h
  exact Ex.ret rfl rfl rfl
def fX9_requireLoaded (hp : HP) : Option (Unit ⊕ Nat) := if (hp (9, 0, 0) 2) = 0 then (some (.inr 1)) else (some (.inl ()))
theorem exX9_requireLoaded {d : Nat} {hp : HP} {v : (Unit ⊕ Nat)} (h : fX9_requireLoaded hp = some v) : Calls (d + 6) 141 [vR (9, 0, 0)] hp (rsT rsV v hp) := by
  replace h : (if (hp (9, 0, 0) 2) = 0 then (some (.inr 1)) else (some (.inl ()))) = some v := h
  show Ex (d + 6) kX9_requireLoaded 0 [some (vR (9, 0, 0))] [] hp _
  refine Ex.go 2 (pc' := 4) (ls' := [some (vR (9, 0, 0))]) (st' := [vI (hp (9, 0, 0) 2)]) (hp' := hp) (fun _ => rfl) ?_
  refine Ex.ifc rfl ?_
  by_cases hc : (hp (9, 0, 0) 2) = 0
  · rw [if_pos hc] at h
    rw [brI_ne_p hc]
    show Ex (d + 6) kX9_requireLoaded 7 [some (vR (9, 0, 0))] [] hp _
    cases h
    exact Ex.thr rfl rfl rfl
  · rw [if_neg hc] at h
    rw [brI_ne_n hc]
    show Ex (d + 6) kX9_requireLoaded 18 [some (vR (9, 0, 0))] [] hp _
    cases h
    exact Ex.ret rfl rfl rfl
def fX9_count_19 (x1 : Int32) (y0 : Int32) (hp : HP) : Option (Int32 ⊕ Nat) := (fX9_requireArgument y0 hp).bind fun q2 => Sum.elim (fun _ => if x1 = 0 then (some (.inl (hp (0, 0, 0) 5))) else (if x1 = 1 then ((fX1_stopsSet 0 hp).bind fun v4 => some (.inl v4)) else (if x1 = 2 then (some (.inl (hp (3, 0, 0) 6))) else (if x1 = 11 then (some (.inl (hp (6, 0, 0) 4))) else ((fX7_at 9 0 x1 hp).bind fun v3 => some (.inl v3)))))) (fun E => some (.inr E)) q2
theorem exX9_count_19 {d : Nat} {x1 : Int32} {y0 : Int32} {hp : HP} {v : (Int32 ⊕ Nat)} (h : fX9_count_19 x1 y0 hp = some v) : Ex (d + 7) kX9_count 19 [some (vR (9, 0, 0)), some (vI x1)] [vI y0] hp (rsT rsI v hp) := by
  replace h : ((fX9_requireArgument y0 hp).bind fun q2 => Sum.elim (fun _ => if x1 = 0 then (some (.inl (hp (0, 0, 0) 5))) else (if x1 = 1 then ((fX1_stopsSet 0 hp).bind fun v4 => some (.inl v4)) else (if x1 = 2 then (some (.inl (hp (3, 0, 0) 6))) else (if x1 = 11 then (some (.inl (hp (6, 0, 0) 4))) else ((fX7_at 9 0 x1 hp).bind fun v3 => some (.inl v3)))))) (fun E => some (.inr E)) q2) = some v := h
  obtain ⟨q2, hv, h⟩ := Option.bind_eq_some_iff.mp h
  rcases q2 with _ | E
  · replace h : (if x1 = 0 then (some (.inl (hp (0, 0, 0) 5))) else (if x1 = 1 then ((fX1_stopsSet 0 hp).bind fun v4 => some (.inl v4)) else (if x1 = 2 then (some (.inl (hp (3, 0, 0) 6))) else (if x1 = 11 then (some (.inl (hp (6, 0, 0) 4))) else ((fX7_at 9 0 x1 hp).bind fun v3 => some (.inl v3)))))) = some v := h
    refine Ex.call (args := [vI y0]) (rest := []) rfl rfl rfl (exX9_requireArgument (d := d + 0) hv) ?_
    show Ex (d + 7) kX9_count 22 [some (vR (9, 0, 0)), some (vI x1)] [] hp _
    refine Ex.go 1 (pc' := 23) (ls' := [some (vR (9, 0, 0)), some (vI x1)]) (st' := [vI x1]) (hp' := hp) (fun _ => rfl) ?_
    refine Ex.lsw rfl ?_
    refine sw_c (k := 0) rfl (fun hc => ?_) (fun hc => ?_)
    · rw [if_pos hc] at h
      show Ex (d + 7) kX9_count 64 [some (vR (9, 0, 0)), some (vI x1)] [] hp _
      refine Ex.go 4 (pc' := 74) (ls' := [some (vR (9, 0, 0)), some (vI x1)]) (st' := [vI (hp (0, 0, 0) 5)]) (hp' := hp) (fun _ => rfl) ?_
      cases h
      exact Ex.ret rfl rfl rfl
    rw [if_neg hc] at h
    refine sw_c (k := 1) rfl (fun hc => ?_) (fun hc => ?_)
    · rw [if_pos hc] at h
      show Ex (d + 7) kX9_count 75 [some (vR (9, 0, 0)), some (vI x1)] [] hp _
      refine Ex.go 3 (pc' := 82) (ls' := [some (vR (9, 0, 0)), some (vI x1)]) (st' := [vR (1, 0, 0)]) (hp' := hp) (fun _ => rfl) ?_
      obtain ⟨v5, hv, h⟩ := Option.bind_eq_some_iff.mp h
      refine Ex.call (args := [vR (1, 0, 0)]) (rest := []) rfl rfl rfl (exX1_stopsSet (d := d + 4) hv) ?_
      show Ex (d + 7) kX9_count 85 [some (vR (9, 0, 0)), some (vI x1)] [vI v5] hp _
      cases h
      exact Ex.ret rfl rfl rfl
    rw [if_neg hc] at h
    refine sw_c (k := 2) rfl (fun hc => ?_) (fun hc => ?_)
    · rw [if_pos hc] at h
      show Ex (d + 7) kX9_count 86 [some (vR (9, 0, 0)), some (vI x1)] [] hp _
      refine Ex.go 3 (pc' := 93) (ls' := [some (vR (9, 0, 0)), some (vI x1)]) (st' := [vI (hp (3, 0, 0) 6)]) (hp' := hp) (fun _ => rfl) ?_
      cases h
      exact Ex.ret rfl rfl rfl
    rw [if_neg hc] at h
    refine sw_c (k := 11) rfl (fun hc => ?_) (fun hc => ?_)
    · rw [if_pos hc] at h
      show Ex (d + 7) kX9_count 94 [some (vR (9, 0, 0)), some (vI x1)] [] hp _
      refine Ex.go 4 (pc' := 104) (ls' := [some (vR (9, 0, 0)), some (vI x1)]) (st' := [vI (hp (6, 0, 0) 4)]) (hp' := hp) (fun _ => rfl) ?_
      cases h
      exact Ex.ret rfl rfl rfl
    rw [if_neg hc] at h
    show Ex (d + 7) kX9_count 105 [some (vR (9, 0, 0)), some (vI x1)] [] hp _
    refine Ex.go 4 (pc' := 113) (ls' := [some (vR (9, 0, 0)), some (vI x1)]) (st' := [vI x1, vR (7, 9, 0)]) (hp' := hp) (fun _ => rfl) ?_
    obtain ⟨v3, hv, h⟩ := Option.bind_eq_some_iff.mp h
    refine Ex.call (args := [vR (7, 9, 0), vI x1]) (rest := []) rfl rfl rfl (exX7_at (d := d + 6) hv) ?_
    show Ex (d + 7) kX9_count 116 [some (vR (9, 0, 0)), some (vI x1)] [vI v3] hp _
    cases h
    exact Ex.ret rfl rfl rfl
  · cases h
    exact Ex.callT (args := [vI y0]) (rest := []) rfl rfl rfl (exX9_requireArgument (d := d + 0) hv) rfl
def fX9_count_18 (x1 : Int32) (hp : HP) : Option (Int32 ⊕ Nat) := fX9_count_19 x1 0 hp
theorem exX9_count_18 {d : Nat} {x1 : Int32} {hp : HP} {v : (Int32 ⊕ Nat)} (h : fX9_count_18 x1 hp = some v) : Ex (d + 7) kX9_count 18 [some (vR (9, 0, 0)), some (vI x1)] [] hp (rsT rsI v hp) := by
  replace h : (fX9_count_19 x1 0 hp) = some v := h
  refine Ex.go 1 (pc' := 19) (ls' := [some (vR (9, 0, 0)), some (vI x1)]) (st' := [vI 0]) (hp' := hp) (fun _ => rfl) ?_
  exact exX9_count_19 h
def fX9_count (a0 : Int32) (hp : HP) : Option (Int32 ⊕ Nat) := (fX9_requireLoaded hp).bind fun q7 => Sum.elim (fun _ => if a0 < 0 then (fX9_count_18 a0 hp) else (if a0 < 14 then (fX9_count_19 a0 1 hp) else (fX9_count_18 a0 hp))) (fun E => some (.inr E)) q7
theorem exX9_count {d : Nat} {a0 : Int32} {hp : HP} {v : (Int32 ⊕ Nat)} (h : fX9_count a0 hp = some v) : Calls (d + 7) 91 [vR (9, 0, 0), vI a0] hp (rsT rsI v hp) := by
  replace h : ((fX9_requireLoaded hp).bind fun q7 => Sum.elim (fun _ => if a0 < 0 then (fX9_count_18 a0 hp) else (if a0 < 14 then (fX9_count_19 a0 1 hp) else (fX9_count_18 a0 hp))) (fun E => some (.inr E)) q7) = some v := h
  show Ex (d + 7) kX9_count 0 [some (vR (9, 0, 0)), some (vI a0)] [] hp _
  refine Ex.go 1 (pc' := 1) (ls' := [some (vR (9, 0, 0)), some (vI a0)]) (st' := [vR (9, 0, 0)]) (hp' := hp) (fun _ => rfl) ?_
  obtain ⟨q7, hv, h⟩ := Option.bind_eq_some_iff.mp h
  rcases q7 with _ | E
  · replace h : (if a0 < 0 then (fX9_count_18 a0 hp) else (if a0 < 14 then (fX9_count_19 a0 1 hp) else (fX9_count_18 a0 hp))) = some v := h
    refine Ex.call (args := [vR (9, 0, 0)]) (rest := []) rfl rfl rfl (exX9_requireLoaded (d := d + 0) hv) ?_
    show Ex (d + 7) kX9_count 4 [some (vR (9, 0, 0)), some (vI a0)] [] hp _
    refine Ex.go 1 (pc' := 5) (ls' := [some (vR (9, 0, 0)), some (vI a0)]) (st' := [vI a0]) (hp' := hp) (fun _ => rfl) ?_
    refine Ex.ifc rfl ?_
    by_cases hc : a0 < 0
    · rw [if_pos hc] at h
      rw [brI_lt_p hc]
      show Ex (d + 7) kX9_count 18 [some (vR (9, 0, 0)), some (vI a0)] [] hp _
      exact exX9_count_18 h
    · rw [if_neg hc] at h
      rw [brI_lt_n hc]
      show Ex (d + 7) kX9_count 8 [some (vR (9, 0, 0)), some (vI a0)] [] hp _
      refine Ex.go 2 (pc' := 11) (ls' := [some (vR (9, 0, 0)), some (vI a0)]) (st' := [vI 14, vI a0]) (hp' := hp) (fun _ => rfl) ?_
      refine Ex.icmp rfl ?_
      by_cases hc : a0 < 14
      · rw [if_pos hc] at h
        rw [brI_ge_p hc]
        show Ex (d + 7) kX9_count 14 [some (vR (9, 0, 0)), some (vI a0)] [] hp _
        refine Ex.go 2 (pc' := 19) (ls' := [some (vR (9, 0, 0)), some (vI a0)]) (st' := [vI 1]) (hp' := hp) (fun _ => rfl) ?_
        exact exX9_count_19 h
      · rw [if_neg hc] at h
        rw [brI_ge_n hc]
        show Ex (d + 7) kX9_count 18 [some (vR (9, 0, 0)), some (vI a0)] [] hp _
        exact exX9_count_18 h
  · cases h
    exact Ex.callT (args := [vR (9, 0, 0)]) (rest := []) rfl rfl rfl (exX9_requireLoaded (d := d + 0) hv) rfl
def fX9_setting_19 (x1 : Int32) (y0 : Int32) (hp : HP) : Option (Int32 ⊕ Nat) := (fX9_requireArgument y0 hp).bind fun q2 => Sum.elim (fun _ => (fX7_at 0 0 x1 hp).bind fun v3 => some (.inl v3)) (fun E => some (.inr E)) q2
theorem exX9_setting_19 {d : Nat} {x1 : Int32} {y0 : Int32} {hp : HP} {v : (Int32 ⊕ Nat)} (h : fX9_setting_19 x1 y0 hp = some v) : Ex (d + 7) kX9_setting 19 [some (vR (9, 0, 0)), some (vI x1)] [vI y0] hp (rsT rsI v hp) := by
  replace h : ((fX9_requireArgument y0 hp).bind fun q2 => Sum.elim (fun _ => (fX7_at 0 0 x1 hp).bind fun v3 => some (.inl v3)) (fun E => some (.inr E)) q2) = some v := h
  obtain ⟨q2, hv, h⟩ := Option.bind_eq_some_iff.mp h
  rcases q2 with _ | E
  · replace h : ((fX7_at 0 0 x1 hp).bind fun v3 => some (.inl v3)) = some v := h
    refine Ex.call (args := [vI y0]) (rest := []) rfl rfl rfl (exX9_requireArgument (d := d + 0) hv) ?_
    show Ex (d + 7) kX9_setting 22 [some (vR (9, 0, 0)), some (vI x1)] [] hp _
    refine Ex.go 4 (pc' := 30) (ls' := [some (vR (9, 0, 0)), some (vI x1)]) (st' := [vI x1, vR (7, 0, 0)]) (hp' := hp) (fun _ => rfl) ?_
    obtain ⟨v3, hv, h⟩ := Option.bind_eq_some_iff.mp h
    refine Ex.call (args := [vR (7, 0, 0), vI x1]) (rest := []) rfl rfl rfl (exX7_at (d := d + 6) hv) ?_
    show Ex (d + 7) kX9_setting 33 [some (vR (9, 0, 0)), some (vI x1)] [vI v3] hp _
    cases h
    exact Ex.ret rfl rfl rfl
  · cases h
    exact Ex.callT (args := [vI y0]) (rest := []) rfl rfl rfl (exX9_requireArgument (d := d + 0) hv) rfl
def fX9_setting_18 (x1 : Int32) (hp : HP) : Option (Int32 ⊕ Nat) := fX9_setting_19 x1 0 hp
theorem exX9_setting_18 {d : Nat} {x1 : Int32} {hp : HP} {v : (Int32 ⊕ Nat)} (h : fX9_setting_18 x1 hp = some v) : Ex (d + 7) kX9_setting 18 [some (vR (9, 0, 0)), some (vI x1)] [] hp (rsT rsI v hp) := by
  replace h : (fX9_setting_19 x1 0 hp) = some v := h
  refine Ex.go 1 (pc' := 19) (ls' := [some (vR (9, 0, 0)), some (vI x1)]) (st' := [vI 0]) (hp' := hp) (fun _ => rfl) ?_
  exact exX9_setting_19 h
def fX9_setting (a0 : Int32) (hp : HP) : Option (Int32 ⊕ Nat) := (fX9_requireLoaded hp).bind fun q5 => Sum.elim (fun _ => if a0 < 0 then (fX9_setting_18 a0 hp) else (if a0 < 13 then (fX9_setting_19 a0 1 hp) else (fX9_setting_18 a0 hp))) (fun E => some (.inr E)) q5
theorem exX9_setting {d : Nat} {a0 : Int32} {hp : HP} {v : (Int32 ⊕ Nat)} (h : fX9_setting a0 hp = some v) : Calls (d + 7) 92 [vR (9, 0, 0), vI a0] hp (rsT rsI v hp) := by
  replace h : ((fX9_requireLoaded hp).bind fun q5 => Sum.elim (fun _ => if a0 < 0 then (fX9_setting_18 a0 hp) else (if a0 < 13 then (fX9_setting_19 a0 1 hp) else (fX9_setting_18 a0 hp))) (fun E => some (.inr E)) q5) = some v := h
  show Ex (d + 7) kX9_setting 0 [some (vR (9, 0, 0)), some (vI a0)] [] hp _
  refine Ex.go 1 (pc' := 1) (ls' := [some (vR (9, 0, 0)), some (vI a0)]) (st' := [vR (9, 0, 0)]) (hp' := hp) (fun _ => rfl) ?_
  obtain ⟨q5, hv, h⟩ := Option.bind_eq_some_iff.mp h
  rcases q5 with _ | E
  · replace h : (if a0 < 0 then (fX9_setting_18 a0 hp) else (if a0 < 13 then (fX9_setting_19 a0 1 hp) else (fX9_setting_18 a0 hp))) = some v := h
    refine Ex.call (args := [vR (9, 0, 0)]) (rest := []) rfl rfl rfl (exX9_requireLoaded (d := d + 0) hv) ?_
    show Ex (d + 7) kX9_setting 4 [some (vR (9, 0, 0)), some (vI a0)] [] hp _
    refine Ex.go 1 (pc' := 5) (ls' := [some (vR (9, 0, 0)), some (vI a0)]) (st' := [vI a0]) (hp' := hp) (fun _ => rfl) ?_
    refine Ex.ifc rfl ?_
    by_cases hc : a0 < 0
    · rw [if_pos hc] at h
      rw [brI_lt_p hc]
      show Ex (d + 7) kX9_setting 18 [some (vR (9, 0, 0)), some (vI a0)] [] hp _
      exact exX9_setting_18 h
    · rw [if_neg hc] at h
      rw [brI_lt_n hc]
      show Ex (d + 7) kX9_setting 8 [some (vR (9, 0, 0)), some (vI a0)] [] hp _
      refine Ex.go 2 (pc' := 11) (ls' := [some (vR (9, 0, 0)), some (vI a0)]) (st' := [vI 13, vI a0]) (hp' := hp) (fun _ => rfl) ?_
      refine Ex.icmp rfl ?_
      by_cases hc : a0 < 13
      · rw [if_pos hc] at h
        rw [brI_ge_p hc]
        show Ex (d + 7) kX9_setting 14 [some (vR (9, 0, 0)), some (vI a0)] [] hp _
        refine Ex.go 2 (pc' := 19) (ls' := [some (vR (9, 0, 0)), some (vI a0)]) (st' := [vI 1]) (hp' := hp) (fun _ => rfl) ?_
        exact exX9_setting_19 h
      · rw [if_neg hc] at h
        rw [brI_ge_n hc]
        show Ex (d + 7) kX9_setting 18 [some (vR (9, 0, 0)), some (vI a0)] [] hp _
        exact exX9_setting_18 h
  · cases h
    exact Ex.callT (args := [vR (9, 0, 0)]) (rest := []) rfl rfl rfl (exX9_requireLoaded (d := d + 0) hv) rfl
def fX9_carriage_18 (x1 : Int32) (y0 : Int32) (hp : HP) : Option (Int32 ⊕ Nat) := (fX9_requireArgument y0 hp).bind fun q2 => Sum.elim (fun _ => if x1 = 0 then (some (.inl (hp (1, 0, 0) 2))) else (if x1 = 1 then (some (.inl (hp (1, 0, 0) 3))) else (if x1 = 2 then ((fX1_locksAt 0 (hp (1, 0, 0) 3) hp).bind fun v3 => if v3 = 0 then (some (.inl 0)) else (some (.inl 1))) else (if (hp (1, 0, 0) 4) = 0 then (some (.inl 0)) else (some (.inl 1)))))) (fun E => some (.inr E)) q2
theorem exX9_carriage_18 {d : Nat} {x1 : Int32} {y0 : Int32} {j2 : Option VL} {hp : HP} {v : (Int32 ⊕ Nat)} (h : fX9_carriage_18 x1 y0 hp = some v) : Ex (d + 7) kX9_carriage 18 [some (vR (9, 0, 0)), some (vI x1), j2] [vI y0] hp (rsT rsI v hp) := by
  replace h : ((fX9_requireArgument y0 hp).bind fun q2 => Sum.elim (fun _ => if x1 = 0 then (some (.inl (hp (1, 0, 0) 2))) else (if x1 = 1 then (some (.inl (hp (1, 0, 0) 3))) else (if x1 = 2 then ((fX1_locksAt 0 (hp (1, 0, 0) 3) hp).bind fun v3 => if v3 = 0 then (some (.inl 0)) else (some (.inl 1))) else (if (hp (1, 0, 0) 4) = 0 then (some (.inl 0)) else (some (.inl 1)))))) (fun E => some (.inr E)) q2) = some v := h
  obtain ⟨q2, hv, h⟩ := Option.bind_eq_some_iff.mp h
  rcases q2 with _ | E
  · replace h : (if x1 = 0 then (some (.inl (hp (1, 0, 0) 2))) else (if x1 = 1 then (some (.inl (hp (1, 0, 0) 3))) else (if x1 = 2 then ((fX1_locksAt 0 (hp (1, 0, 0) 3) hp).bind fun v3 => if v3 = 0 then (some (.inl 0)) else (some (.inl 1))) else (if (hp (1, 0, 0) 4) = 0 then (some (.inl 0)) else (some (.inl 1)))))) = some v := h
    refine Ex.call (args := [vI y0]) (rest := []) rfl rfl rfl (exX9_requireArgument (d := d + 0) hv) ?_
    show Ex (d + 7) kX9_carriage 21 [some (vR (9, 0, 0)), some (vI x1), j2] [] hp _
    refine Ex.go 5 (pc' := 30) (ls' := [some (vR (9, 0, 0)), some (vI x1), some (vR (1, 0, 0))]) (st' := [vI x1]) (hp' := hp) (fun _ => rfl) ?_
    refine Ex.tsw rfl ?_
    refine sw_c (k := 0) rfl (fun hc => ?_) (fun hc => ?_)
    · rw [if_pos hc] at h
      show Ex (d + 7) kX9_carriage 56 [some (vR (9, 0, 0)), some (vI x1), some (vR (1, 0, 0))] [] hp _
      refine Ex.go 2 (pc' := 60) (ls' := [some (vR (9, 0, 0)), some (vI x1), some (vR (1, 0, 0))]) (st' := [vI (hp (1, 0, 0) 2)]) (hp' := hp) (fun _ => rfl) ?_
      cases h
      exact Ex.ret rfl rfl rfl
    rw [if_neg hc] at h
    refine sw_c (k := 1) rfl (fun hc => ?_) (fun hc => ?_)
    · rw [if_pos hc] at h
      show Ex (d + 7) kX9_carriage 61 [some (vR (9, 0, 0)), some (vI x1), some (vR (1, 0, 0))] [] hp _
      refine Ex.go 2 (pc' := 65) (ls' := [some (vR (9, 0, 0)), some (vI x1), some (vR (1, 0, 0))]) (st' := [vI (hp (1, 0, 0) 3)]) (hp' := hp) (fun _ => rfl) ?_
      cases h
      exact Ex.ret rfl rfl rfl
    rw [if_neg hc] at h
    refine sw_c (k := 2) rfl (fun hc => ?_) (fun hc => ?_)
    · rw [if_pos hc] at h
      show Ex (d + 7) kX9_carriage 66 [some (vR (9, 0, 0)), some (vI x1), some (vR (1, 0, 0))] [] hp _
      refine Ex.go 3 (pc' := 71) (ls' := [some (vR (9, 0, 0)), some (vI x1), some (vR (1, 0, 0))]) (st' := [vI (hp (1, 0, 0) 3), vR (1, 0, 0)]) (hp' := hp) (fun _ => rfl) ?_
      obtain ⟨v4, hv, h⟩ := Option.bind_eq_some_iff.mp h
      refine Ex.call (args := [vR (1, 0, 0), vI (hp (1, 0, 0) 3)]) (rest := []) rfl rfl rfl (exX1_locksAt (d := d + 5) hv) ?_
      show Ex (d + 7) kX9_carriage 74 [some (vR (9, 0, 0)), some (vI x1), some (vR (1, 0, 0))] [vI v4] hp _
      refine Ex.ifc rfl ?_
      by_cases hc : v4 = 0
      · rw [if_pos hc] at h
        rw [brI_eq_p hc]
        show Ex (d + 7) kX9_carriage 81 [some (vR (9, 0, 0)), some (vI x1), some (vR (1, 0, 0))] [] hp _
        refine Ex.go 1 (pc' := 82) (ls' := [some (vR (9, 0, 0)), some (vI x1), some (vR (1, 0, 0))]) (st' := [vI 0]) (hp' := hp) (fun _ => rfl) ?_
        cases h
        exact Ex.ret rfl rfl rfl
      · rw [if_neg hc] at h
        rw [brI_eq_n hc]
        show Ex (d + 7) kX9_carriage 77 [some (vR (9, 0, 0)), some (vI x1), some (vR (1, 0, 0))] [] hp _
        refine Ex.go 2 (pc' := 82) (ls' := [some (vR (9, 0, 0)), some (vI x1), some (vR (1, 0, 0))]) (st' := [vI 1]) (hp' := hp) (fun _ => rfl) ?_
        cases h
        exact Ex.ret rfl rfl rfl
    rw [if_neg hc] at h
    show Ex (d + 7) kX9_carriage 83 [some (vR (9, 0, 0)), some (vI x1), some (vR (1, 0, 0))] [] hp _
    refine Ex.go 2 (pc' := 87) (ls' := [some (vR (9, 0, 0)), some (vI x1), some (vR (1, 0, 0))]) (st' := [vI (hp (1, 0, 0) 4)]) (hp' := hp) (fun _ => rfl) ?_
    refine Ex.ifc rfl ?_
    by_cases hc : (hp (1, 0, 0) 4) = 0
    · rw [if_pos hc] at h
      rw [brI_eq_p hc]
      show Ex (d + 7) kX9_carriage 94 [some (vR (9, 0, 0)), some (vI x1), some (vR (1, 0, 0))] [] hp _
      refine Ex.go 1 (pc' := 95) (ls' := [some (vR (9, 0, 0)), some (vI x1), some (vR (1, 0, 0))]) (st' := [vI 0]) (hp' := hp) (fun _ => rfl) ?_
      cases h
      exact Ex.ret rfl rfl rfl
    · rw [if_neg hc] at h
      rw [brI_eq_n hc]
      show Ex (d + 7) kX9_carriage 90 [some (vR (9, 0, 0)), some (vI x1), some (vR (1, 0, 0))] [] hp _
      refine Ex.go 2 (pc' := 95) (ls' := [some (vR (9, 0, 0)), some (vI x1), some (vR (1, 0, 0))]) (st' := [vI 1]) (hp' := hp) (fun _ => rfl) ?_
      cases h
      exact Ex.ret rfl rfl rfl
  · cases h
    exact Ex.callT (args := [vI y0]) (rest := []) rfl rfl rfl (exX9_requireArgument (d := d + 0) hv) rfl
def fX9_carriage_17 (x1 : Int32) (hp : HP) : Option (Int32 ⊕ Nat) := fX9_carriage_18 x1 0 hp
theorem exX9_carriage_17 {d : Nat} {x1 : Int32} {j2 : Option VL} {hp : HP} {v : (Int32 ⊕ Nat)} (h : fX9_carriage_17 x1 hp = some v) : Ex (d + 7) kX9_carriage 17 [some (vR (9, 0, 0)), some (vI x1), j2] [] hp (rsT rsI v hp) := by
  replace h : (fX9_carriage_18 x1 0 hp) = some v := h
  refine Ex.go 1 (pc' := 18) (ls' := [some (vR (9, 0, 0)), some (vI x1), j2]) (st' := [vI 0]) (hp' := hp) (fun _ => rfl) ?_
  exact exX9_carriage_18 h
def fX9_carriage (a0 : Int32) (hp : HP) : Option (Int32 ⊕ Nat) := (fX9_requireLoaded hp).bind fun q6 => Sum.elim (fun _ => if a0 < 0 then (fX9_carriage_17 a0 hp) else (if 3 < a0 then (fX9_carriage_17 a0 hp) else (fX9_carriage_18 a0 1 hp))) (fun E => some (.inr E)) q6
theorem exX9_carriage {d : Nat} {a0 : Int32} {hp : HP} {v : (Int32 ⊕ Nat)} (h : fX9_carriage a0 hp = some v) : Calls (d + 7) 93 [vR (9, 0, 0), vI a0] hp (rsT rsI v hp) := by
  replace h : ((fX9_requireLoaded hp).bind fun q6 => Sum.elim (fun _ => if a0 < 0 then (fX9_carriage_17 a0 hp) else (if 3 < a0 then (fX9_carriage_17 a0 hp) else (fX9_carriage_18 a0 1 hp))) (fun E => some (.inr E)) q6) = some v := h
  show Ex (d + 7) kX9_carriage 0 [some (vR (9, 0, 0)), some (vI a0), none] [] hp _
  refine Ex.go 1 (pc' := 1) (ls' := [some (vR (9, 0, 0)), some (vI a0), none]) (st' := [vR (9, 0, 0)]) (hp' := hp) (fun _ => rfl) ?_
  obtain ⟨q6, hv, h⟩ := Option.bind_eq_some_iff.mp h
  rcases q6 with _ | E
  · replace h : (if a0 < 0 then (fX9_carriage_17 a0 hp) else (if 3 < a0 then (fX9_carriage_17 a0 hp) else (fX9_carriage_18 a0 1 hp))) = some v := h
    refine Ex.call (args := [vR (9, 0, 0)]) (rest := []) rfl rfl rfl (exX9_requireLoaded (d := d + 0) hv) ?_
    show Ex (d + 7) kX9_carriage 4 [some (vR (9, 0, 0)), some (vI a0), none] [] hp _
    refine Ex.go 1 (pc' := 5) (ls' := [some (vR (9, 0, 0)), some (vI a0), none]) (st' := [vI a0]) (hp' := hp) (fun _ => rfl) ?_
    refine Ex.ifc rfl ?_
    by_cases hc : a0 < 0
    · rw [if_pos hc] at h
      rw [brI_lt_p hc]
      show Ex (d + 7) kX9_carriage 17 [some (vR (9, 0, 0)), some (vI a0), none] [] hp _
      exact exX9_carriage_17 h
    · rw [if_neg hc] at h
      rw [brI_lt_n hc]
      show Ex (d + 7) kX9_carriage 8 [some (vR (9, 0, 0)), some (vI a0), none] [] hp _
      refine Ex.go 2 (pc' := 10) (ls' := [some (vR (9, 0, 0)), some (vI a0), none]) (st' := [vI 3, vI a0]) (hp' := hp) (fun _ => rfl) ?_
      refine Ex.icmp rfl ?_
      by_cases hc : 3 < a0
      · rw [if_pos hc] at h
        rw [brI_gt_p hc]
        show Ex (d + 7) kX9_carriage 17 [some (vR (9, 0, 0)), some (vI a0), none] [] hp _
        exact exX9_carriage_17 h
      · rw [if_neg hc] at h
        rw [brI_gt_n hc]
        show Ex (d + 7) kX9_carriage 13 [some (vR (9, 0, 0)), some (vI a0), none] [] hp _
        refine Ex.go 2 (pc' := 18) (ls' := [some (vR (9, 0, 0)), some (vI a0), none]) (st' := [vI 1]) (hp' := hp) (fun _ => rfl) ?_
        exact exX9_carriage_18 h
  · cases h
    exact Ex.callT (args := [vR (9, 0, 0)]) (rest := []) rfl rfl rfl (exX9_requireLoaded (d := d + 0) hv) rfl
def fX9_requireBar_23 (y0 : Int32) (hp : HP) : Option (Unit ⊕ Nat) := (fX9_requireIndex y0 hp).bind fun q2 => Sum.elim (fun _ => some (.inl ())) (fun E => some (.inr E)) q2
theorem exX9_requireBar_23 {d : Nat} {y0 : Int32} {j1 : Option VL} {hp : HP} {v : (Unit ⊕ Nat)} (h : fX9_requireBar_23 y0 hp = some v) : Ex (d + 7) kX9_requireBar 23 [some (vR (9, 0, 0)), j1] [vI y0] hp (rsT rsV v hp) := by
  replace h : ((fX9_requireIndex y0 hp).bind fun q2 => Sum.elim (fun _ => some (.inl ())) (fun E => some (.inr E)) q2) = some v := h
  obtain ⟨q2, hv, h⟩ := Option.bind_eq_some_iff.mp h
  rcases q2 with _ | E
  · replace h : (some (.inl ())) = some v := h
    refine Ex.call (args := [vI y0]) (rest := []) rfl rfl rfl (exX9_requireIndex (d := d + 0) hv) ?_
    show Ex (d + 7) kX9_requireBar 26 [some (vR (9, 0, 0)), j1] [] hp _
    cases h
    exact Ex.ret rfl rfl rfl
  · cases h
    exact Ex.callT (args := [vI y0]) (rest := []) rfl rfl rfl (exX9_requireIndex (d := d + 0) hv) rfl
def fX9_requireBar_22 (hp : HP) : Option (Unit ⊕ Nat) := fX9_requireBar_23 0 hp
theorem exX9_requireBar_22 {d : Nat} {j1 : Option VL} {hp : HP} {v : (Unit ⊕ Nat)} (h : fX9_requireBar_22 hp = some v) : Ex (d + 7) kX9_requireBar 22 [some (vR (9, 0, 0)), j1] [] hp (rsT rsV v hp) := by
  replace h : (fX9_requireBar_23 0 hp) = some v := h
  refine Ex.go 1 (pc' := 23) (ls' := [some (vR (9, 0, 0)), j1]) (st' := [vI 0]) (hp' := hp) (fun _ => rfl) ?_
  exact exX9_requireBar_23 h
def fX9_requireBar (a0 : Int32) (hp : HP) : Option (Unit ⊕ Nat) := if a0 < 0 then (fX9_requireBar_22 hp) else (if a0 < (hp (0, 0, 0) 5) then (fX9_requireBar_23 1 hp) else (fX9_requireBar_22 hp))
theorem exX9_requireBar {d : Nat} {a0 : Int32} {hp : HP} {v : (Unit ⊕ Nat)} (h : fX9_requireBar a0 hp = some v) : Calls (d + 7) 143 [vR (9, 0, 0), vI a0] hp (rsT rsV v hp) := by
  replace h : (if a0 < 0 then (fX9_requireBar_22 hp) else (if a0 < (hp (0, 0, 0) 5) then (fX9_requireBar_23 1 hp) else (fX9_requireBar_22 hp))) = some v := h
  show Ex (d + 7) kX9_requireBar 0 [some (vR (9, 0, 0)), some (vI a0)] [] hp _
  refine Ex.go 1 (pc' := 1) (ls' := [some (vR (9, 0, 0)), some (vI a0)]) (st' := [vI a0]) (hp' := hp) (fun _ => rfl) ?_
  refine Ex.ifc rfl ?_
  by_cases hc : a0 < 0
  · rw [if_pos hc] at h
    rw [brI_lt_p hc]
    show Ex (d + 7) kX9_requireBar 22 [some (vR (9, 0, 0)), some (vI a0)] [] hp _
    exact exX9_requireBar_22 h
  · rw [if_neg hc] at h
    rw [brI_lt_n hc]
    show Ex (d + 7) kX9_requireBar 4 [some (vR (9, 0, 0)), some (vI a0)] [] hp _
    refine Ex.go 5 (pc' := 15) (ls' := [some (vR (9, 0, 0)), some (vI a0)]) (st' := [vI (hp (0, 0, 0) 5), vI a0]) (hp' := hp) (fun _ => rfl) ?_
    refine Ex.icmp rfl ?_
    by_cases hc : a0 < (hp (0, 0, 0) 5)
    · rw [if_pos hc] at h
      rw [brI_ge_p hc]
      show Ex (d + 7) kX9_requireBar 18 [some (vR (9, 0, 0)), some (vI a0)] [] hp _
      refine Ex.go 2 (pc' := 23) (ls' := [some (vR (9, 0, 0)), some (vI a0)]) (st' := [vI 1]) (hp' := hp) (fun _ => rfl) ?_
      exact exX9_requireBar_23 h
    · rw [if_neg hc] at h
      rw [brI_ge_n hc]
      show Ex (d + 7) kX9_requireBar 22 [some (vR (9, 0, 0)), some (vI a0)] [] hp _
      exact exX9_requireBar_22 h
def fX9_bar_23 (x1 : Int32) (x2 : Int32) (y0 : Int32) (hp : HP) : Option (Int32 ⊕ Nat) := (fX9_requireArgument y0 hp).bind fun q2 => Sum.elim (fun _ => if x2 = 0 then ((fX7_at 5 0 x1 hp).bind fun v8 => some (.inl v8)) else (if x2 = 1 then ((fX7_at 6 0 x1 hp).bind fun v7 => some (.inl v7)) else (if x2 = 2 then ((fX0_riseOf 0 x1 hp).bind fun v6 => some (.inl v6)) else (if x2 = 3 then ((fX7_at 8 0 x1 hp).bind fun v5 => some (.inl v5)) else (if x2 = 4 then ((fX0_backAt 0 x1 hp).bind fun v4 => some (.inl (imax 0 (v4 - (hp (3, 0, 0) 6))))) else ((fX0_isJammed 0 x1 hp).bind fun v3 => if v3 = 0 then (some (.inl 0)) else (some (.inl 1)))))))) (fun E => some (.inr E)) q2
theorem exX9_bar_23 {d : Nat} {x1 : Int32} {x2 : Int32} {y0 : Int32} {j3 : Option VL} {hp : HP} {v : (Int32 ⊕ Nat)} (h : fX9_bar_23 x1 x2 y0 hp = some v) : Ex (d + 8) kX9_bar 23 [some (vR (9, 0, 0)), some (vI x1), some (vI x2), j3] [vI y0] hp (rsT rsI v hp) := by
  replace h : ((fX9_requireArgument y0 hp).bind fun q2 => Sum.elim (fun _ => if x2 = 0 then ((fX7_at 5 0 x1 hp).bind fun v8 => some (.inl v8)) else (if x2 = 1 then ((fX7_at 6 0 x1 hp).bind fun v7 => some (.inl v7)) else (if x2 = 2 then ((fX0_riseOf 0 x1 hp).bind fun v6 => some (.inl v6)) else (if x2 = 3 then ((fX7_at 8 0 x1 hp).bind fun v5 => some (.inl v5)) else (if x2 = 4 then ((fX0_backAt 0 x1 hp).bind fun v4 => some (.inl (imax 0 (v4 - (hp (3, 0, 0) 6))))) else ((fX0_isJammed 0 x1 hp).bind fun v3 => if v3 = 0 then (some (.inl 0)) else (some (.inl 1)))))))) (fun E => some (.inr E)) q2) = some v := h
  obtain ⟨q2, hv, h⟩ := Option.bind_eq_some_iff.mp h
  rcases q2 with _ | E
  · replace h : (if x2 = 0 then ((fX7_at 5 0 x1 hp).bind fun v8 => some (.inl v8)) else (if x2 = 1 then ((fX7_at 6 0 x1 hp).bind fun v7 => some (.inl v7)) else (if x2 = 2 then ((fX0_riseOf 0 x1 hp).bind fun v6 => some (.inl v6)) else (if x2 = 3 then ((fX7_at 8 0 x1 hp).bind fun v5 => some (.inl v5)) else (if x2 = 4 then ((fX0_backAt 0 x1 hp).bind fun v4 => some (.inl (imax 0 (v4 - (hp (3, 0, 0) 6))))) else ((fX0_isJammed 0 x1 hp).bind fun v3 => if v3 = 0 then (some (.inl 0)) else (some (.inl 1)))))))) = some v := h
    refine Ex.call (args := [vI y0]) (rest := []) rfl rfl rfl (exX9_requireArgument (d := d + 1) hv) ?_
    show Ex (d + 8) kX9_bar 26 [some (vR (9, 0, 0)), some (vI x1), some (vI x2), j3] [] hp _
    refine Ex.go 5 (pc' := 35) (ls' := [some (vR (9, 0, 0)), some (vI x1), some (vI x2), some (vR (0, 0, 0))]) (st' := [vI x2]) (hp' := hp) (fun _ => rfl) ?_
    refine Ex.tsw rfl ?_
    refine sw_c (k := 0) rfl (fun hc => ?_) (fun hc => ?_)
    · rw [if_pos hc] at h
      show Ex (d + 8) kX9_bar 68 [some (vR (9, 0, 0)), some (vI x1), some (vI x2), some (vR (0, 0, 0))] [] hp _
      refine Ex.go 3 (pc' := 73) (ls' := [some (vR (9, 0, 0)), some (vI x1), some (vI x2), some (vR (0, 0, 0))]) (st' := [vI x1, vR (7, 5, 0)]) (hp' := hp) (fun _ => rfl) ?_
      obtain ⟨v9, hv, h⟩ := Option.bind_eq_some_iff.mp h
      refine Ex.call (args := [vR (7, 5, 0), vI x1]) (rest := []) rfl rfl rfl (exX7_at (d := d + 7) hv) ?_
      show Ex (d + 8) kX9_bar 76 [some (vR (9, 0, 0)), some (vI x1), some (vI x2), some (vR (0, 0, 0))] [vI v9] hp _
      cases h
      exact Ex.ret rfl rfl rfl
    rw [if_neg hc] at h
    refine sw_c (k := 1) rfl (fun hc => ?_) (fun hc => ?_)
    · rw [if_pos hc] at h
      show Ex (d + 8) kX9_bar 77 [some (vR (9, 0, 0)), some (vI x1), some (vI x2), some (vR (0, 0, 0))] [] hp _
      refine Ex.go 3 (pc' := 82) (ls' := [some (vR (9, 0, 0)), some (vI x1), some (vI x2), some (vR (0, 0, 0))]) (st' := [vI x1, vR (7, 6, 0)]) (hp' := hp) (fun _ => rfl) ?_
      obtain ⟨v10, hv, h⟩ := Option.bind_eq_some_iff.mp h
      refine Ex.call (args := [vR (7, 6, 0), vI x1]) (rest := []) rfl rfl rfl (exX7_at (d := d + 7) hv) ?_
      show Ex (d + 8) kX9_bar 85 [some (vR (9, 0, 0)), some (vI x1), some (vI x2), some (vR (0, 0, 0))] [vI v10] hp _
      cases h
      exact Ex.ret rfl rfl rfl
    rw [if_neg hc] at h
    refine sw_c (k := 2) rfl (fun hc => ?_) (fun hc => ?_)
    · rw [if_pos hc] at h
      show Ex (d + 8) kX9_bar 86 [some (vR (9, 0, 0)), some (vI x1), some (vI x2), some (vR (0, 0, 0))] [] hp _
      refine Ex.go 2 (pc' := 88) (ls' := [some (vR (9, 0, 0)), some (vI x1), some (vI x2), some (vR (0, 0, 0))]) (st' := [vI x1, vR (0, 0, 0)]) (hp' := hp) (fun _ => rfl) ?_
      obtain ⟨v11, hv, h⟩ := Option.bind_eq_some_iff.mp h
      refine Ex.call (args := [vR (0, 0, 0), vI x1]) (rest := []) rfl rfl rfl (exX0_riseOf (d := d + 6) hv) ?_
      show Ex (d + 8) kX9_bar 91 [some (vR (9, 0, 0)), some (vI x1), some (vI x2), some (vR (0, 0, 0))] [vI v11] hp _
      cases h
      exact Ex.ret rfl rfl rfl
    rw [if_neg hc] at h
    refine sw_c (k := 3) rfl (fun hc => ?_) (fun hc => ?_)
    · rw [if_pos hc] at h
      show Ex (d + 8) kX9_bar 92 [some (vR (9, 0, 0)), some (vI x1), some (vI x2), some (vR (0, 0, 0))] [] hp _
      refine Ex.go 3 (pc' := 97) (ls' := [some (vR (9, 0, 0)), some (vI x1), some (vI x2), some (vR (0, 0, 0))]) (st' := [vI x1, vR (7, 8, 0)]) (hp' := hp) (fun _ => rfl) ?_
      obtain ⟨v12, hv, h⟩ := Option.bind_eq_some_iff.mp h
      refine Ex.call (args := [vR (7, 8, 0), vI x1]) (rest := []) rfl rfl rfl (exX7_at (d := d + 7) hv) ?_
      show Ex (d + 8) kX9_bar 100 [some (vR (9, 0, 0)), some (vI x1), some (vI x2), some (vR (0, 0, 0))] [vI v12] hp _
      cases h
      exact Ex.ret rfl rfl rfl
    rw [if_neg hc] at h
    refine sw_c (k := 4) rfl (fun hc => ?_) (fun hc => ?_)
    · rw [if_pos hc] at h
      show Ex (d + 8) kX9_bar 101 [some (vR (9, 0, 0)), some (vI x1), some (vI x2), some (vR (0, 0, 0))] [] hp _
      refine Ex.go 3 (pc' := 104) (ls' := [some (vR (9, 0, 0)), some (vI x1), some (vI x2), some (vR (0, 0, 0))]) (st' := [vI x1, vR (0, 0, 0), vI 0]) (hp' := hp) (fun _ => rfl) ?_
      obtain ⟨v13, hv, h⟩ := Option.bind_eq_some_iff.mp h
      refine Ex.call (args := [vR (0, 0, 0), vI x1]) (rest := [vI 0]) rfl rfl rfl (exX0_backAt (d := d + 5) hv) ?_
      show Ex (d + 8) kX9_bar 107 [some (vR (9, 0, 0)), some (vI x1), some (vI x2), some (vR (0, 0, 0))] [vI v13, vI 0] hp _
      refine Ex.go 5 (pc' := 118) (ls' := [some (vR (9, 0, 0)), some (vI x1), some (vI x2), some (vR (0, 0, 0))]) (st' := [vI (imax 0 (v13 - (hp (3, 0, 0) 6)))]) (hp' := hp) (fun _ => rfl) ?_
      cases h
      exact Ex.ret rfl rfl rfl
    rw [if_neg hc] at h
    show Ex (d + 8) kX9_bar 119 [some (vR (9, 0, 0)), some (vI x1), some (vI x2), some (vR (0, 0, 0))] [] hp _
    refine Ex.go 2 (pc' := 121) (ls' := [some (vR (9, 0, 0)), some (vI x1), some (vI x2), some (vR (0, 0, 0))]) (st' := [vI x1, vR (0, 0, 0)]) (hp' := hp) (fun _ => rfl) ?_
    obtain ⟨v3, hv, h⟩ := Option.bind_eq_some_iff.mp h
    refine Ex.call (args := [vR (0, 0, 0), vI x1]) (rest := []) rfl rfl rfl (exX0_isJammed (d := d + 7) hv) ?_
    show Ex (d + 8) kX9_bar 124 [some (vR (9, 0, 0)), some (vI x1), some (vI x2), some (vR (0, 0, 0))] [vI v3] hp _
    refine Ex.ifc rfl ?_
    by_cases hc : v3 = 0
    · rw [if_pos hc] at h
      rw [brI_eq_p hc]
      show Ex (d + 8) kX9_bar 131 [some (vR (9, 0, 0)), some (vI x1), some (vI x2), some (vR (0, 0, 0))] [] hp _
      refine Ex.go 1 (pc' := 132) (ls' := [some (vR (9, 0, 0)), some (vI x1), some (vI x2), some (vR (0, 0, 0))]) (st' := [vI 0]) (hp' := hp) (fun _ => rfl) ?_
      cases h
      exact Ex.ret rfl rfl rfl
    · rw [if_neg hc] at h
      rw [brI_eq_n hc]
      show Ex (d + 8) kX9_bar 127 [some (vR (9, 0, 0)), some (vI x1), some (vI x2), some (vR (0, 0, 0))] [] hp _
      refine Ex.go 2 (pc' := 132) (ls' := [some (vR (9, 0, 0)), some (vI x1), some (vI x2), some (vR (0, 0, 0))]) (st' := [vI 1]) (hp' := hp) (fun _ => rfl) ?_
      cases h
      exact Ex.ret rfl rfl rfl
  · cases h
    exact Ex.callT (args := [vI y0]) (rest := []) rfl rfl rfl (exX9_requireArgument (d := d + 1) hv) rfl
def fX9_bar_22 (x1 : Int32) (x2 : Int32) (hp : HP) : Option (Int32 ⊕ Nat) := fX9_bar_23 x1 x2 0 hp
theorem exX9_bar_22 {d : Nat} {x1 : Int32} {x2 : Int32} {j3 : Option VL} {hp : HP} {v : (Int32 ⊕ Nat)} (h : fX9_bar_22 x1 x2 hp = some v) : Ex (d + 8) kX9_bar 22 [some (vR (9, 0, 0)), some (vI x1), some (vI x2), j3] [] hp (rsT rsI v hp) := by
  replace h : (fX9_bar_23 x1 x2 0 hp) = some v := h
  refine Ex.go 1 (pc' := 23) (ls' := [some (vR (9, 0, 0)), some (vI x1), some (vI x2), j3]) (st' := [vI 0]) (hp' := hp) (fun _ => rfl) ?_
  exact exX9_bar_23 h
def fX9_bar (a0 : Int32) (a1 : Int32) (hp : HP) : Option (Int32 ⊕ Nat) := (fX9_requireLoaded hp).bind fun q15 => Sum.elim (fun _ => (fX9_requireBar a0 hp).bind fun q17 => Sum.elim (fun _ => if a1 < 0 then (fX9_bar_22 a0 a1 hp) else (if 5 < a1 then (fX9_bar_22 a0 a1 hp) else (fX9_bar_23 a0 a1 1 hp))) (fun E => some (.inr E)) q17) (fun E => some (.inr E)) q15
theorem exX9_bar {d : Nat} {a0 : Int32} {a1 : Int32} {hp : HP} {v : (Int32 ⊕ Nat)} (h : fX9_bar a0 a1 hp = some v) : Calls (d + 8) 94 [vR (9, 0, 0), vI a0, vI a1] hp (rsT rsI v hp) := by
  replace h : ((fX9_requireLoaded hp).bind fun q15 => Sum.elim (fun _ => (fX9_requireBar a0 hp).bind fun q17 => Sum.elim (fun _ => if a1 < 0 then (fX9_bar_22 a0 a1 hp) else (if 5 < a1 then (fX9_bar_22 a0 a1 hp) else (fX9_bar_23 a0 a1 1 hp))) (fun E => some (.inr E)) q17) (fun E => some (.inr E)) q15) = some v := h
  show Ex (d + 8) kX9_bar 0 [some (vR (9, 0, 0)), some (vI a0), some (vI a1), none] [] hp _
  refine Ex.go 1 (pc' := 1) (ls' := [some (vR (9, 0, 0)), some (vI a0), some (vI a1), none]) (st' := [vR (9, 0, 0)]) (hp' := hp) (fun _ => rfl) ?_
  obtain ⟨q15, hv, h⟩ := Option.bind_eq_some_iff.mp h
  rcases q15 with _ | E
  · replace h : ((fX9_requireBar a0 hp).bind fun q17 => Sum.elim (fun _ => if a1 < 0 then (fX9_bar_22 a0 a1 hp) else (if 5 < a1 then (fX9_bar_22 a0 a1 hp) else (fX9_bar_23 a0 a1 1 hp))) (fun E => some (.inr E)) q17) = some v := h
    refine Ex.call (args := [vR (9, 0, 0)]) (rest := []) rfl rfl rfl (exX9_requireLoaded (d := d + 1) hv) ?_
    show Ex (d + 8) kX9_bar 4 [some (vR (9, 0, 0)), some (vI a0), some (vI a1), none] [] hp _
    refine Ex.go 2 (pc' := 6) (ls' := [some (vR (9, 0, 0)), some (vI a0), some (vI a1), none]) (st' := [vI a0, vR (9, 0, 0)]) (hp' := hp) (fun _ => rfl) ?_
    obtain ⟨q17, hv, h⟩ := Option.bind_eq_some_iff.mp h
    rcases q17 with _ | E
    · replace h : (if a1 < 0 then (fX9_bar_22 a0 a1 hp) else (if 5 < a1 then (fX9_bar_22 a0 a1 hp) else (fX9_bar_23 a0 a1 1 hp))) = some v := h
      refine Ex.call (args := [vR (9, 0, 0), vI a0]) (rest := []) rfl rfl rfl (exX9_requireBar (d := d + 0) hv) ?_
      show Ex (d + 8) kX9_bar 9 [some (vR (9, 0, 0)), some (vI a0), some (vI a1), none] [] hp _
      refine Ex.go 1 (pc' := 10) (ls' := [some (vR (9, 0, 0)), some (vI a0), some (vI a1), none]) (st' := [vI a1]) (hp' := hp) (fun _ => rfl) ?_
      refine Ex.ifc rfl ?_
      by_cases hc : a1 < 0
      · rw [if_pos hc] at h
        rw [brI_lt_p hc]
        show Ex (d + 8) kX9_bar 22 [some (vR (9, 0, 0)), some (vI a0), some (vI a1), none] [] hp _
        exact exX9_bar_22 h
      · rw [if_neg hc] at h
        rw [brI_lt_n hc]
        show Ex (d + 8) kX9_bar 13 [some (vR (9, 0, 0)), some (vI a0), some (vI a1), none] [] hp _
        refine Ex.go 2 (pc' := 15) (ls' := [some (vR (9, 0, 0)), some (vI a0), some (vI a1), none]) (st' := [vI 5, vI a1]) (hp' := hp) (fun _ => rfl) ?_
        refine Ex.icmp rfl ?_
        by_cases hc : 5 < a1
        · rw [if_pos hc] at h
          rw [brI_gt_p hc]
          show Ex (d + 8) kX9_bar 22 [some (vR (9, 0, 0)), some (vI a0), some (vI a1), none] [] hp _
          exact exX9_bar_22 h
        · rw [if_neg hc] at h
          rw [brI_gt_n hc]
          show Ex (d + 8) kX9_bar 18 [some (vR (9, 0, 0)), some (vI a0), some (vI a1), none] [] hp _
          refine Ex.go 2 (pc' := 23) (ls' := [some (vR (9, 0, 0)), some (vI a0), some (vI a1), none]) (st' := [vI 1]) (hp' := hp) (fun _ => rfl) ?_
          exact exX9_bar_23 h
    · cases h
      exact Ex.callT (args := [vR (9, 0, 0), vI a0]) (rest := []) rfl rfl rfl (exX9_requireBar (d := d + 0) hv) rfl
  · cases h
    exact Ex.callT (args := [vR (9, 0, 0)]) (rest := []) rfl rfl rfl (exX9_requireLoaded (d := d + 1) hv) rfl
def fX9_barOf (a0 : Int32) (hp : HP) : Option (Int32 ⊕ Nat) := (fX9_requireLoaded hp).bind fun q2 => Sum.elim (fun _ => (fX0_withLetter 0 a0 hp).bind fun v3 => some (.inl v3)) (fun E => some (.inr E)) q2
theorem exX9_barOf {d : Nat} {a0 : Int32} {hp : HP} {v : (Int32 ⊕ Nat)} (h : fX9_barOf a0 hp = some v) : Calls (d + 7) 95 [vR (9, 0, 0), vI a0] hp (rsT rsI v hp) := by
  replace h : ((fX9_requireLoaded hp).bind fun q2 => Sum.elim (fun _ => (fX0_withLetter 0 a0 hp).bind fun v3 => some (.inl v3)) (fun E => some (.inr E)) q2) = some v := h
  show Ex (d + 7) kX9_barOf 0 [some (vR (9, 0, 0)), some (vI a0)] [] hp _
  refine Ex.go 1 (pc' := 1) (ls' := [some (vR (9, 0, 0)), some (vI a0)]) (st' := [vR (9, 0, 0)]) (hp' := hp) (fun _ => rfl) ?_
  obtain ⟨q2, hv, h⟩ := Option.bind_eq_some_iff.mp h
  rcases q2 with _ | E
  · replace h : ((fX0_withLetter 0 a0 hp).bind fun v3 => some (.inl v3)) = some v := h
    refine Ex.call (args := [vR (9, 0, 0)]) (rest := []) rfl rfl rfl (exX9_requireLoaded (d := d + 0) hv) ?_
    show Ex (d + 7) kX9_barOf 4 [some (vR (9, 0, 0)), some (vI a0)] [] hp _
    refine Ex.go 4 (pc' := 12) (ls' := [some (vR (9, 0, 0)), some (vI a0)]) (st' := [vI a0, vR (0, 0, 0)]) (hp' := hp) (fun _ => rfl) ?_
    obtain ⟨v3, hv, h⟩ := Option.bind_eq_some_iff.mp h
    refine Ex.call (args := [vR (0, 0, 0), vI a0]) (rest := []) rfl rfl rfl (exX0_withLetter (d := d + 5) hv) ?_
    show Ex (d + 7) kX9_barOf 15 [some (vR (9, 0, 0)), some (vI a0)] [vI v3] hp _
    cases h
    exact Ex.ret rfl rfl rfl
  · cases h
    exact Ex.callT (args := [vR (9, 0, 0)]) (rest := []) rfl rfl rfl (exX9_requireLoaded (d := d + 0) hv) rfl
def fX9_latest (hp : HP) : Option (Int32 ⊕ Nat) := (fX9_requireLoaded hp).bind fun q2 => Sum.elim (fun _ => some (.inl (hp (0, 0, 0) 6))) (fun E => some (.inr E)) q2
theorem exX9_latest {d : Nat} {hp : HP} {v : (Int32 ⊕ Nat)} (h : fX9_latest hp = some v) : Calls (d + 7) 96 [vR (9, 0, 0)] hp (rsT rsI v hp) := by
  replace h : ((fX9_requireLoaded hp).bind fun q2 => Sum.elim (fun _ => some (.inl (hp (0, 0, 0) 6))) (fun E => some (.inr E)) q2) = some v := h
  show Ex (d + 7) kX9_latest 0 [some (vR (9, 0, 0))] [] hp _
  refine Ex.go 1 (pc' := 1) (ls' := [some (vR (9, 0, 0))]) (st' := [vR (9, 0, 0)]) (hp' := hp) (fun _ => rfl) ?_
  obtain ⟨q2, hv, h⟩ := Option.bind_eq_some_iff.mp h
  rcases q2 with _ | E
  · replace h : (some (.inl (hp (0, 0, 0) 6))) = some v := h
    refine Ex.call (args := [vR (9, 0, 0)]) (rest := []) rfl rfl rfl (exX9_requireLoaded (d := d + 0) hv) ?_
    show Ex (d + 7) kX9_latest 4 [some (vR (9, 0, 0))] [] hp _
    refine Ex.go 4 (pc' := 14) (ls' := [some (vR (9, 0, 0))]) (st' := [vI (hp (0, 0, 0) 6)]) (hp' := hp) (fun _ => rfl) ?_
    cases h
    exact Ex.ret rfl rfl rfl
  · cases h
    exact Ex.callT (args := [vR (9, 0, 0)]) (rest := []) rfl rfl rfl (exX9_requireLoaded (d := d + 0) hv) rfl
def fX9_ribbon_29 (x1 : Int32) (y0 : Int32) (hp : HP) : Option (Int32 ⊕ Nat) := (fX9_requireIndex y0 hp).bind fun q2 => Sum.elim (fun _ => (fX7_at 1 0 x1 hp).bind fun v3 => some (.inl v3)) (fun E => some (.inr E)) q2
theorem exX9_ribbon_29 {d : Nat} {x1 : Int32} {y0 : Int32} {hp : HP} {v : (Int32 ⊕ Nat)} (h : fX9_ribbon_29 x1 y0 hp = some v) : Ex (d + 7) kX9_ribbon 29 [some (vR (9, 0, 0)), some (vI x1)] [vI y0] hp (rsT rsI v hp) := by
  replace h : ((fX9_requireIndex y0 hp).bind fun q2 => Sum.elim (fun _ => (fX7_at 1 0 x1 hp).bind fun v3 => some (.inl v3)) (fun E => some (.inr E)) q2) = some v := h
  obtain ⟨q2, hv, h⟩ := Option.bind_eq_some_iff.mp h
  rcases q2 with _ | E
  · replace h : ((fX7_at 1 0 x1 hp).bind fun v3 => some (.inl v3)) = some v := h
    refine Ex.call (args := [vI y0]) (rest := []) rfl rfl rfl (exX9_requireIndex (d := d + 0) hv) ?_
    show Ex (d + 7) kX9_ribbon 32 [some (vR (9, 0, 0)), some (vI x1)] [] hp _
    refine Ex.go 5 (pc' := 43) (ls' := [some (vR (9, 0, 0)), some (vI x1)]) (st' := [vI x1, vR (7, 1, 0)]) (hp' := hp) (fun _ => rfl) ?_
    obtain ⟨v3, hv, h⟩ := Option.bind_eq_some_iff.mp h
    refine Ex.call (args := [vR (7, 1, 0), vI x1]) (rest := []) rfl rfl rfl (exX7_at (d := d + 6) hv) ?_
    show Ex (d + 7) kX9_ribbon 46 [some (vR (9, 0, 0)), some (vI x1)] [vI v3] hp _
    cases h
    exact Ex.ret rfl rfl rfl
  · cases h
    exact Ex.callT (args := [vI y0]) (rest := []) rfl rfl rfl (exX9_requireIndex (d := d + 0) hv) rfl
def fX9_ribbon_28 (x1 : Int32) (hp : HP) : Option (Int32 ⊕ Nat) := fX9_ribbon_29 x1 0 hp
theorem exX9_ribbon_28 {d : Nat} {x1 : Int32} {hp : HP} {v : (Int32 ⊕ Nat)} (h : fX9_ribbon_28 x1 hp = some v) : Ex (d + 7) kX9_ribbon 28 [some (vR (9, 0, 0)), some (vI x1)] [] hp (rsT rsI v hp) := by
  replace h : (fX9_ribbon_29 x1 0 hp) = some v := h
  refine Ex.go 1 (pc' := 29) (ls' := [some (vR (9, 0, 0)), some (vI x1)]) (st' := [vI 0]) (hp' := hp) (fun _ => rfl) ?_
  exact exX9_ribbon_29 h
def fX9_ribbon (a0 : Int32) (hp : HP) : Option (Int32 ⊕ Nat) := (fX9_requireLoaded hp).bind fun q5 => Sum.elim (fun _ => if a0 < 0 then (fX9_ribbon_28 a0 hp) else ((fX7_at 0 0 9 hp).bind fun v6 => if a0 < v6 then (fX9_ribbon_29 a0 1 hp) else (fX9_ribbon_28 a0 hp))) (fun E => some (.inr E)) q5
theorem exX9_ribbon {d : Nat} {a0 : Int32} {hp : HP} {v : (Int32 ⊕ Nat)} (h : fX9_ribbon a0 hp = some v) : Calls (d + 7) 97 [vR (9, 0, 0), vI a0] hp (rsT rsI v hp) := by
  replace h : ((fX9_requireLoaded hp).bind fun q5 => Sum.elim (fun _ => if a0 < 0 then (fX9_ribbon_28 a0 hp) else ((fX7_at 0 0 9 hp).bind fun v6 => if a0 < v6 then (fX9_ribbon_29 a0 1 hp) else (fX9_ribbon_28 a0 hp))) (fun E => some (.inr E)) q5) = some v := h
  show Ex (d + 7) kX9_ribbon 0 [some (vR (9, 0, 0)), some (vI a0)] [] hp _
  refine Ex.go 1 (pc' := 1) (ls' := [some (vR (9, 0, 0)), some (vI a0)]) (st' := [vR (9, 0, 0)]) (hp' := hp) (fun _ => rfl) ?_
  obtain ⟨q5, hv, h⟩ := Option.bind_eq_some_iff.mp h
  rcases q5 with _ | E
  · replace h : (if a0 < 0 then (fX9_ribbon_28 a0 hp) else ((fX7_at 0 0 9 hp).bind fun v6 => if a0 < v6 then (fX9_ribbon_29 a0 1 hp) else (fX9_ribbon_28 a0 hp))) = some v := h
    refine Ex.call (args := [vR (9, 0, 0)]) (rest := []) rfl rfl rfl (exX9_requireLoaded (d := d + 0) hv) ?_
    show Ex (d + 7) kX9_ribbon 4 [some (vR (9, 0, 0)), some (vI a0)] [] hp _
    refine Ex.go 1 (pc' := 5) (ls' := [some (vR (9, 0, 0)), some (vI a0)]) (st' := [vI a0]) (hp' := hp) (fun _ => rfl) ?_
    refine Ex.ifc rfl ?_
    by_cases hc : a0 < 0
    · rw [if_pos hc] at h
      rw [brI_lt_p hc]
      show Ex (d + 7) kX9_ribbon 28 [some (vR (9, 0, 0)), some (vI a0)] [] hp _
      exact exX9_ribbon_28 h
    · rw [if_neg hc] at h
      rw [brI_lt_n hc]
      show Ex (d + 7) kX9_ribbon 8 [some (vR (9, 0, 0)), some (vI a0)] [] hp _
      refine Ex.go 5 (pc' := 18) (ls' := [some (vR (9, 0, 0)), some (vI a0)]) (st' := [vI 9, vR (7, 0, 0), vI a0]) (hp' := hp) (fun _ => rfl) ?_
      obtain ⟨v6, hv, h⟩ := Option.bind_eq_some_iff.mp h
      refine Ex.call (args := [vR (7, 0, 0), vI 9]) (rest := [vI a0]) rfl rfl rfl (exX7_at (d := d + 6) hv) ?_
      show Ex (d + 7) kX9_ribbon 21 [some (vR (9, 0, 0)), some (vI a0)] [vI v6, vI a0] hp _
      refine Ex.icmp rfl ?_
      by_cases hc : a0 < v6
      · rw [if_pos hc] at h
        rw [brI_ge_p hc]
        show Ex (d + 7) kX9_ribbon 24 [some (vR (9, 0, 0)), some (vI a0)] [] hp _
        refine Ex.go 2 (pc' := 29) (ls' := [some (vR (9, 0, 0)), some (vI a0)]) (st' := [vI 1]) (hp' := hp) (fun _ => rfl) ?_
        exact exX9_ribbon_29 h
      · rw [if_neg hc] at h
        rw [brI_ge_n hc]
        show Ex (d + 7) kX9_ribbon 28 [some (vR (9, 0, 0)), some (vI a0)] [] hp _
        exact exX9_ribbon_28 h
  · cases h
    exact Ex.callT (args := [vR (9, 0, 0)]) (rest := []) rfl rfl rfl (exX9_requireLoaded (d := d + 0) hv) rfl
def fX9_head_18 (x1 : Int32) (y0 : Int32) (hp : HP) : Option (Int32 ⊕ Nat) := (fX9_requireArgument y0 hp).bind fun q2 => Sum.elim (fun _ => if x1 = 0 then (some (.inl (hp (6, 0, 0) 2))) else (if x1 = 1 then (if (hp (6, 0, 0) 3) = 0 then (some (.inl 0)) else (some (.inl 1))) else (if x1 = 2 then ((fX6_allInk 0 hp).bind fun v4 => some (.inl v4)) else ((fX6_dryPlaces 0 hp).bind fun v3 => some (.inl v3))))) (fun E => some (.inr E)) q2
theorem exX9_head_18 {d : Nat} {x1 : Int32} {y0 : Int32} {j2 : Option VL} {hp : HP} {v : (Int32 ⊕ Nat)} (h : fX9_head_18 x1 y0 hp = some v) : Ex (d + 7) kX9_head 18 [some (vR (9, 0, 0)), some (vI x1), j2] [vI y0] hp (rsT rsI v hp) := by
  replace h : ((fX9_requireArgument y0 hp).bind fun q2 => Sum.elim (fun _ => if x1 = 0 then (some (.inl (hp (6, 0, 0) 2))) else (if x1 = 1 then (if (hp (6, 0, 0) 3) = 0 then (some (.inl 0)) else (some (.inl 1))) else (if x1 = 2 then ((fX6_allInk 0 hp).bind fun v4 => some (.inl v4)) else ((fX6_dryPlaces 0 hp).bind fun v3 => some (.inl v3))))) (fun E => some (.inr E)) q2) = some v := h
  obtain ⟨q2, hv, h⟩ := Option.bind_eq_some_iff.mp h
  rcases q2 with _ | E
  · replace h : (if x1 = 0 then (some (.inl (hp (6, 0, 0) 2))) else (if x1 = 1 then (if (hp (6, 0, 0) 3) = 0 then (some (.inl 0)) else (some (.inl 1))) else (if x1 = 2 then ((fX6_allInk 0 hp).bind fun v4 => some (.inl v4)) else ((fX6_dryPlaces 0 hp).bind fun v3 => some (.inl v3))))) = some v := h
    refine Ex.call (args := [vI y0]) (rest := []) rfl rfl rfl (exX9_requireArgument (d := d + 0) hv) ?_
    show Ex (d + 7) kX9_head 21 [some (vR (9, 0, 0)), some (vI x1), j2] [] hp _
    refine Ex.go 5 (pc' := 30) (ls' := [some (vR (9, 0, 0)), some (vI x1), some (vR (6, 0, 0))]) (st' := [vI x1]) (hp' := hp) (fun _ => rfl) ?_
    refine Ex.tsw rfl ?_
    refine sw_c (k := 0) rfl (fun hc => ?_) (fun hc => ?_)
    · rw [if_pos hc] at h
      show Ex (d + 7) kX9_head 56 [some (vR (9, 0, 0)), some (vI x1), some (vR (6, 0, 0))] [] hp _
      refine Ex.go 2 (pc' := 60) (ls' := [some (vR (9, 0, 0)), some (vI x1), some (vR (6, 0, 0))]) (st' := [vI (hp (6, 0, 0) 2)]) (hp' := hp) (fun _ => rfl) ?_
      cases h
      exact Ex.ret rfl rfl rfl
    rw [if_neg hc] at h
    refine sw_c (k := 1) rfl (fun hc => ?_) (fun hc => ?_)
    · rw [if_pos hc] at h
      show Ex (d + 7) kX9_head 61 [some (vR (9, 0, 0)), some (vI x1), some (vR (6, 0, 0))] [] hp _
      refine Ex.go 2 (pc' := 65) (ls' := [some (vR (9, 0, 0)), some (vI x1), some (vR (6, 0, 0))]) (st' := [vI (hp (6, 0, 0) 3)]) (hp' := hp) (fun _ => rfl) ?_
      refine Ex.ifc rfl ?_
      by_cases hc : (hp (6, 0, 0) 3) = 0
      · rw [if_pos hc] at h
        rw [brI_eq_p hc]
        show Ex (d + 7) kX9_head 72 [some (vR (9, 0, 0)), some (vI x1), some (vR (6, 0, 0))] [] hp _
        refine Ex.go 1 (pc' := 73) (ls' := [some (vR (9, 0, 0)), some (vI x1), some (vR (6, 0, 0))]) (st' := [vI 0]) (hp' := hp) (fun _ => rfl) ?_
        cases h
        exact Ex.ret rfl rfl rfl
      · rw [if_neg hc] at h
        rw [brI_eq_n hc]
        show Ex (d + 7) kX9_head 68 [some (vR (9, 0, 0)), some (vI x1), some (vR (6, 0, 0))] [] hp _
        refine Ex.go 2 (pc' := 73) (ls' := [some (vR (9, 0, 0)), some (vI x1), some (vR (6, 0, 0))]) (st' := [vI 1]) (hp' := hp) (fun _ => rfl) ?_
        cases h
        exact Ex.ret rfl rfl rfl
    rw [if_neg hc] at h
    refine sw_c (k := 2) rfl (fun hc => ?_) (fun hc => ?_)
    · rw [if_pos hc] at h
      show Ex (d + 7) kX9_head 74 [some (vR (9, 0, 0)), some (vI x1), some (vR (6, 0, 0))] [] hp _
      refine Ex.go 1 (pc' := 75) (ls' := [some (vR (9, 0, 0)), some (vI x1), some (vR (6, 0, 0))]) (st' := [vR (6, 0, 0)]) (hp' := hp) (fun _ => rfl) ?_
      obtain ⟨v5, hv, h⟩ := Option.bind_eq_some_iff.mp h
      refine Ex.call (args := [vR (6, 0, 0)]) (rest := []) rfl rfl rfl (exX6_allInk (d := d + 5) hv) ?_
      show Ex (d + 7) kX9_head 78 [some (vR (9, 0, 0)), some (vI x1), some (vR (6, 0, 0))] [vI v5] hp _
      cases h
      exact Ex.ret rfl rfl rfl
    rw [if_neg hc] at h
    show Ex (d + 7) kX9_head 79 [some (vR (9, 0, 0)), some (vI x1), some (vR (6, 0, 0))] [] hp _
    refine Ex.go 1 (pc' := 80) (ls' := [some (vR (9, 0, 0)), some (vI x1), some (vR (6, 0, 0))]) (st' := [vR (6, 0, 0)]) (hp' := hp) (fun _ => rfl) ?_
    obtain ⟨v3, hv, h⟩ := Option.bind_eq_some_iff.mp h
    refine Ex.call (args := [vR (6, 0, 0)]) (rest := []) rfl rfl rfl (exX6_dryPlaces (d := d + 5) hv) ?_
    show Ex (d + 7) kX9_head 83 [some (vR (9, 0, 0)), some (vI x1), some (vR (6, 0, 0))] [vI v3] hp _
    cases h
    exact Ex.ret rfl rfl rfl
  · cases h
    exact Ex.callT (args := [vI y0]) (rest := []) rfl rfl rfl (exX9_requireArgument (d := d + 0) hv) rfl
def fX9_head_17 (x1 : Int32) (hp : HP) : Option (Int32 ⊕ Nat) := fX9_head_18 x1 0 hp
theorem exX9_head_17 {d : Nat} {x1 : Int32} {j2 : Option VL} {hp : HP} {v : (Int32 ⊕ Nat)} (h : fX9_head_17 x1 hp = some v) : Ex (d + 7) kX9_head 17 [some (vR (9, 0, 0)), some (vI x1), j2] [] hp (rsT rsI v hp) := by
  replace h : (fX9_head_18 x1 0 hp) = some v := h
  refine Ex.go 1 (pc' := 18) (ls' := [some (vR (9, 0, 0)), some (vI x1), j2]) (st' := [vI 0]) (hp' := hp) (fun _ => rfl) ?_
  exact exX9_head_18 h
def fX9_head (a0 : Int32) (hp : HP) : Option (Int32 ⊕ Nat) := (fX9_requireLoaded hp).bind fun q7 => Sum.elim (fun _ => if a0 < 0 then (fX9_head_17 a0 hp) else (if 3 < a0 then (fX9_head_17 a0 hp) else (fX9_head_18 a0 1 hp))) (fun E => some (.inr E)) q7
theorem exX9_head {d : Nat} {a0 : Int32} {hp : HP} {v : (Int32 ⊕ Nat)} (h : fX9_head a0 hp = some v) : Calls (d + 7) 98 [vR (9, 0, 0), vI a0] hp (rsT rsI v hp) := by
  replace h : ((fX9_requireLoaded hp).bind fun q7 => Sum.elim (fun _ => if a0 < 0 then (fX9_head_17 a0 hp) else (if 3 < a0 then (fX9_head_17 a0 hp) else (fX9_head_18 a0 1 hp))) (fun E => some (.inr E)) q7) = some v := h
  show Ex (d + 7) kX9_head 0 [some (vR (9, 0, 0)), some (vI a0), none] [] hp _
  refine Ex.go 1 (pc' := 1) (ls' := [some (vR (9, 0, 0)), some (vI a0), none]) (st' := [vR (9, 0, 0)]) (hp' := hp) (fun _ => rfl) ?_
  obtain ⟨q7, hv, h⟩ := Option.bind_eq_some_iff.mp h
  rcases q7 with _ | E
  · replace h : (if a0 < 0 then (fX9_head_17 a0 hp) else (if 3 < a0 then (fX9_head_17 a0 hp) else (fX9_head_18 a0 1 hp))) = some v := h
    refine Ex.call (args := [vR (9, 0, 0)]) (rest := []) rfl rfl rfl (exX9_requireLoaded (d := d + 0) hv) ?_
    show Ex (d + 7) kX9_head 4 [some (vR (9, 0, 0)), some (vI a0), none] [] hp _
    refine Ex.go 1 (pc' := 5) (ls' := [some (vR (9, 0, 0)), some (vI a0), none]) (st' := [vI a0]) (hp' := hp) (fun _ => rfl) ?_
    refine Ex.ifc rfl ?_
    by_cases hc : a0 < 0
    · rw [if_pos hc] at h
      rw [brI_lt_p hc]
      show Ex (d + 7) kX9_head 17 [some (vR (9, 0, 0)), some (vI a0), none] [] hp _
      exact exX9_head_17 h
    · rw [if_neg hc] at h
      rw [brI_lt_n hc]
      show Ex (d + 7) kX9_head 8 [some (vR (9, 0, 0)), some (vI a0), none] [] hp _
      refine Ex.go 2 (pc' := 10) (ls' := [some (vR (9, 0, 0)), some (vI a0), none]) (st' := [vI 3, vI a0]) (hp' := hp) (fun _ => rfl) ?_
      refine Ex.icmp rfl ?_
      by_cases hc : 3 < a0
      · rw [if_pos hc] at h
        rw [brI_gt_p hc]
        show Ex (d + 7) kX9_head 17 [some (vR (9, 0, 0)), some (vI a0), none] [] hp _
        exact exX9_head_17 h
      · rw [if_neg hc] at h
        rw [brI_gt_n hc]
        show Ex (d + 7) kX9_head 13 [some (vR (9, 0, 0)), some (vI a0), none] [] hp _
        refine Ex.go 2 (pc' := 18) (ls' := [some (vR (9, 0, 0)), some (vI a0), none]) (st' := [vI 1]) (hp' := hp) (fun _ => rfl) ?_
        exact exX9_head_18 h
  · cases h
    exact Ex.callT (args := [vR (9, 0, 0)]) (rest := []) rfl rfl rfl (exX9_requireLoaded (d := d + 0) hv) rfl
def fX9_requireLine_24 (y0 : Int32) (hp : HP) : Option (Unit ⊕ Nat) := (fX9_requireIndex y0 hp).bind fun q2 => Sum.elim (fun _ => some (.inl ())) (fun E => some (.inr E)) q2
theorem exX9_requireLine_24 {d : Nat} {y0 : Int32} {j1 : Option VL} {hp : HP} {v : (Unit ⊕ Nat)} (h : fX9_requireLine_24 y0 hp = some v) : Ex (d + 7) kX9_requireLine 24 [some (vR (9, 0, 0)), j1] [vI y0] hp (rsT rsV v hp) := by
  replace h : ((fX9_requireIndex y0 hp).bind fun q2 => Sum.elim (fun _ => some (.inl ())) (fun E => some (.inr E)) q2) = some v := h
  obtain ⟨q2, hv, h⟩ := Option.bind_eq_some_iff.mp h
  rcases q2 with _ | E
  · replace h : (some (.inl ())) = some v := h
    refine Ex.call (args := [vI y0]) (rest := []) rfl rfl rfl (exX9_requireIndex (d := d + 0) hv) ?_
    show Ex (d + 7) kX9_requireLine 27 [some (vR (9, 0, 0)), j1] [] hp _
    cases h
    exact Ex.ret rfl rfl rfl
  · cases h
    exact Ex.callT (args := [vI y0]) (rest := []) rfl rfl rfl (exX9_requireIndex (d := d + 0) hv) rfl
def fX9_requireLine_23 (hp : HP) : Option (Unit ⊕ Nat) := fX9_requireLine_24 0 hp
theorem exX9_requireLine_23 {d : Nat} {j1 : Option VL} {hp : HP} {v : (Unit ⊕ Nat)} (h : fX9_requireLine_23 hp = some v) : Ex (d + 7) kX9_requireLine 23 [some (vR (9, 0, 0)), j1] [] hp (rsT rsV v hp) := by
  replace h : (fX9_requireLine_24 0 hp) = some v := h
  refine Ex.go 1 (pc' := 24) (ls' := [some (vR (9, 0, 0)), j1]) (st' := [vI 0]) (hp' := hp) (fun _ => rfl) ?_
  exact exX9_requireLine_24 h
def fX9_requireLine (a0 : Int32) (hp : HP) : Option (Unit ⊕ Nat) := if a0 < 0 then (fX9_requireLine_23 hp) else ((fX7_at 0 0 1 hp).bind fun v3 => if a0 < v3 then (fX9_requireLine_24 1 hp) else (fX9_requireLine_23 hp))
theorem exX9_requireLine {d : Nat} {a0 : Int32} {hp : HP} {v : (Unit ⊕ Nat)} (h : fX9_requireLine a0 hp = some v) : Calls (d + 7) 144 [vR (9, 0, 0), vI a0] hp (rsT rsV v hp) := by
  replace h : (if a0 < 0 then (fX9_requireLine_23 hp) else ((fX7_at 0 0 1 hp).bind fun v3 => if a0 < v3 then (fX9_requireLine_24 1 hp) else (fX9_requireLine_23 hp))) = some v := h
  show Ex (d + 7) kX9_requireLine 0 [some (vR (9, 0, 0)), some (vI a0)] [] hp _
  refine Ex.go 1 (pc' := 1) (ls' := [some (vR (9, 0, 0)), some (vI a0)]) (st' := [vI a0]) (hp' := hp) (fun _ => rfl) ?_
  refine Ex.ifc rfl ?_
  by_cases hc : a0 < 0
  · rw [if_pos hc] at h
    rw [brI_lt_p hc]
    show Ex (d + 7) kX9_requireLine 23 [some (vR (9, 0, 0)), some (vI a0)] [] hp _
    exact exX9_requireLine_23 h
  · rw [if_neg hc] at h
    rw [brI_lt_n hc]
    show Ex (d + 7) kX9_requireLine 4 [some (vR (9, 0, 0)), some (vI a0)] [] hp _
    refine Ex.go 5 (pc' := 13) (ls' := [some (vR (9, 0, 0)), some (vI a0)]) (st' := [vI 1, vR (7, 0, 0), vI a0]) (hp' := hp) (fun _ => rfl) ?_
    obtain ⟨v3, hv, h⟩ := Option.bind_eq_some_iff.mp h
    refine Ex.call (args := [vR (7, 0, 0), vI 1]) (rest := [vI a0]) rfl rfl rfl (exX7_at (d := d + 6) hv) ?_
    show Ex (d + 7) kX9_requireLine 16 [some (vR (9, 0, 0)), some (vI a0)] [vI v3, vI a0] hp _
    refine Ex.icmp rfl ?_
    by_cases hc : a0 < v3
    · rw [if_pos hc] at h
      rw [brI_ge_p hc]
      show Ex (d + 7) kX9_requireLine 19 [some (vR (9, 0, 0)), some (vI a0)] [] hp _
      refine Ex.go 2 (pc' := 24) (ls' := [some (vR (9, 0, 0)), some (vI a0)]) (st' := [vI 1]) (hp' := hp) (fun _ => rfl) ?_
      exact exX9_requireLine_24 h
    · rw [if_neg hc] at h
      rw [brI_ge_n hc]
      show Ex (d + 7) kX9_requireLine 23 [some (vR (9, 0, 0)), some (vI a0)] [] hp _
      exact exX9_requireLine_23 h
def fX9_requireColumn_24 (y0 : Int32) (hp : HP) : Option (Unit ⊕ Nat) := (fX9_requireIndex y0 hp).bind fun q2 => Sum.elim (fun _ => some (.inl ())) (fun E => some (.inr E)) q2
theorem exX9_requireColumn_24 {d : Nat} {y0 : Int32} {j1 : Option VL} {hp : HP} {v : (Unit ⊕ Nat)} (h : fX9_requireColumn_24 y0 hp = some v) : Ex (d + 7) kX9_requireColumn 24 [some (vR (9, 0, 0)), j1] [vI y0] hp (rsT rsV v hp) := by
  replace h : ((fX9_requireIndex y0 hp).bind fun q2 => Sum.elim (fun _ => some (.inl ())) (fun E => some (.inr E)) q2) = some v := h
  obtain ⟨q2, hv, h⟩ := Option.bind_eq_some_iff.mp h
  rcases q2 with _ | E
  · replace h : (some (.inl ())) = some v := h
    refine Ex.call (args := [vI y0]) (rest := []) rfl rfl rfl (exX9_requireIndex (d := d + 0) hv) ?_
    show Ex (d + 7) kX9_requireColumn 27 [some (vR (9, 0, 0)), j1] [] hp _
    cases h
    exact Ex.ret rfl rfl rfl
  · cases h
    exact Ex.callT (args := [vI y0]) (rest := []) rfl rfl rfl (exX9_requireIndex (d := d + 0) hv) rfl
def fX9_requireColumn_23 (hp : HP) : Option (Unit ⊕ Nat) := fX9_requireColumn_24 0 hp
theorem exX9_requireColumn_23 {d : Nat} {j1 : Option VL} {hp : HP} {v : (Unit ⊕ Nat)} (h : fX9_requireColumn_23 hp = some v) : Ex (d + 7) kX9_requireColumn 23 [some (vR (9, 0, 0)), j1] [] hp (rsT rsV v hp) := by
  replace h : (fX9_requireColumn_24 0 hp) = some v := h
  refine Ex.go 1 (pc' := 24) (ls' := [some (vR (9, 0, 0)), j1]) (st' := [vI 0]) (hp' := hp) (fun _ => rfl) ?_
  exact exX9_requireColumn_24 h
def fX9_requireColumn (a0 : Int32) (hp : HP) : Option (Unit ⊕ Nat) := if a0 < 0 then (fX9_requireColumn_23 hp) else ((fX7_at 0 0 0 hp).bind fun v3 => if a0 < v3 then (fX9_requireColumn_24 1 hp) else (fX9_requireColumn_23 hp))
theorem exX9_requireColumn {d : Nat} {a0 : Int32} {hp : HP} {v : (Unit ⊕ Nat)} (h : fX9_requireColumn a0 hp = some v) : Calls (d + 7) 145 [vR (9, 0, 0), vI a0] hp (rsT rsV v hp) := by
  replace h : (if a0 < 0 then (fX9_requireColumn_23 hp) else ((fX7_at 0 0 0 hp).bind fun v3 => if a0 < v3 then (fX9_requireColumn_24 1 hp) else (fX9_requireColumn_23 hp))) = some v := h
  show Ex (d + 7) kX9_requireColumn 0 [some (vR (9, 0, 0)), some (vI a0)] [] hp _
  refine Ex.go 1 (pc' := 1) (ls' := [some (vR (9, 0, 0)), some (vI a0)]) (st' := [vI a0]) (hp' := hp) (fun _ => rfl) ?_
  refine Ex.ifc rfl ?_
  by_cases hc : a0 < 0
  · rw [if_pos hc] at h
    rw [brI_lt_p hc]
    show Ex (d + 7) kX9_requireColumn 23 [some (vR (9, 0, 0)), some (vI a0)] [] hp _
    exact exX9_requireColumn_23 h
  · rw [if_neg hc] at h
    rw [brI_lt_n hc]
    show Ex (d + 7) kX9_requireColumn 4 [some (vR (9, 0, 0)), some (vI a0)] [] hp _
    refine Ex.go 5 (pc' := 13) (ls' := [some (vR (9, 0, 0)), some (vI a0)]) (st' := [vI 0, vR (7, 0, 0), vI a0]) (hp' := hp) (fun _ => rfl) ?_
    obtain ⟨v3, hv, h⟩ := Option.bind_eq_some_iff.mp h
    refine Ex.call (args := [vR (7, 0, 0), vI 0]) (rest := [vI a0]) rfl rfl rfl (exX7_at (d := d + 6) hv) ?_
    show Ex (d + 7) kX9_requireColumn 16 [some (vR (9, 0, 0)), some (vI a0)] [vI v3, vI a0] hp _
    refine Ex.icmp rfl ?_
    by_cases hc : a0 < v3
    · rw [if_pos hc] at h
      rw [brI_ge_p hc]
      show Ex (d + 7) kX9_requireColumn 19 [some (vR (9, 0, 0)), some (vI a0)] [] hp _
      refine Ex.go 2 (pc' := 24) (ls' := [some (vR (9, 0, 0)), some (vI a0)]) (st' := [vI 1]) (hp' := hp) (fun _ => rfl) ?_
      exact exX9_requireColumn_24 h
    · rw [if_neg hc] at h
      rw [brI_ge_n hc]
      show Ex (d + 7) kX9_requireColumn 23 [some (vR (9, 0, 0)), some (vI a0)] [] hp _
      exact exX9_requireColumn_23 h
def fX9_sign (a0 : Int32) (a1 : Int32) (hp : HP) : Option (Int32 ⊕ Nat) := (fX9_requireLoaded hp).bind fun q2 => Sum.elim (fun _ => (fX9_requireLine a0 hp).bind fun q4 => Sum.elim (fun _ => (fX9_requireColumn a1 hp).bind fun q6 => Sum.elim (fun _ => (fX4_placeOf 0 a0 a1 hp).bind fun v7 => (fX7_at 2 0 v7 hp).bind fun v8 => some (.inl v8)) (fun E => some (.inr E)) q6) (fun E => some (.inr E)) q4) (fun E => some (.inr E)) q2
theorem exX9_sign {d : Nat} {a0 : Int32} {a1 : Int32} {hp : HP} {v : (Int32 ⊕ Nat)} (h : fX9_sign a0 a1 hp = some v) : Calls (d + 8) 99 [vR (9, 0, 0), vI a0, vI a1] hp (rsT rsI v hp) := by
  replace h : ((fX9_requireLoaded hp).bind fun q2 => Sum.elim (fun _ => (fX9_requireLine a0 hp).bind fun q4 => Sum.elim (fun _ => (fX9_requireColumn a1 hp).bind fun q6 => Sum.elim (fun _ => (fX4_placeOf 0 a0 a1 hp).bind fun v7 => (fX7_at 2 0 v7 hp).bind fun v8 => some (.inl v8)) (fun E => some (.inr E)) q6) (fun E => some (.inr E)) q4) (fun E => some (.inr E)) q2) = some v := h
  show Ex (d + 8) kX9_sign 0 [some (vR (9, 0, 0)), some (vI a0), some (vI a1)] [] hp _
  refine Ex.go 1 (pc' := 1) (ls' := [some (vR (9, 0, 0)), some (vI a0), some (vI a1)]) (st' := [vR (9, 0, 0)]) (hp' := hp) (fun _ => rfl) ?_
  obtain ⟨q2, hv, h⟩ := Option.bind_eq_some_iff.mp h
  rcases q2 with _ | E
  · replace h : ((fX9_requireLine a0 hp).bind fun q4 => Sum.elim (fun _ => (fX9_requireColumn a1 hp).bind fun q6 => Sum.elim (fun _ => (fX4_placeOf 0 a0 a1 hp).bind fun v7 => (fX7_at 2 0 v7 hp).bind fun v8 => some (.inl v8)) (fun E => some (.inr E)) q6) (fun E => some (.inr E)) q4) = some v := h
    refine Ex.call (args := [vR (9, 0, 0)]) (rest := []) rfl rfl rfl (exX9_requireLoaded (d := d + 1) hv) ?_
    show Ex (d + 8) kX9_sign 4 [some (vR (9, 0, 0)), some (vI a0), some (vI a1)] [] hp _
    refine Ex.go 2 (pc' := 6) (ls' := [some (vR (9, 0, 0)), some (vI a0), some (vI a1)]) (st' := [vI a0, vR (9, 0, 0)]) (hp' := hp) (fun _ => rfl) ?_
    obtain ⟨q4, hv, h⟩ := Option.bind_eq_some_iff.mp h
    rcases q4 with _ | E
    · replace h : ((fX9_requireColumn a1 hp).bind fun q6 => Sum.elim (fun _ => (fX4_placeOf 0 a0 a1 hp).bind fun v7 => (fX7_at 2 0 v7 hp).bind fun v8 => some (.inl v8)) (fun E => some (.inr E)) q6) = some v := h
      refine Ex.call (args := [vR (9, 0, 0), vI a0]) (rest := []) rfl rfl rfl (exX9_requireLine (d := d + 0) hv) ?_
      show Ex (d + 8) kX9_sign 9 [some (vR (9, 0, 0)), some (vI a0), some (vI a1)] [] hp _
      refine Ex.go 2 (pc' := 11) (ls' := [some (vR (9, 0, 0)), some (vI a0), some (vI a1)]) (st' := [vI a1, vR (9, 0, 0)]) (hp' := hp) (fun _ => rfl) ?_
      obtain ⟨q6, hv, h⟩ := Option.bind_eq_some_iff.mp h
      rcases q6 with _ | E
      · replace h : ((fX4_placeOf 0 a0 a1 hp).bind fun v7 => (fX7_at 2 0 v7 hp).bind fun v8 => some (.inl v8)) = some v := h
        refine Ex.call (args := [vR (9, 0, 0), vI a1]) (rest := []) rfl rfl rfl (exX9_requireColumn (d := d + 0) hv) ?_
        show Ex (d + 8) kX9_sign 14 [some (vR (9, 0, 0)), some (vI a0), some (vI a1)] [] hp _
        refine Ex.go 9 (pc' := 33) (ls' := [some (vR (9, 0, 0)), some (vI a0), some (vI a1)]) (st' := [vI a1, vI a0, vR (4, 0, 0), vR (7, 2, 0)]) (hp' := hp) (fun _ => rfl) ?_
        obtain ⟨v7, hv, h⟩ := Option.bind_eq_some_iff.mp h
        refine Ex.call (args := [vR (4, 0, 0), vI a0, vI a1]) (rest := [vR (7, 2, 0)]) rfl rfl rfl (exX4_placeOf (d := d + 6) hv) ?_
        show Ex (d + 8) kX9_sign 36 [some (vR (9, 0, 0)), some (vI a0), some (vI a1)] [vI v7, vR (7, 2, 0)] hp _
        obtain ⟨v8, hv, h⟩ := Option.bind_eq_some_iff.mp h
        refine Ex.call (args := [vR (7, 2, 0), vI v7]) (rest := []) rfl rfl rfl (exX7_at (d := d + 7) hv) ?_
        show Ex (d + 8) kX9_sign 39 [some (vR (9, 0, 0)), some (vI a0), some (vI a1)] [vI v8] hp _
        cases h
        exact Ex.ret rfl rfl rfl
      · cases h
        exact Ex.callT (args := [vR (9, 0, 0), vI a1]) (rest := []) rfl rfl rfl (exX9_requireColumn (d := d + 0) hv) rfl
    · cases h
      exact Ex.callT (args := [vR (9, 0, 0), vI a0]) (rest := []) rfl rfl rfl (exX9_requireLine (d := d + 0) hv) rfl
  · cases h
    exact Ex.callT (args := [vR (9, 0, 0)]) (rest := []) rfl rfl rfl (exX9_requireLoaded (d := d + 1) hv) rfl
def fX9_darkness (a0 : Int32) (a1 : Int32) (hp : HP) : Option (Int32 ⊕ Nat) := (fX9_requireLoaded hp).bind fun q2 => Sum.elim (fun _ => (fX9_requireLine a0 hp).bind fun q4 => Sum.elim (fun _ => (fX9_requireColumn a1 hp).bind fun q6 => Sum.elim (fun _ => (fX4_placeOf 0 a0 a1 hp).bind fun v7 => (fX7_at 3 0 v7 hp).bind fun v8 => some (.inl v8)) (fun E => some (.inr E)) q6) (fun E => some (.inr E)) q4) (fun E => some (.inr E)) q2
theorem exX9_darkness {d : Nat} {a0 : Int32} {a1 : Int32} {hp : HP} {v : (Int32 ⊕ Nat)} (h : fX9_darkness a0 a1 hp = some v) : Calls (d + 8) 100 [vR (9, 0, 0), vI a0, vI a1] hp (rsT rsI v hp) := by
  replace h : ((fX9_requireLoaded hp).bind fun q2 => Sum.elim (fun _ => (fX9_requireLine a0 hp).bind fun q4 => Sum.elim (fun _ => (fX9_requireColumn a1 hp).bind fun q6 => Sum.elim (fun _ => (fX4_placeOf 0 a0 a1 hp).bind fun v7 => (fX7_at 3 0 v7 hp).bind fun v8 => some (.inl v8)) (fun E => some (.inr E)) q6) (fun E => some (.inr E)) q4) (fun E => some (.inr E)) q2) = some v := h
  show Ex (d + 8) kX9_darkness 0 [some (vR (9, 0, 0)), some (vI a0), some (vI a1)] [] hp _
  refine Ex.go 1 (pc' := 1) (ls' := [some (vR (9, 0, 0)), some (vI a0), some (vI a1)]) (st' := [vR (9, 0, 0)]) (hp' := hp) (fun _ => rfl) ?_
  obtain ⟨q2, hv, h⟩ := Option.bind_eq_some_iff.mp h
  rcases q2 with _ | E
  · replace h : ((fX9_requireLine a0 hp).bind fun q4 => Sum.elim (fun _ => (fX9_requireColumn a1 hp).bind fun q6 => Sum.elim (fun _ => (fX4_placeOf 0 a0 a1 hp).bind fun v7 => (fX7_at 3 0 v7 hp).bind fun v8 => some (.inl v8)) (fun E => some (.inr E)) q6) (fun E => some (.inr E)) q4) = some v := h
    refine Ex.call (args := [vR (9, 0, 0)]) (rest := []) rfl rfl rfl (exX9_requireLoaded (d := d + 1) hv) ?_
    show Ex (d + 8) kX9_darkness 4 [some (vR (9, 0, 0)), some (vI a0), some (vI a1)] [] hp _
    refine Ex.go 2 (pc' := 6) (ls' := [some (vR (9, 0, 0)), some (vI a0), some (vI a1)]) (st' := [vI a0, vR (9, 0, 0)]) (hp' := hp) (fun _ => rfl) ?_
    obtain ⟨q4, hv, h⟩ := Option.bind_eq_some_iff.mp h
    rcases q4 with _ | E
    · replace h : ((fX9_requireColumn a1 hp).bind fun q6 => Sum.elim (fun _ => (fX4_placeOf 0 a0 a1 hp).bind fun v7 => (fX7_at 3 0 v7 hp).bind fun v8 => some (.inl v8)) (fun E => some (.inr E)) q6) = some v := h
      refine Ex.call (args := [vR (9, 0, 0), vI a0]) (rest := []) rfl rfl rfl (exX9_requireLine (d := d + 0) hv) ?_
      show Ex (d + 8) kX9_darkness 9 [some (vR (9, 0, 0)), some (vI a0), some (vI a1)] [] hp _
      refine Ex.go 2 (pc' := 11) (ls' := [some (vR (9, 0, 0)), some (vI a0), some (vI a1)]) (st' := [vI a1, vR (9, 0, 0)]) (hp' := hp) (fun _ => rfl) ?_
      obtain ⟨q6, hv, h⟩ := Option.bind_eq_some_iff.mp h
      rcases q6 with _ | E
      · replace h : ((fX4_placeOf 0 a0 a1 hp).bind fun v7 => (fX7_at 3 0 v7 hp).bind fun v8 => some (.inl v8)) = some v := h
        refine Ex.call (args := [vR (9, 0, 0), vI a1]) (rest := []) rfl rfl rfl (exX9_requireColumn (d := d + 0) hv) ?_
        show Ex (d + 8) kX9_darkness 14 [some (vR (9, 0, 0)), some (vI a0), some (vI a1)] [] hp _
        refine Ex.go 9 (pc' := 33) (ls' := [some (vR (9, 0, 0)), some (vI a0), some (vI a1)]) (st' := [vI a1, vI a0, vR (4, 0, 0), vR (7, 3, 0)]) (hp' := hp) (fun _ => rfl) ?_
        obtain ⟨v7, hv, h⟩ := Option.bind_eq_some_iff.mp h
        refine Ex.call (args := [vR (4, 0, 0), vI a0, vI a1]) (rest := [vR (7, 3, 0)]) rfl rfl rfl (exX4_placeOf (d := d + 6) hv) ?_
        show Ex (d + 8) kX9_darkness 36 [some (vR (9, 0, 0)), some (vI a0), some (vI a1)] [vI v7, vR (7, 3, 0)] hp _
        obtain ⟨v8, hv, h⟩ := Option.bind_eq_some_iff.mp h
        refine Ex.call (args := [vR (7, 3, 0), vI v7]) (rest := []) rfl rfl rfl (exX7_at (d := d + 7) hv) ?_
        show Ex (d + 8) kX9_darkness 39 [some (vR (9, 0, 0)), some (vI a0), some (vI a1)] [vI v8] hp _
        cases h
        exact Ex.ret rfl rfl rfl
      · cases h
        exact Ex.callT (args := [vR (9, 0, 0), vI a1]) (rest := []) rfl rfl rfl (exX9_requireColumn (d := d + 0) hv) rfl
    · cases h
      exact Ex.callT (args := [vR (9, 0, 0), vI a0]) (rest := []) rfl rfl rfl (exX9_requireLine (d := d + 0) hv) rfl
  · cases h
    exact Ex.callT (args := [vR (9, 0, 0)]) (rest := []) rfl rfl rfl (exX9_requireLoaded (d := d + 1) hv) rfl
end
