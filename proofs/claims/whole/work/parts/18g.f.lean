noncomputable section
def fX10_otherKey (a0 : Int32) (hp : HP) : Option (Int32 × HP) := (fX10_begins hp).bind fun hp3 => (fX10_goes a0 hp3).bind fun q5 => (fX10_ends q5.1 q5.2).bind fun q7 => some (q7.1, q7.2)
theorem exX10_otherKey {d : Nat} {a0 : Int32} {hp : HP} {v : (Int32 × HP)} (h : fX10_otherKey a0 hp = some v) : Calls (d + 4) 212 [vR (10, 0, 0), vI a0] hp (rsI v.1 v.2) := by
  replace h : ((fX10_begins hp).bind fun hp3 => (fX10_goes a0 hp3).bind fun q5 => (fX10_ends q5.1 q5.2).bind fun q7 => some (q7.1, q7.2)) = some v := h
  show Ex (d + 4) kX10_otherKey 0 [some (vR (10, 0, 0)), some (vI a0)] [] hp _
  refine Ex.go 1 (pc' := 1) (ls' := [some (vR (10, 0, 0)), some (vI a0)]) (st' := [vR (10, 0, 0)]) (hp' := hp) (fun _ => rfl) ?_
  obtain ⟨hp3, hv, h⟩ := Option.bind_eq_some_iff.mp h
  refine Ex.call (args := [vR (10, 0, 0)]) (rest := []) rfl rfl rfl (exX10_begins (d := d + 2) hv) ?_
  show Ex (d + 4) kX10_otherKey 4 [some (vR (10, 0, 0)), some (vI a0)] [] hp3 _
  refine Ex.go 3 (pc' := 7) (ls' := [some (vR (10, 0, 0)), some (vI a0)]) (st' := [vI a0, vR (10, 0, 0), vR (10, 0, 0)]) (hp' := hp3) (fun _ => rfl) ?_
  obtain ⟨q5, hv, h⟩ := Option.bind_eq_some_iff.mp h
  refine Ex.call (args := [vR (10, 0, 0), vI a0]) (rest := [vR (10, 0, 0)]) rfl rfl rfl (exX10_goes (d := d + 0) hv) ?_
  show Ex (d + 4) kX10_otherKey 10 [some (vR (10, 0, 0)), some (vI a0)] [vI q5.1, vR (10, 0, 0)] q5.2 _
  obtain ⟨q7, hv, h⟩ := Option.bind_eq_some_iff.mp h
  refine Ex.call (args := [vR (10, 0, 0), vI q5.1]) (rest := []) rfl rfl rfl (exX10_ends (d := d + 2) hv) ?_
  show Ex (d + 4) kX10_otherKey 13 [some (vR (10, 0, 0)), some (vI a0)] [vI q7.1] q7.2 _
  cases h
  exact Ex.ret rfl rfl rfl
def fX10_isCapital (a0 : Int32) (hp : HP) : Option Int32 := if a0 < 65 then (some 0) else (if 90 < a0 then (some 0) else (some 1))
theorem exX10_isCapital {d : Nat} {a0 : Int32} {hp : HP} {v : Int32} (h : fX10_isCapital a0 hp = some v) : Calls (d + 0) 213 [vI a0] hp (rsI v hp) := by
  replace h : (if a0 < 65 then (some 0) else (if 90 < a0 then (some 0) else (some 1))) = some v := h
  show Ex (d + 0) kX10_isCapital 0 [some (vI a0)] [] hp _
  refine Ex.go 2 (pc' := 3) (ls' := [some (vI a0)]) (st' := [vI 65, vI a0]) (hp' := hp) (fun _ => rfl) ?_
  refine Ex.icmp rfl ?_
  by_cases hc : a0 < 65
  · rw [if_pos hc] at h
    rw [brI_lt_p hc]
    show Ex (d + 0) kX10_isCapital 16 [some (vI a0)] [] hp _
    refine Ex.go 1 (pc' := 17) (ls' := [some (vI a0)]) (st' := [vI 0]) (hp' := hp) (fun _ => rfl) ?_
    cases h
    exact Ex.ret rfl rfl rfl
  · rw [if_neg hc] at h
    rw [brI_lt_n hc]
    show Ex (d + 0) kX10_isCapital 6 [some (vI a0)] [] hp _
    refine Ex.go 2 (pc' := 9) (ls' := [some (vI a0)]) (st' := [vI 90, vI a0]) (hp' := hp) (fun _ => rfl) ?_
    refine Ex.icmp rfl ?_
    by_cases hc : 90 < a0
    · rw [if_pos hc] at h
      rw [brI_gt_p hc]
      show Ex (d + 0) kX10_isCapital 16 [some (vI a0)] [] hp _
      refine Ex.go 1 (pc' := 17) (ls' := [some (vI a0)]) (st' := [vI 0]) (hp' := hp) (fun _ => rfl) ?_
      cases h
      exact Ex.ret rfl rfl rfl
    · rw [if_neg hc] at h
      rw [brI_gt_n hc]
      show Ex (d + 0) kX10_isCapital 12 [some (vI a0)] [] hp _
      refine Ex.go 2 (pc' := 17) (ls' := [some (vI a0)]) (st' := [vI 1]) (hp' := hp) (fun _ => rfl) ?_
      cases h
      exact Ex.ret rfl rfl rfl
def fX10_barFor (a0 : Int32) (hp : HP) : Option Int32 := (fX10_isSmall a0 hp).bind fun v1 => if v1 = 0 then ((fX10_isCapital a0 hp).bind fun v2 => if v2 = 0 then (some m1) else ((fX10_withLetter (a0 + 32) hp).bind fun v3 => some v3)) else ((fX10_withLetter a0 hp).bind fun v4 => some v4)
theorem exX10_barFor {d : Nat} {a0 : Int32} {hp : HP} {v : Int32} (h : fX10_barFor a0 hp = some v) : Calls (d + 1) 214 [vR (10, 0, 0), vI a0] hp (rsI v hp) := by
  replace h : ((fX10_isSmall a0 hp).bind fun v1 => if v1 = 0 then ((fX10_isCapital a0 hp).bind fun v2 => if v2 = 0 then (some m1) else ((fX10_withLetter (a0 + 32) hp).bind fun v3 => some v3)) else ((fX10_withLetter a0 hp).bind fun v4 => some v4)) = some v := h
  show Ex (d + 1) kX10_barFor 0 [some (vR (10, 0, 0)), some (vI a0)] [] hp _
  refine Ex.go 1 (pc' := 1) (ls' := [some (vR (10, 0, 0)), some (vI a0)]) (st' := [vI a0]) (hp' := hp) (fun _ => rfl) ?_
  obtain ⟨v1, hv, h⟩ := Option.bind_eq_some_iff.mp h
  refine Ex.call (args := [vI a0]) (rest := []) rfl rfl rfl (exX10_isSmall (d := d + 0) hv) ?_
  show Ex (d + 1) kX10_barFor 4 [some (vR (10, 0, 0)), some (vI a0)] [vI v1] hp _
  refine Ex.ifc rfl ?_
  by_cases hc : v1 = 0
  · rw [if_pos hc] at h
    rw [brI_eq_p hc]
    show Ex (d + 1) kX10_barFor 15 [some (vR (10, 0, 0)), some (vI a0)] [] hp _
    refine Ex.go 1 (pc' := 16) (ls' := [some (vR (10, 0, 0)), some (vI a0)]) (st' := [vI a0]) (hp' := hp) (fun _ => rfl) ?_
    obtain ⟨v2, hv, h⟩ := Option.bind_eq_some_iff.mp h
    refine Ex.call (args := [vI a0]) (rest := []) rfl rfl rfl (exX10_isCapital (d := d + 0) hv) ?_
    show Ex (d + 1) kX10_barFor 19 [some (vR (10, 0, 0)), some (vI a0)] [vI v2] hp _
    refine Ex.ifc rfl ?_
    by_cases hc : v2 = 0
    · rw [if_pos hc] at h
      rw [brI_eq_p hc]
      show Ex (d + 1) kX10_barFor 33 [some (vR (10, 0, 0)), some (vI a0)] [] hp _
      refine Ex.go 1 (pc' := 34) (ls' := [some (vR (10, 0, 0)), some (vI a0)]) (st' := [vI m1]) (hp' := hp) (fun _ => rfl) ?_
      cases h
      exact Ex.ret rfl rfl rfl
    · rw [if_neg hc] at h
      rw [brI_eq_n hc]
      show Ex (d + 1) kX10_barFor 22 [some (vR (10, 0, 0)), some (vI a0)] [] hp _
      refine Ex.go 4 (pc' := 27) (ls' := [some (vR (10, 0, 0)), some (vI a0)]) (st' := [vI (a0 + 32), vR (10, 0, 0)]) (hp' := hp) (fun _ => rfl) ?_
      obtain ⟨v3, hv, h⟩ := Option.bind_eq_some_iff.mp h
      refine Ex.call (args := [vR (10, 0, 0), vI (a0 + 32)]) (rest := []) rfl rfl rfl (exX10_withLetter (d := d + 0) hv) ?_
      show Ex (d + 1) kX10_barFor 30 [some (vR (10, 0, 0)), some (vI a0)] [vI v3] hp _
      refine Ex.go 1 (pc' := 34) (ls' := [some (vR (10, 0, 0)), some (vI a0)]) (st' := [vI v3]) (hp' := hp) (fun _ => rfl) ?_
      cases h
      exact Ex.ret rfl rfl rfl
  · rw [if_neg hc] at h
    rw [brI_eq_n hc]
    show Ex (d + 1) kX10_barFor 7 [some (vR (10, 0, 0)), some (vI a0)] [] hp _
    refine Ex.go 2 (pc' := 9) (ls' := [some (vR (10, 0, 0)), some (vI a0)]) (st' := [vI a0, vR (10, 0, 0)]) (hp' := hp) (fun _ => rfl) ?_
    obtain ⟨v4, hv, h⟩ := Option.bind_eq_some_iff.mp h
    refine Ex.call (args := [vR (10, 0, 0), vI a0]) (rest := []) rfl rfl rfl (exX10_withLetter (d := d + 0) hv) ?_
    show Ex (d + 1) kX10_barFor 12 [some (vR (10, 0, 0)), some (vI a0)] [vI v4] hp _
    refine Ex.go 1 (pc' := 34) (ls' := [some (vR (10, 0, 0)), some (vI a0)]) (st' := [vI v4]) (hp' := hp) (fun _ => rfl) ?_
    cases h
    exact Ex.ret rfl rfl rfl
def fX10_keyFor (a0 : Int32) (hp : HP) : Option Int32 := if a0 = 32 then (some 0) else (if a0 = 33 then (some 5) else (if a0 = 47 then (some 3) else (if a0 = 60 then (some 2) else (if a0 = 62 then (some 1) else (if a0 = 94 then (some 4) else (some m1))))))
theorem exX10_keyFor {d : Nat} {a0 : Int32} {hp : HP} {v : Int32} (h : fX10_keyFor a0 hp = some v) : Calls (d + 0) 215 [vI a0] hp (rsI v hp) := by
  replace h : (if a0 = 32 then (some 0) else (if a0 = 33 then (some 5) else (if a0 = 47 then (some 3) else (if a0 = 60 then (some 2) else (if a0 = 62 then (some 1) else (if a0 = 94 then (some 4) else (some m1))))))) = some v := h
  show Ex (d + 0) kX10_keyFor 0 [some (vI a0)] [] hp _
  refine Ex.go 1 (pc' := 1) (ls' := [some (vI a0)]) (st' := [vI a0]) (hp' := hp) (fun _ => rfl) ?_
  refine Ex.lsw rfl ?_
  refine sw_c (k := 32) rfl (fun hc => ?_) (fun hc => ?_)
  · rw [if_pos hc] at h
    show Ex (d + 0) kX10_keyFor 60 [some (vI a0)] [] hp _
    refine Ex.go 1 (pc' := 61) (ls' := [some (vI a0)]) (st' := [vI 0]) (hp' := hp) (fun _ => rfl) ?_
    cases h
    exact Ex.ret rfl rfl rfl
  rw [if_neg hc] at h
  refine sw_c (k := 33) rfl (fun hc => ?_) (fun hc => ?_)
  · rw [if_pos hc] at h
    show Ex (d + 0) kX10_keyFor 70 [some (vI a0)] [] hp _
    refine Ex.go 1 (pc' := 71) (ls' := [some (vI a0)]) (st' := [vI 5]) (hp' := hp) (fun _ => rfl) ?_
    cases h
    exact Ex.ret rfl rfl rfl
  rw [if_neg hc] at h
  refine sw_c (k := 47) rfl (fun hc => ?_) (fun hc => ?_)
  · rw [if_pos hc] at h
    show Ex (d + 0) kX10_keyFor 66 [some (vI a0)] [] hp _
    refine Ex.go 1 (pc' := 67) (ls' := [some (vI a0)]) (st' := [vI 3]) (hp' := hp) (fun _ => rfl) ?_
    cases h
    exact Ex.ret rfl rfl rfl
  rw [if_neg hc] at h
  refine sw_c (k := 60) rfl (fun hc => ?_) (fun hc => ?_)
  · rw [if_pos hc] at h
    show Ex (d + 0) kX10_keyFor 64 [some (vI a0)] [] hp _
    refine Ex.go 1 (pc' := 65) (ls' := [some (vI a0)]) (st' := [vI 2]) (hp' := hp) (fun _ => rfl) ?_
    cases h
    exact Ex.ret rfl rfl rfl
  rw [if_neg hc] at h
  refine sw_c (k := 62) rfl (fun hc => ?_) (fun hc => ?_)
  · rw [if_pos hc] at h
    show Ex (d + 0) kX10_keyFor 62 [some (vI a0)] [] hp _
    refine Ex.go 1 (pc' := 63) (ls' := [some (vI a0)]) (st' := [vI 1]) (hp' := hp) (fun _ => rfl) ?_
    cases h
    exact Ex.ret rfl rfl rfl
  rw [if_neg hc] at h
  refine sw_c (k := 94) rfl (fun hc => ?_) (fun hc => ?_)
  · rw [if_pos hc] at h
    show Ex (d + 0) kX10_keyFor 68 [some (vI a0)] [] hp _
    refine Ex.go 1 (pc' := 69) (ls' := [some (vI a0)]) (st' := [vI 4]) (hp' := hp) (fun _ => rfl) ?_
    cases h
    exact Ex.ret rfl rfl rfl
  rw [if_neg hc] at h
  show Ex (d + 0) kX10_keyFor 72 [some (vI a0)] [] hp _
  refine Ex.go 1 (pc' := 73) (ls' := [some (vI a0)]) (st' := [vI m1]) (hp' := hp) (fun _ => rfl) ?_
  cases h
  exact Ex.ret rfl rfl rfl
def fX10_types (a0 : Int32) (hp : HP) : Option (Int32 × HP) := (fX10_isDigit a0 hp).bind fun v1 => if v1 = 0 then ((fX10_keyFor a0 hp).bind fun v2 => if v2 = m1 then ((fX10_barFor a0 hp).bind fun v3 => if v3 = m1 then (some (3, hp)) else ((fX10_isCapital a0 hp).bind fun v4 => (fX10_letterKey v3 v4 hp).bind fun q6 => some (q6.1, q6.2))) else ((fX10_keyFor a0 hp).bind fun v7 => (fX10_otherKey v7 hp).bind fun q9 => some (q9.1, q9.2))) else (some (0, (up hp (11, 22, 0) 3 ((hp (11, 22, 0) 3) + (10 * (a0 - 48))))))
theorem exX10_types {d : Nat} {a0 : Int32} {hp : HP} {v : (Int32 × HP)} (h : fX10_types a0 hp = some v) : Calls (d + 6) 216 [vR (10, 0, 0), vI a0] hp (rsI v.1 v.2) := by
  replace h : ((fX10_isDigit a0 hp).bind fun v1 => if v1 = 0 then ((fX10_keyFor a0 hp).bind fun v2 => if v2 = m1 then ((fX10_barFor a0 hp).bind fun v3 => if v3 = m1 then (some (3, hp)) else ((fX10_isCapital a0 hp).bind fun v4 => (fX10_letterKey v3 v4 hp).bind fun q6 => some (q6.1, q6.2))) else ((fX10_keyFor a0 hp).bind fun v7 => (fX10_otherKey v7 hp).bind fun q9 => some (q9.1, q9.2))) else (some (0, (up hp (11, 22, 0) 3 ((hp (11, 22, 0) 3) + (10 * (a0 - 48))))))) = some v := h
  show Ex (d + 6) kX10_types 0 [some (vR (10, 0, 0)), some (vI a0), none] [] hp _
  refine Ex.go 1 (pc' := 1) (ls' := [some (vR (10, 0, 0)), some (vI a0), none]) (st' := [vI a0]) (hp' := hp) (fun _ => rfl) ?_
  obtain ⟨v1, hv, h⟩ := Option.bind_eq_some_iff.mp h
  refine Ex.call (args := [vI a0]) (rest := []) rfl rfl rfl (exX10_isDigit (d := d + 5) hv) ?_
  show Ex (d + 6) kX10_types 4 [some (vR (10, 0, 0)), some (vI a0), none] [vI v1] hp _
  refine Ex.ifc rfl ?_
  by_cases hc : v1 = 0
  · rw [if_pos hc] at h
    rw [brI_eq_p hc]
    show Ex (d + 6) kX10_types 25 [some (vR (10, 0, 0)), some (vI a0), none] [] hp _
    refine Ex.go 1 (pc' := 26) (ls' := [some (vR (10, 0, 0)), some (vI a0), none]) (st' := [vI a0]) (hp' := hp) (fun _ => rfl) ?_
    obtain ⟨v2, hv, h⟩ := Option.bind_eq_some_iff.mp h
    refine Ex.call (args := [vI a0]) (rest := []) rfl rfl rfl (exX10_keyFor (d := d + 5) hv) ?_
    show Ex (d + 6) kX10_types 29 [some (vR (10, 0, 0)), some (vI a0), none] [vI v2] hp _
    refine Ex.go 1 (pc' := 30) (ls' := [some (vR (10, 0, 0)), some (vI a0), none]) (st' := [vI m1, vI v2]) (hp' := hp) (fun _ => rfl) ?_
    refine Ex.icmp rfl ?_
    by_cases hc : v2 = m1
    · rw [if_pos hc] at h
      rw [brI_eq_p hc]
      show Ex (d + 6) kX10_types 42 [some (vR (10, 0, 0)), some (vI a0), none] [] hp _
      refine Ex.go 2 (pc' := 44) (ls' := [some (vR (10, 0, 0)), some (vI a0), none]) (st' := [vI a0, vR (10, 0, 0)]) (hp' := hp) (fun _ => rfl) ?_
      obtain ⟨v3, hv, h⟩ := Option.bind_eq_some_iff.mp h
      refine Ex.call (args := [vR (10, 0, 0), vI a0]) (rest := []) rfl rfl rfl (exX10_barFor (d := d + 4) hv) ?_
      show Ex (d + 6) kX10_types 47 [some (vR (10, 0, 0)), some (vI a0), none] [vI v3] hp _
      refine Ex.go 3 (pc' := 50) (ls' := [some (vR (10, 0, 0)), some (vI a0), some (vI v3)]) (st' := [vI m1, vI v3]) (hp' := hp) (fun _ => rfl) ?_
      refine Ex.icmp rfl ?_
      by_cases hc : v3 = m1
      · rw [if_pos hc] at h
        rw [brI_ne_p hc]
        show Ex (d + 6) kX10_types 53 [some (vR (10, 0, 0)), some (vI a0), some (vI v3)] [] hp _
        refine Ex.go 2 (pc' := 66) (ls' := [some (vR (10, 0, 0)), some (vI a0), some (vI v3)]) (st' := [vI 3]) (hp' := hp) (fun _ => rfl) ?_
        cases h
        exact Ex.ret rfl rfl rfl
      · rw [if_neg hc] at h
        rw [brI_ne_n hc]
        show Ex (d + 6) kX10_types 57 [some (vR (10, 0, 0)), some (vI a0), some (vI v3)] [] hp _
        refine Ex.go 3 (pc' := 60) (ls' := [some (vR (10, 0, 0)), some (vI a0), some (vI v3)]) (st' := [vI a0, vI v3, vR (10, 0, 0)]) (hp' := hp) (fun _ => rfl) ?_
        obtain ⟨v4, hv, h⟩ := Option.bind_eq_some_iff.mp h
        refine Ex.call (args := [vI a0]) (rest := [vI v3, vR (10, 0, 0)]) rfl rfl rfl (exX10_isCapital (d := d + 5) hv) ?_
        show Ex (d + 6) kX10_types 63 [some (vR (10, 0, 0)), some (vI a0), some (vI v3)] [vI v4, vI v3, vR (10, 0, 0)] hp _
        obtain ⟨q6, hv, h⟩ := Option.bind_eq_some_iff.mp h
        refine Ex.call (args := [vR (10, 0, 0), vI v3, vI v4]) (rest := []) rfl rfl rfl (exX10_letterKey (d := d + 0) hv) ?_
        show Ex (d + 6) kX10_types 66 [some (vR (10, 0, 0)), some (vI a0), some (vI v3)] [vI q6.1] q6.2 _
        cases h
        exact Ex.ret rfl rfl rfl
    · rw [if_neg hc] at h
      rw [brI_eq_n hc]
      show Ex (d + 6) kX10_types 33 [some (vR (10, 0, 0)), some (vI a0), none] [] hp _
      refine Ex.go 2 (pc' := 35) (ls' := [some (vR (10, 0, 0)), some (vI a0), none]) (st' := [vI a0, vR (10, 0, 0)]) (hp' := hp) (fun _ => rfl) ?_
      obtain ⟨v7, hv, h⟩ := Option.bind_eq_some_iff.mp h
      refine Ex.call (args := [vI a0]) (rest := [vR (10, 0, 0)]) rfl rfl rfl (exX10_keyFor (d := d + 5) hv) ?_
      show Ex (d + 6) kX10_types 38 [some (vR (10, 0, 0)), some (vI a0), none] [vI v7, vR (10, 0, 0)] hp _
      obtain ⟨q9, hv, h⟩ := Option.bind_eq_some_iff.mp h
      refine Ex.call (args := [vR (10, 0, 0), vI v7]) (rest := []) rfl rfl rfl (exX10_otherKey (d := d + 1) hv) ?_
      show Ex (d + 6) kX10_types 41 [some (vR (10, 0, 0)), some (vI a0), none] [vI q9.1] q9.2 _
      cases h
      exact Ex.ret rfl rfl rfl
  · rw [if_neg hc] at h
    rw [brI_eq_n hc]
    show Ex (d + 6) kX10_types 7 [some (vR (10, 0, 0)), some (vI a0), none] [] hp _
    refine Ex.go 4 (pc' := 13) (ls' := [some (vR (10, 0, 0)), some (vI a0), none]) (st' := [vI 3, vR (11, 22, 0), vI 3, vR (11, 22, 0)]) (hp' := hp) (fun _ => rfl) ?_
    refine Ex.iald (k := 3) rfl rfl (by decide) (by decide) ?_
    show Ex (d + 6) kX10_types 14 [some (vR (10, 0, 0)), some (vI a0), none] [vI (hp (11, 22, 0) 3), vI 3, vR (11, 22, 0)] hp _
    refine Ex.go 6 (pc' := 22) (ls' := [some (vR (10, 0, 0)), some (vI a0), none]) (st' := [vI ((hp (11, 22, 0) 3) + (10 * (a0 - 48))), vI 3, vR (11, 22, 0)]) (hp' := hp) (fun _ => rfl) ?_
    refine Ex.iast (k := 3) rfl rfl (by decide) (by decide) ?_
    show Ex (d + 6) kX10_types 23 [some (vR (10, 0, 0)), some (vI a0), none] [] (up hp (11, 22, 0) 3 ((hp (11, 22, 0) 3) + (10 * (a0 - 48)))) _
    refine Ex.go 1 (pc' := 24) (ls' := [some (vR (10, 0, 0)), some (vI a0), none]) (st' := [vI 0]) (hp' := (up hp (11, 22, 0) 3 ((hp (11, 22, 0) 3) + (10 * (a0 - 48))))) (fun _ => rfl) ?_
    cases h
    exact Ex.ret rfl rfl rfl
def fX10_typesAll_34 (x1 : Int32) (x3 : Int32) (y0 : Int32) (y1 : Int32) (k4 : Int32 → Int32 → Int32 → HP → Option (Int32 × HP)) (hp : HP) : Option (Int32 × HP) := (fX10_flag y1 hp).bind fun v1 => k4 x1 (y0 + v1) x3 hp
theorem exX10_typesAll_34 {d : Nat} {x1 : Int32} {x3 : Int32} {y0 : Int32} {y1 : Int32} {j2 : Option VL} {hp : HP} {v : (Int32 × HP)} {k4 : Int32 → Int32 → Int32 → HP → Option (Int32 × HP)} (hk4 : ∀ (x1 : Int32) (x2 : Int32) (x3 : Int32) (hp : HP) (v : (Int32 × HP)), k4 x1 x2 x3 hp = some v → Ex (d + 7) kX10_typesAll 4 [some (vR (10, 0, 0)), some (vI x1), some (vI x2), some (vI x3)] [] hp (rsI v.1 v.2)) (h : fX10_typesAll_34 x1 x3 y0 y1 k4 hp = some v) : Ex (d + 7) kX10_typesAll 34 [some (vR (10, 0, 0)), some (vI x1), j2, some (vI x3)] [vI y1, vI y0] hp (rsI v.1 v.2) := by
  replace h : ((fX10_flag y1 hp).bind fun v1 => k4 x1 (y0 + v1) x3 hp) = some v := h
  obtain ⟨v1, hv, h⟩ := Option.bind_eq_some_iff.mp h
  refine Ex.call (args := [vI y1]) (rest := [vI y0]) rfl rfl rfl (exX10_flag (d := d + 6) hv) ?_
  show Ex (d + 7) kX10_typesAll 37 [some (vR (10, 0, 0)), some (vI x1), j2, some (vI x3)] [vI v1, vI y0] hp _
  refine Ex.go 3 (pc' := 4) (ls' := [some (vR (10, 0, 0)), some (vI x1), some (vI (y0 + v1)), some (vI x3)]) (st' := []) (hp' := hp) (fun _ => rfl) ?_
  exact hk4 _ _ _ _ _ h
def fX10_typesAll_65 (x2 : Int32) (ws0 : Nat) (ms0 : Nat) (y1 : Int32) (y2 : Int32) (hp : HP) : Option (Int32 × HP) := if inb y1 (alen (11, ws0, ms0)) = true then (some (x2, (up hp (11, ws0, ms0) (y1.toNatClampNeg) y2))) else none
theorem exX10_typesAll_65 {d : Nat} {x2 : Int32} {ws0 : Nat} {ms0 : Nat} {y1 : Int32} {y2 : Int32} {j1 : Option VL} {j3 : Option VL} {hp : HP} {v : (Int32 × HP)} (h : fX10_typesAll_65 x2 ws0 ms0 y1 y2 hp = some v) : Ex (d + 7) kX10_typesAll 65 [some (vR (10, 0, 0)), j1, some (vI x2), j3] [vI y2, vI y1, vR (11, ws0, ms0)] hp (rsI v.1 v.2) := by
  replace h : (if inb y1 (alen (11, ws0, ms0)) = true then (some (x2, (up hp (11, ws0, ms0) (y1.toNatClampNeg) y2))) else none) = some v := h
  by_cases hc : inb y1 (alen (11, ws0, ms0)) = true
  · rw [if_pos hc] at h
    refine Ex.iast rfl rfl hc rfl ?_
    show Ex (d + 7) kX10_typesAll 66 [some (vR (10, 0, 0)), j1, some (vI x2), j3] [] (up hp (11, ws0, ms0) (y1.toNatClampNeg) y2) _
    refine Ex.go 1 (pc' := 67) (ls' := [some (vR (10, 0, 0)), j1, some (vI x2), j3]) (st' := [vI x2]) (hp' := (up hp (11, ws0, ms0) (y1.toNatClampNeg) y2)) (fun _ => rfl) ?_
    cases h
    exact Ex.ret rfl rfl rfl
  · rw [if_neg hc] at h
    cases h
def fX10_typesAll_42 (x2 : Int32) (x3 : Int32) (hp : HP) : Option (Int32 × HP) := if x3 = 0 then (fX10_typesAll_65 x2 22 0 37 m1 (up hp (11, 22, 0) 36 x3)) else (fX10_typesAll_65 x2 22 0 37 x2 (up hp (11, 22, 0) 36 x3))
theorem exX10_typesAll_42 {d : Nat} {x2 : Int32} {x3 : Int32} {j1 : Option VL} {hp : HP} {v : (Int32 × HP)} (h : fX10_typesAll_42 x2 x3 hp = some v) : Ex (d + 7) kX10_typesAll 42 [some (vR (10, 0, 0)), j1, some (vI x2), some (vI x3)] [] hp (rsI v.1 v.2) := by
  replace h : (if x3 = 0 then (fX10_typesAll_65 x2 22 0 37 m1 (up hp (11, 22, 0) 36 x3)) else (fX10_typesAll_65 x2 22 0 37 x2 (up hp (11, 22, 0) 36 x3))) = some v := h
  refine Ex.go 4 (pc' := 49) (ls' := [some (vR (10, 0, 0)), j1, some (vI x2), some (vI x3)]) (st' := [vI x3, vI 36, vR (11, 22, 0)]) (hp' := hp) (fun _ => rfl) ?_
  refine Ex.iast (k := 36) rfl rfl (by decide) (by decide) ?_
  show Ex (d + 7) kX10_typesAll 50 [some (vR (10, 0, 0)), j1, some (vI x2), some (vI x3)] [] (up hp (11, 22, 0) 36 x3) _
  refine Ex.go 4 (pc' := 57) (ls' := [some (vR (10, 0, 0)), j1, some (vI x2), some (vI x3)]) (st' := [vI x3, vI 37, vR (11, 22, 0)]) (hp' := (up hp (11, 22, 0) 36 x3)) (fun _ => rfl) ?_
  refine Ex.ifc rfl ?_
  by_cases hc : x3 = 0
  · rw [if_pos hc] at h
    rw [brI_ne_p hc]
    show Ex (d + 7) kX10_typesAll 60 [some (vR (10, 0, 0)), j1, some (vI x2), some (vI x3)] [vI 37, vR (11, 22, 0)] (up hp (11, 22, 0) 36 x3) _
    refine Ex.go 2 (pc' := 65) (ls' := [some (vR (10, 0, 0)), j1, some (vI x2), some (vI x3)]) (st' := [vI m1, vI 37, vR (11, 22, 0)]) (hp' := (up hp (11, 22, 0) 36 x3)) (fun _ => rfl) ?_
    exact exX10_typesAll_65 h
  · rw [if_neg hc] at h
    rw [brI_ne_n hc]
    show Ex (d + 7) kX10_typesAll 64 [some (vR (10, 0, 0)), j1, some (vI x2), some (vI x3)] [vI 37, vR (11, 22, 0)] (up hp (11, 22, 0) 36 x3) _
    refine Ex.go 1 (pc' := 65) (ls' := [some (vR (10, 0, 0)), j1, some (vI x2), some (vI x3)]) (st' := [vI x2, vI 37, vR (11, 22, 0)]) (hp' := (up hp (11, 22, 0) 36 x3)) (fun _ => rfl) ?_
    exact exX10_typesAll_65 h
def fX10_typesAll_4 (n : Nat) (x1 : Int32) (x2 : Int32) (x3 : Int32) (hp : HP) : Option (Int32 × HP) := match n with
  | 0 => none
  | n + 1 => if x2 < x1 then (if x3 = 0 then (if inb x2 (alen (11, 25, 0)) = true then ((fX10_types (hp (11, 25, 0) x2.toNatClampNeg) hp).bind fun q3 => if q3.1 = 0 then (fX10_typesAll_34 x1 q3.1 x2 1 (fun x1 x2 x3 hq => fX10_typesAll_4 n x1 x2 x3 hq) q3.2) else (fX10_typesAll_34 x1 q3.1 x2 0 (fun x1 x2 x3 hq => fX10_typesAll_4 n x1 x2 x3 hq) q3.2)) else none) else (fX10_typesAll_42 x2 x3 hp)) else (fX10_typesAll_42 x2 x3 hp)
theorem exX10_typesAll_4 {d : Nat} : ∀ (n : Nat) (x1 : Int32) (x2 : Int32) (x3 : Int32) (hp : HP) (v : (Int32 × HP)), fX10_typesAll_4 n x1 x2 x3 hp = some v → Ex (d + 7) kX10_typesAll 4 [some (vR (10, 0, 0)), some (vI x1), some (vI x2), some (vI x3)] [] hp (rsI v.1 v.2) := by
  intro n
  induction n with
  | zero =>
    intro x1 x2 x3 hp v h
    cases h
  | succ n ih =>
    intro x1 x2 x3 hp v h
    replace h : (if x2 < x1 then (if x3 = 0 then (if inb x2 (alen (11, 25, 0)) = true then ((fX10_types (hp (11, 25, 0) x2.toNatClampNeg) hp).bind fun q3 => if q3.1 = 0 then (fX10_typesAll_34 x1 q3.1 x2 1 (fun x1 x2 x3 hq => fX10_typesAll_4 n x1 x2 x3 hq) q3.2) else (fX10_typesAll_34 x1 q3.1 x2 0 (fun x1 x2 x3 hq => fX10_typesAll_4 n x1 x2 x3 hq) q3.2)) else none) else (fX10_typesAll_42 x2 x3 hp)) else (fX10_typesAll_42 x2 x3 hp)) = some v := h
    refine Ex.go 2 (pc' := 6) (ls' := [some (vR (10, 0, 0)), some (vI x1), some (vI x2), some (vI x3)]) (st' := [vI x1, vI x2]) (hp' := hp) (fun _ => rfl) ?_
    refine Ex.icmp rfl ?_
    by_cases hc : x2 < x1
    · rw [if_pos hc] at h
      rw [brI_ge_p hc]
      show Ex (d + 7) kX10_typesAll 9 [some (vR (10, 0, 0)), some (vI x1), some (vI x2), some (vI x3)] [] hp _
      refine Ex.go 1 (pc' := 10) (ls' := [some (vR (10, 0, 0)), some (vI x1), some (vI x2), some (vI x3)]) (st' := [vI x3]) (hp' := hp) (fun _ => rfl) ?_
      refine Ex.ifc rfl ?_
      by_cases hc : x3 = 0
      · rw [if_pos hc] at h
        rw [brI_ne_p hc]
        show Ex (d + 7) kX10_typesAll 13 [some (vR (10, 0, 0)), some (vI x1), some (vI x2), some (vI x3)] [] hp _
        refine Ex.go 4 (pc' := 19) (ls' := [some (vR (10, 0, 0)), some (vI x1), some (vI x2), some (vI x3)]) (st' := [vI x2, vR (11, 25, 0), vR (10, 0, 0)]) (hp' := hp) (fun _ => rfl) ?_
        by_cases hc : inb x2 (alen (11, 25, 0)) = true
        · rw [if_pos hc] at h
          refine Ex.iald rfl rfl hc rfl ?_
          show Ex (d + 7) kX10_typesAll 20 [some (vR (10, 0, 0)), some (vI x1), some (vI x2), some (vI x3)] [vI (hp (11, 25, 0) x2.toNatClampNeg), vR (10, 0, 0)] hp _
          obtain ⟨q3, hv, h⟩ := Option.bind_eq_some_iff.mp h
          refine Ex.call (args := [vR (10, 0, 0), vI (hp (11, 25, 0) x2.toNatClampNeg)]) (rest := []) rfl rfl rfl (exX10_types (d := d + 0) hv) ?_
          show Ex (d + 7) kX10_typesAll 23 [some (vR (10, 0, 0)), some (vI x1), some (vI x2), some (vI x3)] [vI q3.1] q3.2 _
          refine Ex.go 3 (pc' := 26) (ls' := [some (vR (10, 0, 0)), some (vI x1), some (vI x2), some (vI q3.1)]) (st' := [vI q3.1, vI x2]) (hp' := q3.2) (fun _ => rfl) ?_
          refine Ex.ifc rfl ?_
          by_cases hc : q3.1 = 0
          · rw [if_pos hc] at h
            rw [brI_ne_p hc]
            show Ex (d + 7) kX10_typesAll 29 [some (vR (10, 0, 0)), some (vI x1), some (vI x2), some (vI q3.1)] [vI x2] q3.2 _
            refine Ex.go 2 (pc' := 34) (ls' := [some (vR (10, 0, 0)), some (vI x1), some (vI x2), some (vI q3.1)]) (st' := [vI 1, vI x2]) (hp' := q3.2) (fun _ => rfl) ?_
            exact exX10_typesAll_34 (fun q0 q1 q2 q3 q4 hv => ih q0 q1 q2 q3 q4 hv) h
          · rw [if_neg hc] at h
            rw [brI_ne_n hc]
            show Ex (d + 7) kX10_typesAll 33 [some (vR (10, 0, 0)), some (vI x1), some (vI x2), some (vI q3.1)] [vI x2] q3.2 _
            refine Ex.go 1 (pc' := 34) (ls' := [some (vR (10, 0, 0)), some (vI x1), some (vI x2), some (vI q3.1)]) (st' := [vI 0, vI x2]) (hp' := q3.2) (fun _ => rfl) ?_
            exact exX10_typesAll_34 (fun q0 q1 q2 q3 q4 hv => ih q0 q1 q2 q3 q4 hv) h
        · rw [if_neg hc] at h
          cases h
      · rw [if_neg hc] at h
        rw [brI_ne_n hc]
        show Ex (d + 7) kX10_typesAll 42 [some (vR (10, 0, 0)), some (vI x1), some (vI x2), some (vI x3)] [] hp _
        exact exX10_typesAll_42 h
    · rw [if_neg hc] at h
      rw [brI_ge_n hc]
      show Ex (d + 7) kX10_typesAll 42 [some (vR (10, 0, 0)), some (vI x1), some (vI x2), some (vI x3)] [] hp _
      exact exX10_typesAll_42 h
def fX10_typesAll (a0 : Int32) (hp : HP) : Option (Int32 × HP) := fX10_typesAll_4 FU a0 0 0 hp
theorem exX10_typesAll {d : Nat} {a0 : Int32} {hp : HP} {v : (Int32 × HP)} (h : fX10_typesAll a0 hp = some v) : Calls (d + 7) 217 [vR (10, 0, 0), vI a0] hp (rsI v.1 v.2) := by
  replace h : (fX10_typesAll_4 FU a0 0 0 hp) = some v := h
  show Ex (d + 7) kX10_typesAll 0 [some (vR (10, 0, 0)), some (vI a0), none, none] [] hp _
  refine Ex.go 4 (pc' := 4) (ls' := [some (vR (10, 0, 0)), some (vI a0), some (vI 0), some (vI 0)]) (st' := []) (hp' := hp) (fun _ => rfl) ?_
  exact exX10_typesAll_4 FU _ _ _ _ _ h
def fX10_stops_4 (n : Nat) (x1 : Int32) (x2 : Int32) (hp : HP) : Option Int32 := match n with
  | 0 => none
  | n + 1 => (fX10_its 0 hp).bind fun v1 => if x2 < v1 then (if inb (90 + x2) (alen (11, 22, 0)) = true then (fX10_stops_4 n (x1 + (hp (11, 22, 0) (90 + x2).toNatClampNeg)) (x2 + 1) hp) else none) else (some x1)
theorem exX10_stops_4 {d : Nat} : ∀ (n : Nat) (x1 : Int32) (x2 : Int32) (hp : HP) (v : Int32), fX10_stops_4 n x1 x2 hp = some v → Ex (d + 1) kX10_stops 4 [some (vR (10, 0, 0)), some (vI x1), some (vI x2)] [] hp (rsI v hp) := by
  intro n
  induction n with
  | zero =>
    intro x1 x2 hp v h
    cases h
  | succ n ih =>
    intro x1 x2 hp v h
    replace h : ((fX10_its 0 hp).bind fun v1 => if x2 < v1 then (if inb (90 + x2) (alen (11, 22, 0)) = true then (fX10_stops_4 n (x1 + (hp (11, 22, 0) (90 + x2).toNatClampNeg)) (x2 + 1) hp) else none) else (some x1)) = some v := h
    refine Ex.go 3 (pc' := 7) (ls' := [some (vR (10, 0, 0)), some (vI x1), some (vI x2)]) (st' := [vI 0, vR (10, 0, 0), vI x2]) (hp' := hp) (fun _ => rfl) ?_
    obtain ⟨v1, hv, h⟩ := Option.bind_eq_some_iff.mp h
    refine Ex.call (args := [vR (10, 0, 0), vI 0]) (rest := [vI x2]) rfl rfl rfl (exX10_its (d := d + 0) hv) ?_
    show Ex (d + 1) kX10_stops 10 [some (vR (10, 0, 0)), some (vI x1), some (vI x2)] [vI v1, vI x2] hp _
    refine Ex.icmp rfl ?_
    by_cases hc : x2 < v1
    · rw [if_pos hc] at h
      rw [brI_ge_p hc]
      show Ex (d + 1) kX10_stops 13 [some (vR (10, 0, 0)), some (vI x1), some (vI x2)] [] hp _
      refine Ex.go 6 (pc' := 22) (ls' := [some (vR (10, 0, 0)), some (vI x1), some (vI x2)]) (st' := [vI (90 + x2), vR (11, 22, 0), vI x1]) (hp' := hp) (fun _ => rfl) ?_
      by_cases hc : inb (90 + x2) (alen (11, 22, 0)) = true
      · rw [if_pos hc] at h
        refine Ex.iald rfl rfl hc rfl ?_
        show Ex (d + 1) kX10_stops 23 [some (vR (10, 0, 0)), some (vI x1), some (vI x2)] [vI (hp (11, 22, 0) (90 + x2).toNatClampNeg), vI x1] hp _
        refine Ex.go 4 (pc' := 4) (ls' := [some (vR (10, 0, 0)), some (vI (x1 + (hp (11, 22, 0) (90 + x2).toNatClampNeg))), some (vI (x2 + 1))]) (st' := []) (hp' := hp) (fun _ => rfl) ?_
        exact ih _ _ _ _ h
      · rw [if_neg hc] at h
        cases h
    · rw [if_neg hc] at h
      rw [brI_ge_n hc]
      show Ex (d + 1) kX10_stops 31 [some (vR (10, 0, 0)), some (vI x1), some (vI x2)] [] hp _
      refine Ex.go 1 (pc' := 32) (ls' := [some (vR (10, 0, 0)), some (vI x1), some (vI x2)]) (st' := [vI x1]) (hp' := hp) (fun _ => rfl) ?_
      cases h
      exact Ex.ret rfl rfl rfl
def fX10_stops (hp : HP) : Option Int32 := fX10_stops_4 FU 0 0 hp
theorem exX10_stops {d : Nat} {hp : HP} {v : Int32} (h : fX10_stops hp = some v) : Calls (d + 1) 218 [vR (10, 0, 0)] hp (rsI v hp) := by
  replace h : (fX10_stops_4 FU 0 0 hp) = some v := h
  show Ex (d + 1) kX10_stops 0 [some (vR (10, 0, 0)), none, none] [] hp _
  refine Ex.go 4 (pc' := 4) (ls' := [some (vR (10, 0, 0)), some (vI 0), some (vI 0)]) (st' := []) (hp' := hp) (fun _ => rfl) ?_
  exact exX10_stops_4 FU _ _ _ _ h
def fX10_count_23 (x1 : Int32) (y1 : Int32) (hp : HP) : Option (Int32 × HP) := (fX10_refuse y1 2 hp).bind fun q2 => if q2.1 = 0 then (if x1 = 0 then (some ((q2.2 (10, 0, 0) 2), q2.2)) else (if x1 = 1 then ((fX10_stops q2.2).bind fun v3 => some (v3, q2.2)) else (if x1 = 2 then (some ((q2.2 (11, 22, 0) 3), q2.2)) else (if inb (22 + x1) (alen (11, 22, 0)) = true then (some ((q2.2 (11, 22, 0) (22 + x1).toNatClampNeg), q2.2)) else none)))) else (some (0, q2.2))
theorem exX10_count_23 {d : Nat} {x1 : Int32} {y1 : Int32} {hp : HP} {v : (Int32 × HP)} (h : fX10_count_23 x1 y1 hp = some v) : Ex (d + 2) kX10_count 23 [some (vR (10, 0, 0)), some (vI x1)] [vI y1, vR (10, 0, 0)] hp (rsI v.1 v.2) := by
  replace h : ((fX10_refuse y1 2 hp).bind fun q2 => if q2.1 = 0 then (if x1 = 0 then (some ((q2.2 (10, 0, 0) 2), q2.2)) else (if x1 = 1 then ((fX10_stops q2.2).bind fun v3 => some (v3, q2.2)) else (if x1 = 2 then (some ((q2.2 (11, 22, 0) 3), q2.2)) else (if inb (22 + x1) (alen (11, 22, 0)) = true then (some ((q2.2 (11, 22, 0) (22 + x1).toNatClampNeg), q2.2)) else none)))) else (some (0, q2.2))) = some v := h
  refine Ex.go 1 (pc' := 24) (ls' := [some (vR (10, 0, 0)), some (vI x1)]) (st' := [vI 2, vI y1, vR (10, 0, 0)]) (hp' := hp) (fun _ => rfl) ?_
  obtain ⟨q2, hv, h⟩ := Option.bind_eq_some_iff.mp h
  refine Ex.call (args := [vR (10, 0, 0), vI y1, vI 2]) (rest := []) rfl rfl rfl (exX10_refuse (d := d + 1) hv) ?_
  show Ex (d + 2) kX10_count 27 [some (vR (10, 0, 0)), some (vI x1)] [vI q2.1] q2.2 _
  refine Ex.ifc rfl ?_
  by_cases hc : q2.1 = 0
  · rw [if_pos hc] at h
    rw [brI_eq_p hc]
    show Ex (d + 2) kX10_count 32 [some (vR (10, 0, 0)), some (vI x1)] [] q2.2 _
    refine Ex.go 1 (pc' := 33) (ls' := [some (vR (10, 0, 0)), some (vI x1)]) (st' := [vI x1]) (hp' := q2.2) (fun _ => rfl) ?_
    refine Ex.ifc rfl ?_
    by_cases hc : x1 = 0
    · rw [if_pos hc] at h
      rw [brI_ne_p hc]
      show Ex (d + 2) kX10_count 36 [some (vR (10, 0, 0)), some (vI x1)] [] q2.2 _
      refine Ex.go 3 (pc' := 78) (ls' := [some (vR (10, 0, 0)), some (vI x1)]) (st' := [vI (q2.2 (10, 0, 0) 2)]) (hp' := q2.2) (fun _ => rfl) ?_
      cases h
      exact Ex.ret rfl rfl rfl
    · rw [if_neg hc] at h
      rw [brI_ne_n hc]
      show Ex (d + 2) kX10_count 43 [some (vR (10, 0, 0)), some (vI x1)] [] q2.2 _
      refine Ex.go 2 (pc' := 45) (ls' := [some (vR (10, 0, 0)), some (vI x1)]) (st' := [vI 1, vI x1]) (hp' := q2.2) (fun _ => rfl) ?_
      refine Ex.icmp rfl ?_
      by_cases hc : x1 = 1
      · rw [if_pos hc] at h
        rw [brI_ne_p hc]
        show Ex (d + 2) kX10_count 48 [some (vR (10, 0, 0)), some (vI x1)] [] q2.2 _
        refine Ex.go 1 (pc' := 49) (ls' := [some (vR (10, 0, 0)), some (vI x1)]) (st' := [vR (10, 0, 0)]) (hp' := q2.2) (fun _ => rfl) ?_
        obtain ⟨v3, hv, h⟩ := Option.bind_eq_some_iff.mp h
        refine Ex.call (args := [vR (10, 0, 0)]) (rest := []) rfl rfl rfl (exX10_stops (d := d + 0) hv) ?_
        show Ex (d + 2) kX10_count 52 [some (vR (10, 0, 0)), some (vI x1)] [vI v3] q2.2 _
        refine Ex.go 1 (pc' := 78) (ls' := [some (vR (10, 0, 0)), some (vI x1)]) (st' := [vI v3]) (hp' := q2.2) (fun _ => rfl) ?_
        cases h
        exact Ex.ret rfl rfl rfl
      · rw [if_neg hc] at h
        rw [brI_ne_n hc]
        show Ex (d + 2) kX10_count 55 [some (vR (10, 0, 0)), some (vI x1)] [] q2.2 _
        refine Ex.go 2 (pc' := 57) (ls' := [some (vR (10, 0, 0)), some (vI x1)]) (st' := [vI 2, vI x1]) (hp' := q2.2) (fun _ => rfl) ?_
        refine Ex.icmp rfl ?_
        by_cases hc : x1 = 2
        · rw [if_pos hc] at h
          rw [brI_ne_p hc]
          show Ex (d + 2) kX10_count 60 [some (vR (10, 0, 0)), some (vI x1)] [] q2.2 _
          refine Ex.go 3 (pc' := 65) (ls' := [some (vR (10, 0, 0)), some (vI x1)]) (st' := [vI 3, vR (11, 22, 0)]) (hp' := q2.2) (fun _ => rfl) ?_
          refine Ex.iald (k := 3) rfl rfl (by decide) (by decide) ?_
          show Ex (d + 2) kX10_count 66 [some (vR (10, 0, 0)), some (vI x1)] [vI (q2.2 (11, 22, 0) 3)] q2.2 _
          refine Ex.go 1 (pc' := 78) (ls' := [some (vR (10, 0, 0)), some (vI x1)]) (st' := [vI (q2.2 (11, 22, 0) 3)]) (hp' := q2.2) (fun _ => rfl) ?_
          cases h
          exact Ex.ret rfl rfl rfl
        · rw [if_neg hc] at h
          rw [brI_ne_n hc]
          show Ex (d + 2) kX10_count 69 [some (vR (10, 0, 0)), some (vI x1)] [] q2.2 _
          refine Ex.go 5 (pc' := 77) (ls' := [some (vR (10, 0, 0)), some (vI x1)]) (st' := [vI (22 + x1), vR (11, 22, 0)]) (hp' := q2.2) (fun _ => rfl) ?_
          by_cases hc : inb (22 + x1) (alen (11, 22, 0)) = true
          · rw [if_pos hc] at h
            refine Ex.iald rfl rfl hc rfl ?_
            show Ex (d + 2) kX10_count 78 [some (vR (10, 0, 0)), some (vI x1)] [vI (q2.2 (11, 22, 0) (22 + x1).toNatClampNeg)] q2.2 _
            cases h
            exact Ex.ret rfl rfl rfl
          · rw [if_neg hc] at h
            cases h
  · rw [if_neg hc] at h
    rw [brI_eq_n hc]
    show Ex (d + 2) kX10_count 30 [some (vR (10, 0, 0)), some (vI x1)] [] q2.2 _
    refine Ex.go 1 (pc' := 31) (ls' := [some (vR (10, 0, 0)), some (vI x1)]) (st' := [vI 0]) (hp' := q2.2) (fun _ => rfl) ?_
    cases h
    exact Ex.ret rfl rfl rfl
def fX10_count (a0 : Int32) (hp : HP) : Option (Int32 × HP) := (fX10_notLoaded hp).bind fun q5 => if q5.1 = 0 then ((fX10_in a0 0 13 q5.2).bind fun v6 => if v6 = 0 then (fX10_count_23 a0 1 q5.2) else (fX10_count_23 a0 0 q5.2)) else (some (0, q5.2))
theorem exX10_count {d : Nat} {a0 : Int32} {hp : HP} {v : (Int32 × HP)} (h : fX10_count a0 hp = some v) : Calls (d + 2) 219 [vR (10, 0, 0), vI a0] hp (rsI v.1 v.2) := by
  replace h : ((fX10_notLoaded hp).bind fun q5 => if q5.1 = 0 then ((fX10_in a0 0 13 q5.2).bind fun v6 => if v6 = 0 then (fX10_count_23 a0 1 q5.2) else (fX10_count_23 a0 0 q5.2)) else (some (0, q5.2))) = some v := h
  show Ex (d + 2) kX10_count 0 [some (vR (10, 0, 0)), some (vI a0)] [] hp _
  refine Ex.go 1 (pc' := 1) (ls' := [some (vR (10, 0, 0)), some (vI a0)]) (st' := [vR (10, 0, 0)]) (hp' := hp) (fun _ => rfl) ?_
  obtain ⟨q5, hv, h⟩ := Option.bind_eq_some_iff.mp h
  refine Ex.call (args := [vR (10, 0, 0)]) (rest := []) rfl rfl rfl (exX10_notLoaded (d := d + 0) hv) ?_
  show Ex (d + 2) kX10_count 4 [some (vR (10, 0, 0)), some (vI a0)] [vI q5.1] q5.2 _
  refine Ex.ifc rfl ?_
  by_cases hc : q5.1 = 0
  · rw [if_pos hc] at h
    rw [brI_ne_p hc]
    show Ex (d + 2) kX10_count 7 [some (vR (10, 0, 0)), some (vI a0)] [] q5.2 _
    refine Ex.go 4 (pc' := 12) (ls' := [some (vR (10, 0, 0)), some (vI a0)]) (st' := [vI 13, vI 0, vI a0, vR (10, 0, 0)]) (hp' := q5.2) (fun _ => rfl) ?_
    obtain ⟨v6, hv, h⟩ := Option.bind_eq_some_iff.mp h
    refine Ex.call (args := [vI a0, vI 0, vI 13]) (rest := [vR (10, 0, 0)]) rfl rfl rfl (exX10_in (d := d + 1) hv) ?_
    show Ex (d + 2) kX10_count 15 [some (vR (10, 0, 0)), some (vI a0)] [vI v6, vR (10, 0, 0)] q5.2 _
    refine Ex.ifc rfl ?_
    by_cases hc : v6 = 0
    · rw [if_pos hc] at h
      rw [brI_ne_p hc]
      show Ex (d + 2) kX10_count 18 [some (vR (10, 0, 0)), some (vI a0)] [vR (10, 0, 0)] q5.2 _
      refine Ex.go 2 (pc' := 23) (ls' := [some (vR (10, 0, 0)), some (vI a0)]) (st' := [vI 1, vR (10, 0, 0)]) (hp' := q5.2) (fun _ => rfl) ?_
      exact exX10_count_23 h
    · rw [if_neg hc] at h
      rw [brI_ne_n hc]
      show Ex (d + 2) kX10_count 22 [some (vR (10, 0, 0)), some (vI a0)] [vR (10, 0, 0)] q5.2 _
      refine Ex.go 1 (pc' := 23) (ls' := [some (vR (10, 0, 0)), some (vI a0)]) (st' := [vI 0, vR (10, 0, 0)]) (hp' := q5.2) (fun _ => rfl) ?_
      exact exX10_count_23 h
  · rw [if_neg hc] at h
    rw [brI_ne_n hc]
    show Ex (d + 2) kX10_count 30 [some (vR (10, 0, 0)), some (vI a0)] [] q5.2 _
    refine Ex.go 1 (pc' := 31) (ls' := [some (vR (10, 0, 0)), some (vI a0)]) (st' := [vI 0]) (hp' := q5.2) (fun _ => rfl) ?_
    cases h
    exact Ex.ret rfl rfl rfl
def fX10_setting_23 (x1 : Int32) (y1 : Int32) (hp : HP) : Option (Int32 × HP) := (fX10_refuse y1 2 hp).bind fun q2 => if q2.1 = 0 then ((fX10_its x1 q2.2).bind fun v3 => some (v3, q2.2)) else (some (0, q2.2))
theorem exX10_setting_23 {d : Nat} {x1 : Int32} {y1 : Int32} {hp : HP} {v : (Int32 × HP)} (h : fX10_setting_23 x1 y1 hp = some v) : Ex (d + 2) kX10_setting 23 [some (vR (10, 0, 0)), some (vI x1)] [vI y1, vR (10, 0, 0)] hp (rsI v.1 v.2) := by
  replace h : ((fX10_refuse y1 2 hp).bind fun q2 => if q2.1 = 0 then ((fX10_its x1 q2.2).bind fun v3 => some (v3, q2.2)) else (some (0, q2.2))) = some v := h
  refine Ex.go 1 (pc' := 24) (ls' := [some (vR (10, 0, 0)), some (vI x1)]) (st' := [vI 2, vI y1, vR (10, 0, 0)]) (hp' := hp) (fun _ => rfl) ?_
  obtain ⟨q2, hv, h⟩ := Option.bind_eq_some_iff.mp h
  refine Ex.call (args := [vR (10, 0, 0), vI y1, vI 2]) (rest := []) rfl rfl rfl (exX10_refuse (d := d + 1) hv) ?_
  show Ex (d + 2) kX10_setting 27 [some (vR (10, 0, 0)), some (vI x1)] [vI q2.1] q2.2 _
  refine Ex.ifc rfl ?_
  by_cases hc : q2.1 = 0
  · rw [if_pos hc] at h
    rw [brI_eq_p hc]
    show Ex (d + 2) kX10_setting 34 [some (vR (10, 0, 0)), some (vI x1)] [] q2.2 _
    refine Ex.go 2 (pc' := 36) (ls' := [some (vR (10, 0, 0)), some (vI x1)]) (st' := [vI x1, vR (10, 0, 0)]) (hp' := q2.2) (fun _ => rfl) ?_
    obtain ⟨v3, hv, h⟩ := Option.bind_eq_some_iff.mp h
    refine Ex.call (args := [vR (10, 0, 0), vI x1]) (rest := []) rfl rfl rfl (exX10_its (d := d + 1) hv) ?_
    show Ex (d + 2) kX10_setting 39 [some (vR (10, 0, 0)), some (vI x1)] [vI v3] q2.2 _
    cases h
    exact Ex.ret rfl rfl rfl
  · rw [if_neg hc] at h
    rw [brI_eq_n hc]
    show Ex (d + 2) kX10_setting 30 [some (vR (10, 0, 0)), some (vI x1)] [] q2.2 _
    refine Ex.go 2 (pc' := 39) (ls' := [some (vR (10, 0, 0)), some (vI x1)]) (st' := [vI 0]) (hp' := q2.2) (fun _ => rfl) ?_
    cases h
    exact Ex.ret rfl rfl rfl
def fX10_setting (a0 : Int32) (hp : HP) : Option (Int32 × HP) := (fX10_notLoaded hp).bind fun q5 => if q5.1 = 0 then ((fX10_in a0 0 12 q5.2).bind fun v6 => if v6 = 0 then (fX10_setting_23 a0 1 q5.2) else (fX10_setting_23 a0 0 q5.2)) else (some (0, q5.2))
theorem exX10_setting {d : Nat} {a0 : Int32} {hp : HP} {v : (Int32 × HP)} (h : fX10_setting a0 hp = some v) : Calls (d + 2) 220 [vR (10, 0, 0), vI a0] hp (rsI v.1 v.2) := by
  replace h : ((fX10_notLoaded hp).bind fun q5 => if q5.1 = 0 then ((fX10_in a0 0 12 q5.2).bind fun v6 => if v6 = 0 then (fX10_setting_23 a0 1 q5.2) else (fX10_setting_23 a0 0 q5.2)) else (some (0, q5.2))) = some v := h
  show Ex (d + 2) kX10_setting 0 [some (vR (10, 0, 0)), some (vI a0)] [] hp _
  refine Ex.go 1 (pc' := 1) (ls' := [some (vR (10, 0, 0)), some (vI a0)]) (st' := [vR (10, 0, 0)]) (hp' := hp) (fun _ => rfl) ?_
  obtain ⟨q5, hv, h⟩ := Option.bind_eq_some_iff.mp h
  refine Ex.call (args := [vR (10, 0, 0)]) (rest := []) rfl rfl rfl (exX10_notLoaded (d := d + 0) hv) ?_
  show Ex (d + 2) kX10_setting 4 [some (vR (10, 0, 0)), some (vI a0)] [vI q5.1] q5.2 _
  refine Ex.ifc rfl ?_
  by_cases hc : q5.1 = 0
  · rw [if_pos hc] at h
    rw [brI_ne_p hc]
    show Ex (d + 2) kX10_setting 7 [some (vR (10, 0, 0)), some (vI a0)] [] q5.2 _
    refine Ex.go 4 (pc' := 12) (ls' := [some (vR (10, 0, 0)), some (vI a0)]) (st' := [vI 12, vI 0, vI a0, vR (10, 0, 0)]) (hp' := q5.2) (fun _ => rfl) ?_
    obtain ⟨v6, hv, h⟩ := Option.bind_eq_some_iff.mp h
    refine Ex.call (args := [vI a0, vI 0, vI 12]) (rest := [vR (10, 0, 0)]) rfl rfl rfl (exX10_in (d := d + 1) hv) ?_
    show Ex (d + 2) kX10_setting 15 [some (vR (10, 0, 0)), some (vI a0)] [vI v6, vR (10, 0, 0)] q5.2 _
    refine Ex.ifc rfl ?_
    by_cases hc : v6 = 0
    · rw [if_pos hc] at h
      rw [brI_ne_p hc]
      show Ex (d + 2) kX10_setting 18 [some (vR (10, 0, 0)), some (vI a0)] [vR (10, 0, 0)] q5.2 _
      refine Ex.go 2 (pc' := 23) (ls' := [some (vR (10, 0, 0)), some (vI a0)]) (st' := [vI 1, vR (10, 0, 0)]) (hp' := q5.2) (fun _ => rfl) ?_
      exact exX10_setting_23 h
    · rw [if_neg hc] at h
      rw [brI_ne_n hc]
      show Ex (d + 2) kX10_setting 22 [some (vR (10, 0, 0)), some (vI a0)] [vR (10, 0, 0)] q5.2 _
      refine Ex.go 1 (pc' := 23) (ls' := [some (vR (10, 0, 0)), some (vI a0)]) (st' := [vI 0, vR (10, 0, 0)]) (hp' := q5.2) (fun _ => rfl) ?_
      exact exX10_setting_23 h
  · rw [if_neg hc] at h
    rw [brI_ne_n hc]
    show Ex (d + 2) kX10_setting 30 [some (vR (10, 0, 0)), some (vI a0)] [] q5.2 _
    refine Ex.go 2 (pc' := 39) (ls' := [some (vR (10, 0, 0)), some (vI a0)]) (st' := [vI 0]) (hp' := q5.2) (fun _ => rfl) ?_
    cases h
    exact Ex.ret rfl rfl rfl
def fX10_carriage_22 (x1 : Int32) (y1 : Int32) (hp : HP) : Option (Int32 × HP) := (fX10_refuse y1 2 hp).bind fun q2 => if q2.1 = 0 then (if x1 = 0 then (some ((q2.2 (11, 22, 0) 0), q2.2)) else (if x1 = 1 then (some ((q2.2 (11, 22, 0) 1), q2.2)) else (if x1 = 2 then ((fX10_isLocked (q2.2 (11, 22, 0) 1) q2.2).bind fun v3 => (fX10_flag v3 q2.2).bind fun v4 => some (v4, q2.2)) else (some ((q2.2 (11, 22, 0) 2), q2.2))))) else (some (0, q2.2))
theorem exX10_carriage_22 {d : Nat} {x1 : Int32} {y1 : Int32} {hp : HP} {v : (Int32 × HP)} (h : fX10_carriage_22 x1 y1 hp = some v) : Ex (d + 2) kX10_carriage 22 [some (vR (10, 0, 0)), some (vI x1)] [vI y1, vR (10, 0, 0)] hp (rsI v.1 v.2) := by
  replace h : ((fX10_refuse y1 2 hp).bind fun q2 => if q2.1 = 0 then (if x1 = 0 then (some ((q2.2 (11, 22, 0) 0), q2.2)) else (if x1 = 1 then (some ((q2.2 (11, 22, 0) 1), q2.2)) else (if x1 = 2 then ((fX10_isLocked (q2.2 (11, 22, 0) 1) q2.2).bind fun v3 => (fX10_flag v3 q2.2).bind fun v4 => some (v4, q2.2)) else (some ((q2.2 (11, 22, 0) 2), q2.2))))) else (some (0, q2.2))) = some v := h
  refine Ex.go 1 (pc' := 23) (ls' := [some (vR (10, 0, 0)), some (vI x1)]) (st' := [vI 2, vI y1, vR (10, 0, 0)]) (hp' := hp) (fun _ => rfl) ?_
  obtain ⟨q2, hv, h⟩ := Option.bind_eq_some_iff.mp h
  refine Ex.call (args := [vR (10, 0, 0), vI y1, vI 2]) (rest := []) rfl rfl rfl (exX10_refuse (d := d + 1) hv) ?_
  show Ex (d + 2) kX10_carriage 26 [some (vR (10, 0, 0)), some (vI x1)] [vI q2.1] q2.2 _
  refine Ex.ifc rfl ?_
  by_cases hc : q2.1 = 0
  · rw [if_pos hc] at h
    rw [brI_eq_p hc]
    show Ex (d + 2) kX10_carriage 31 [some (vR (10, 0, 0)), some (vI x1)] [] q2.2 _
    refine Ex.go 1 (pc' := 32) (ls' := [some (vR (10, 0, 0)), some (vI x1)]) (st' := [vI x1]) (hp' := q2.2) (fun _ => rfl) ?_
    refine Ex.ifc rfl ?_
    by_cases hc : x1 = 0
    · rw [if_pos hc] at h
      rw [brI_ne_p hc]
      show Ex (d + 2) kX10_carriage 35 [some (vR (10, 0, 0)), some (vI x1)] [] q2.2 _
      refine Ex.go 3 (pc' := 40) (ls' := [some (vR (10, 0, 0)), some (vI x1)]) (st' := [vI 0, vR (11, 22, 0)]) (hp' := q2.2) (fun _ => rfl) ?_
      refine Ex.iald (k := 0) rfl rfl (by decide) (by decide) ?_
      show Ex (d + 2) kX10_carriage 41 [some (vR (10, 0, 0)), some (vI x1)] [vI (q2.2 (11, 22, 0) 0)] q2.2 _
      refine Ex.go 1 (pc' := 85) (ls' := [some (vR (10, 0, 0)), some (vI x1)]) (st' := [vI (q2.2 (11, 22, 0) 0)]) (hp' := q2.2) (fun _ => rfl) ?_
      cases h
      exact Ex.ret rfl rfl rfl
    · rw [if_neg hc] at h
      rw [brI_ne_n hc]
      show Ex (d + 2) kX10_carriage 44 [some (vR (10, 0, 0)), some (vI x1)] [] q2.2 _
      refine Ex.go 2 (pc' := 46) (ls' := [some (vR (10, 0, 0)), some (vI x1)]) (st' := [vI 1, vI x1]) (hp' := q2.2) (fun _ => rfl) ?_
      refine Ex.icmp rfl ?_
      by_cases hc : x1 = 1
      · rw [if_pos hc] at h
        rw [brI_ne_p hc]
        show Ex (d + 2) kX10_carriage 49 [some (vR (10, 0, 0)), some (vI x1)] [] q2.2 _
        refine Ex.go 3 (pc' := 54) (ls' := [some (vR (10, 0, 0)), some (vI x1)]) (st' := [vI 1, vR (11, 22, 0)]) (hp' := q2.2) (fun _ => rfl) ?_
        refine Ex.iald (k := 1) rfl rfl (by decide) (by decide) ?_
        show Ex (d + 2) kX10_carriage 55 [some (vR (10, 0, 0)), some (vI x1)] [vI (q2.2 (11, 22, 0) 1)] q2.2 _
        refine Ex.go 1 (pc' := 85) (ls' := [some (vR (10, 0, 0)), some (vI x1)]) (st' := [vI (q2.2 (11, 22, 0) 1)]) (hp' := q2.2) (fun _ => rfl) ?_
        cases h
        exact Ex.ret rfl rfl rfl
      · rw [if_neg hc] at h
        rw [brI_ne_n hc]
        show Ex (d + 2) kX10_carriage 58 [some (vR (10, 0, 0)), some (vI x1)] [] q2.2 _
        refine Ex.go 2 (pc' := 60) (ls' := [some (vR (10, 0, 0)), some (vI x1)]) (st' := [vI 2, vI x1]) (hp' := q2.2) (fun _ => rfl) ?_
        refine Ex.icmp rfl ?_
        by_cases hc : x1 = 2
        · rw [if_pos hc] at h
          rw [brI_ne_p hc]
          show Ex (d + 2) kX10_carriage 63 [some (vR (10, 0, 0)), some (vI x1)] [] q2.2 _
          refine Ex.go 4 (pc' := 69) (ls' := [some (vR (10, 0, 0)), some (vI x1)]) (st' := [vI 1, vR (11, 22, 0), vR (10, 0, 0)]) (hp' := q2.2) (fun _ => rfl) ?_
          refine Ex.iald (k := 1) rfl rfl (by decide) (by decide) ?_
          show Ex (d + 2) kX10_carriage 70 [some (vR (10, 0, 0)), some (vI x1)] [vI (q2.2 (11, 22, 0) 1), vR (10, 0, 0)] q2.2 _
          obtain ⟨v3, hv, h⟩ := Option.bind_eq_some_iff.mp h
          refine Ex.call (args := [vR (10, 0, 0), vI (q2.2 (11, 22, 0) 1)]) (rest := []) rfl rfl rfl (exX10_isLocked (d := d + 0) hv) ?_
          show Ex (d + 2) kX10_carriage 73 [some (vR (10, 0, 0)), some (vI x1)] [vI v3] q2.2 _
          obtain ⟨v4, hv, h⟩ := Option.bind_eq_some_iff.mp h
          refine Ex.call (args := [vI v3]) (rest := []) rfl rfl rfl (exX10_flag (d := d + 1) hv) ?_
          show Ex (d + 2) kX10_carriage 76 [some (vR (10, 0, 0)), some (vI x1)] [vI v4] q2.2 _
          refine Ex.go 1 (pc' := 85) (ls' := [some (vR (10, 0, 0)), some (vI x1)]) (st' := [vI v4]) (hp' := q2.2) (fun _ => rfl) ?_
          cases h
          exact Ex.ret rfl rfl rfl
        · rw [if_neg hc] at h
          rw [brI_ne_n hc]
          show Ex (d + 2) kX10_carriage 79 [some (vR (10, 0, 0)), some (vI x1)] [] q2.2 _
          refine Ex.go 3 (pc' := 84) (ls' := [some (vR (10, 0, 0)), some (vI x1)]) (st' := [vI 2, vR (11, 22, 0)]) (hp' := q2.2) (fun _ => rfl) ?_
          refine Ex.iald (k := 2) rfl rfl (by decide) (by decide) ?_
          show Ex (d + 2) kX10_carriage 85 [some (vR (10, 0, 0)), some (vI x1)] [vI (q2.2 (11, 22, 0) 2)] q2.2 _
          cases h
          exact Ex.ret rfl rfl rfl
  · rw [if_neg hc] at h
    rw [brI_eq_n hc]
    show Ex (d + 2) kX10_carriage 29 [some (vR (10, 0, 0)), some (vI x1)] [] q2.2 _
    refine Ex.go 1 (pc' := 30) (ls' := [some (vR (10, 0, 0)), some (vI x1)]) (st' := [vI 0]) (hp' := q2.2) (fun _ => rfl) ?_
    cases h
    exact Ex.ret rfl rfl rfl
def fX10_carriage (a0 : Int32) (hp : HP) : Option (Int32 × HP) := (fX10_notLoaded hp).bind fun q6 => if q6.1 = 0 then ((fX10_in a0 0 3 q6.2).bind fun v7 => if v7 = 0 then (fX10_carriage_22 a0 1 q6.2) else (fX10_carriage_22 a0 0 q6.2)) else (some (0, q6.2))
theorem exX10_carriage {d : Nat} {a0 : Int32} {hp : HP} {v : (Int32 × HP)} (h : fX10_carriage a0 hp = some v) : Calls (d + 2) 221 [vR (10, 0, 0), vI a0] hp (rsI v.1 v.2) := by
  replace h : ((fX10_notLoaded hp).bind fun q6 => if q6.1 = 0 then ((fX10_in a0 0 3 q6.2).bind fun v7 => if v7 = 0 then (fX10_carriage_22 a0 1 q6.2) else (fX10_carriage_22 a0 0 q6.2)) else (some (0, q6.2))) = some v := h
  show Ex (d + 2) kX10_carriage 0 [some (vR (10, 0, 0)), some (vI a0)] [] hp _
  refine Ex.go 1 (pc' := 1) (ls' := [some (vR (10, 0, 0)), some (vI a0)]) (st' := [vR (10, 0, 0)]) (hp' := hp) (fun _ => rfl) ?_
  obtain ⟨q6, hv, h⟩ := Option.bind_eq_some_iff.mp h
  refine Ex.call (args := [vR (10, 0, 0)]) (rest := []) rfl rfl rfl (exX10_notLoaded (d := d + 0) hv) ?_
  show Ex (d + 2) kX10_carriage 4 [some (vR (10, 0, 0)), some (vI a0)] [vI q6.1] q6.2 _
  refine Ex.ifc rfl ?_
  by_cases hc : q6.1 = 0
  · rw [if_pos hc] at h
    rw [brI_ne_p hc]
    show Ex (d + 2) kX10_carriage 7 [some (vR (10, 0, 0)), some (vI a0)] [] q6.2 _
    refine Ex.go 4 (pc' := 11) (ls' := [some (vR (10, 0, 0)), some (vI a0)]) (st' := [vI 3, vI 0, vI a0, vR (10, 0, 0)]) (hp' := q6.2) (fun _ => rfl) ?_
    obtain ⟨v7, hv, h⟩ := Option.bind_eq_some_iff.mp h
    refine Ex.call (args := [vI a0, vI 0, vI 3]) (rest := [vR (10, 0, 0)]) rfl rfl rfl (exX10_in (d := d + 1) hv) ?_
    show Ex (d + 2) kX10_carriage 14 [some (vR (10, 0, 0)), some (vI a0)] [vI v7, vR (10, 0, 0)] q6.2 _
    refine Ex.ifc rfl ?_
    by_cases hc : v7 = 0
    · rw [if_pos hc] at h
      rw [brI_ne_p hc]
      show Ex (d + 2) kX10_carriage 17 [some (vR (10, 0, 0)), some (vI a0)] [vR (10, 0, 0)] q6.2 _
      refine Ex.go 2 (pc' := 22) (ls' := [some (vR (10, 0, 0)), some (vI a0)]) (st' := [vI 1, vR (10, 0, 0)]) (hp' := q6.2) (fun _ => rfl) ?_
      exact exX10_carriage_22 h
    · rw [if_neg hc] at h
      rw [brI_ne_n hc]
      show Ex (d + 2) kX10_carriage 21 [some (vR (10, 0, 0)), some (vI a0)] [vR (10, 0, 0)] q6.2 _
      refine Ex.go 1 (pc' := 22) (ls' := [some (vR (10, 0, 0)), some (vI a0)]) (st' := [vI 0, vR (10, 0, 0)]) (hp' := q6.2) (fun _ => rfl) ?_
      exact exX10_carriage_22 h
  · rw [if_neg hc] at h
    rw [brI_ne_n hc]
    show Ex (d + 2) kX10_carriage 29 [some (vR (10, 0, 0)), some (vI a0)] [] q6.2 _
    refine Ex.go 1 (pc' := 30) (ls' := [some (vR (10, 0, 0)), some (vI a0)]) (st' := [vI 0]) (hp' := q6.2) (fun _ => rfl) ?_
    cases h
    exact Ex.ret rfl rfl rfl
def fX10_isBar (a0 : Int32) (hp : HP) : Option Int32 := (fX10_in a0 0 ((hp (10, 0, 0) 2) - 1) hp).bind fun v1 => if isB v1 = true then some v1 else none
theorem exX10_isBar {d : Nat} {a0 : Int32} {hp : HP} {v : Int32} (h : fX10_isBar a0 hp = some v) : Calls (d + 1) 222 [vR (10, 0, 0), vI a0] hp (rsI v hp) := by
  replace h : ((fX10_in a0 0 ((hp (10, 0, 0) 2) - 1) hp).bind fun v1 => if isB v1 = true then some v1 else none) = some v := h
  show Ex (d + 1) kX10_isBar 0 [some (vR (10, 0, 0)), some (vI a0)] [] hp _
  refine Ex.go 6 (pc' := 8) (ls' := [some (vR (10, 0, 0)), some (vI a0)]) (st' := [vI ((hp (10, 0, 0) 2) - 1), vI 0, vI a0]) (hp' := hp) (fun _ => rfl) ?_
  obtain ⟨v1, hv, h⟩ := Option.bind_eq_some_iff.mp h
  refine Ex.call (args := [vI a0, vI 0, vI ((hp (10, 0, 0) 2) - 1)]) (rest := []) rfl rfl rfl (exX10_in (d := d + 0) hv) ?_
  show Ex (d + 1) kX10_isBar 11 [some (vR (10, 0, 0)), some (vI a0)] [vI v1] hp _
  by_cases hc : isB v1 = true
  · rw [if_pos hc] at h
    cases h
    exact Ex.retz rfl hc rfl
  · rw [if_neg hc] at h
    cases h
def fX10_noBar_21 (y1 : Int32) (hp : HP) : Option (Int32 × HP) := (fX10_refuse y1 2 hp).bind fun q2 => if q2.1 = 0 then (some (0, q2.2)) else (some (1, q2.2))
theorem exX10_noBar_21 {d : Nat} {y1 : Int32} {j1 : Option VL} {hp : HP} {v : (Int32 × HP)} (h : fX10_noBar_21 y1 hp = some v) : Ex (d + 2) kX10_noBar 21 [some (vR (10, 0, 0)), j1] [vI y1, vR (10, 0, 0)] hp (rsI v.1 v.2) := by
  replace h : ((fX10_refuse y1 2 hp).bind fun q2 => if q2.1 = 0 then (some (0, q2.2)) else (some (1, q2.2))) = some v := h
  refine Ex.go 1 (pc' := 22) (ls' := [some (vR (10, 0, 0)), j1]) (st' := [vI 2, vI y1, vR (10, 0, 0)]) (hp' := hp) (fun _ => rfl) ?_
  obtain ⟨q2, hv, h⟩ := Option.bind_eq_some_iff.mp h
  refine Ex.call (args := [vR (10, 0, 0), vI y1, vI 2]) (rest := []) rfl rfl rfl (exX10_refuse (d := d + 1) hv) ?_
  show Ex (d + 2) kX10_noBar 25 [some (vR (10, 0, 0)), j1] [vI q2.1] q2.2 _
  refine Ex.ifc rfl ?_
  by_cases hc : q2.1 = 0
  · rw [if_pos hc] at h
    rw [brI_eq_p hc]
    show Ex (d + 2) kX10_noBar 32 [some (vR (10, 0, 0)), j1] [] q2.2 _
    refine Ex.go 1 (pc' := 33) (ls' := [some (vR (10, 0, 0)), j1]) (st' := [vI 0]) (hp' := q2.2) (fun _ => rfl) ?_
    cases h
    exact Ex.ret rfl rfl rfl
  · rw [if_neg hc] at h
    rw [brI_eq_n hc]
    show Ex (d + 2) kX10_noBar 28 [some (vR (10, 0, 0)), j1] [] q2.2 _
    refine Ex.go 2 (pc' := 33) (ls' := [some (vR (10, 0, 0)), j1]) (st' := [vI 1]) (hp' := q2.2) (fun _ => rfl) ?_
    cases h
    exact Ex.ret rfl rfl rfl
def fX10_noBar (a0 : Int32) (hp : HP) : Option (Int32 × HP) := (fX10_notLoaded hp).bind fun q4 => if q4.1 = 0 then ((fX10_isBar a0 q4.2).bind fun v5 => if v5 = 0 then (fX10_noBar_21 1 q4.2) else (fX10_noBar_21 0 q4.2)) else (some (1, q4.2))
theorem exX10_noBar {d : Nat} {a0 : Int32} {hp : HP} {v : (Int32 × HP)} (h : fX10_noBar a0 hp = some v) : Calls (d + 2) 223 [vR (10, 0, 0), vI a0] hp (rsI v.1 v.2) := by
  replace h : ((fX10_notLoaded hp).bind fun q4 => if q4.1 = 0 then ((fX10_isBar a0 q4.2).bind fun v5 => if v5 = 0 then (fX10_noBar_21 1 q4.2) else (fX10_noBar_21 0 q4.2)) else (some (1, q4.2))) = some v := h
  show Ex (d + 2) kX10_noBar 0 [some (vR (10, 0, 0)), some (vI a0)] [] hp _
  refine Ex.go 1 (pc' := 1) (ls' := [some (vR (10, 0, 0)), some (vI a0)]) (st' := [vR (10, 0, 0)]) (hp' := hp) (fun _ => rfl) ?_
  obtain ⟨q4, hv, h⟩ := Option.bind_eq_some_iff.mp h
  refine Ex.call (args := [vR (10, 0, 0)]) (rest := []) rfl rfl rfl (exX10_notLoaded (d := d + 0) hv) ?_
  show Ex (d + 2) kX10_noBar 4 [some (vR (10, 0, 0)), some (vI a0)] [vI q4.1] q4.2 _
  refine Ex.ifc rfl ?_
  by_cases hc : q4.1 = 0
  · rw [if_pos hc] at h
    rw [brI_ne_p hc]
    show Ex (d + 2) kX10_noBar 7 [some (vR (10, 0, 0)), some (vI a0)] [] q4.2 _
    refine Ex.go 3 (pc' := 10) (ls' := [some (vR (10, 0, 0)), some (vI a0)]) (st' := [vI a0, vR (10, 0, 0), vR (10, 0, 0)]) (hp' := q4.2) (fun _ => rfl) ?_
    obtain ⟨v5, hv, h⟩ := Option.bind_eq_some_iff.mp h
    refine Ex.call (args := [vR (10, 0, 0), vI a0]) (rest := [vR (10, 0, 0)]) rfl rfl rfl (exX10_isBar (d := d + 0) hv) ?_
    show Ex (d + 2) kX10_noBar 13 [some (vR (10, 0, 0)), some (vI a0)] [vI v5, vR (10, 0, 0)] q4.2 _
    refine Ex.ifc rfl ?_
    by_cases hc : v5 = 0
    · rw [if_pos hc] at h
      rw [brI_ne_p hc]
      show Ex (d + 2) kX10_noBar 16 [some (vR (10, 0, 0)), some (vI a0)] [vR (10, 0, 0)] q4.2 _
      refine Ex.go 2 (pc' := 21) (ls' := [some (vR (10, 0, 0)), some (vI a0)]) (st' := [vI 1, vR (10, 0, 0)]) (hp' := q4.2) (fun _ => rfl) ?_
      exact exX10_noBar_21 h
    · rw [if_neg hc] at h
      rw [brI_ne_n hc]
      show Ex (d + 2) kX10_noBar 20 [some (vR (10, 0, 0)), some (vI a0)] [vR (10, 0, 0)] q4.2 _
      refine Ex.go 1 (pc' := 21) (ls' := [some (vR (10, 0, 0)), some (vI a0)]) (st' := [vI 0, vR (10, 0, 0)]) (hp' := q4.2) (fun _ => rfl) ?_
      exact exX10_noBar_21 h
  · rw [if_neg hc] at h
    rw [brI_ne_n hc]
    show Ex (d + 2) kX10_noBar 28 [some (vR (10, 0, 0)), some (vI a0)] [] q4.2 _
    refine Ex.go 2 (pc' := 33) (ls' := [some (vR (10, 0, 0)), some (vI a0)]) (st' := [vI 1]) (hp' := q4.2) (fun _ => rfl) ?_
    cases h
    exact Ex.ret rfl rfl rfl
def fX10_bar_140 (y0 : Int32) (hp : HP) : Option (Int32 × HP) := (fX10_flag y0 hp).bind fun v1 => some (v1, hp)
theorem exX10_bar_140 {d : Nat} {y0 : Int32} {j1 : Option VL} {j2 : Option VL} {hp : HP} {v : (Int32 × HP)} (h : fX10_bar_140 y0 hp = some v) : Ex (d + 3) kX10_bar 140 [some (vR (10, 0, 0)), j1, j2] [vI y0] hp (rsI v.1 v.2) := by
  replace h : ((fX10_flag y0 hp).bind fun v1 => some (v1, hp)) = some v := h
  obtain ⟨v1, hv, h⟩ := Option.bind_eq_some_iff.mp h
  refine Ex.call (args := [vI y0]) (rest := []) rfl rfl rfl (exX10_flag (d := d + 2) hv) ?_
  show Ex (d + 3) kX10_bar 143 [some (vR (10, 0, 0)), j1, j2] [vI v1] hp _
  cases h
  exact Ex.ret rfl rfl rfl
def fX10_bar_23 (x1 : Int32) (x2 : Int32) (y1 : Int32) (hp : HP) : Option (Int32 × HP) := (fX10_refuse y1 3 hp).bind fun q3 => if q3.1 = 0 then (if x2 = 0 then (if inb x1 (alen (11, 20, 0)) = true then (some ((q3.2 (11, 20, 0) x1.toNatClampNeg), q3.2)) else none) else (if x2 = 1 then (if inb x1 (alen (11, 21, 0)) = true then (some ((q3.2 (11, 21, 0) x1.toNatClampNeg), q3.2)) else none) else (if x2 = 2 then ((fX10_rise x1 q3.2).bind fun v5 => some (v5, q3.2)) else (if x2 = 3 then (if inb ((38 + (2 * x1)) + 1) (alen (11, 22, 0)) = true then (some ((q3.2 (11, 22, 0) ((38 + (2 * x1)) + 1).toNatClampNeg), q3.2)) else none) else (if x2 = 4 then ((fX10_backIn x1 (q3.2 (11, 22, 0) 3) q3.2).bind fun v4 => some (v4, q3.2)) else (if (q3.2 (11, 22, 0) 5) = x1 then (fX10_bar_140 1 q3.2) else (if (q3.2 (11, 22, 0) 6) = x1 then (fX10_bar_140 1 q3.2) else (fX10_bar_140 0 q3.2)))))))) else (some (0, q3.2))
theorem exX10_bar_23 {d : Nat} {x1 : Int32} {x2 : Int32} {y1 : Int32} {hp : HP} {v : (Int32 × HP)} (h : fX10_bar_23 x1 x2 y1 hp = some v) : Ex (d + 3) kX10_bar 23 [some (vR (10, 0, 0)), some (vI x1), some (vI x2)] [vI y1, vR (10, 0, 0)] hp (rsI v.1 v.2) := by
  replace h : ((fX10_refuse y1 3 hp).bind fun q3 => if q3.1 = 0 then (if x2 = 0 then (if inb x1 (alen (11, 20, 0)) = true then (some ((q3.2 (11, 20, 0) x1.toNatClampNeg), q3.2)) else none) else (if x2 = 1 then (if inb x1 (alen (11, 21, 0)) = true then (some ((q3.2 (11, 21, 0) x1.toNatClampNeg), q3.2)) else none) else (if x2 = 2 then ((fX10_rise x1 q3.2).bind fun v5 => some (v5, q3.2)) else (if x2 = 3 then (if inb ((38 + (2 * x1)) + 1) (alen (11, 22, 0)) = true then (some ((q3.2 (11, 22, 0) ((38 + (2 * x1)) + 1).toNatClampNeg), q3.2)) else none) else (if x2 = 4 then ((fX10_backIn x1 (q3.2 (11, 22, 0) 3) q3.2).bind fun v4 => some (v4, q3.2)) else (if (q3.2 (11, 22, 0) 5) = x1 then (fX10_bar_140 1 q3.2) else (if (q3.2 (11, 22, 0) 6) = x1 then (fX10_bar_140 1 q3.2) else (fX10_bar_140 0 q3.2)))))))) else (some (0, q3.2))) = some v := h
  refine Ex.go 1 (pc' := 24) (ls' := [some (vR (10, 0, 0)), some (vI x1), some (vI x2)]) (st' := [vI 3, vI y1, vR (10, 0, 0)]) (hp' := hp) (fun _ => rfl) ?_
  obtain ⟨q3, hv, h⟩ := Option.bind_eq_some_iff.mp h
  refine Ex.call (args := [vR (10, 0, 0), vI y1, vI 3]) (rest := []) rfl rfl rfl (exX10_refuse (d := d + 2) hv) ?_
  show Ex (d + 3) kX10_bar 27 [some (vR (10, 0, 0)), some (vI x1), some (vI x2)] [vI q3.1] q3.2 _
  refine Ex.ifc rfl ?_
  by_cases hc : q3.1 = 0
  · rw [if_pos hc] at h
    rw [brI_eq_p hc]
    show Ex (d + 3) kX10_bar 32 [some (vR (10, 0, 0)), some (vI x1), some (vI x2)] [] q3.2 _
    refine Ex.go 1 (pc' := 33) (ls' := [some (vR (10, 0, 0)), some (vI x1), some (vI x2)]) (st' := [vI x2]) (hp' := q3.2) (fun _ => rfl) ?_
    refine Ex.tsw rfl ?_
    refine sw_c (k := 0) rfl (fun hc => ?_) (fun hc => ?_)
    · rw [if_pos hc] at h
      show Ex (d + 3) kX10_bar 68 [some (vR (10, 0, 0)), some (vI x1), some (vI x2)] [] q3.2 _
      refine Ex.go 3 (pc' := 73) (ls' := [some (vR (10, 0, 0)), some (vI x1), some (vI x2)]) (st' := [vI x1, vR (11, 20, 0)]) (hp' := q3.2) (fun _ => rfl) ?_
      by_cases hc : inb x1 (alen (11, 20, 0)) = true
      · rw [if_pos hc] at h
        refine Ex.iald rfl rfl hc rfl ?_
        show Ex (d + 3) kX10_bar 74 [some (vR (10, 0, 0)), some (vI x1), some (vI x2)] [vI (q3.2 (11, 20, 0) x1.toNatClampNeg)] q3.2 _
        cases h
        exact Ex.ret rfl rfl rfl
      · rw [if_neg hc] at h
        cases h
    rw [if_neg hc] at h
    refine sw_c (k := 1) rfl (fun hc => ?_) (fun hc => ?_)
    · rw [if_pos hc] at h
      show Ex (d + 3) kX10_bar 75 [some (vR (10, 0, 0)), some (vI x1), some (vI x2)] [] q3.2 _
      refine Ex.go 3 (pc' := 80) (ls' := [some (vR (10, 0, 0)), some (vI x1), some (vI x2)]) (st' := [vI x1, vR (11, 21, 0)]) (hp' := q3.2) (fun _ => rfl) ?_
      by_cases hc : inb x1 (alen (11, 21, 0)) = true
      · rw [if_pos hc] at h
        refine Ex.iald rfl rfl hc rfl ?_
        show Ex (d + 3) kX10_bar 81 [some (vR (10, 0, 0)), some (vI x1), some (vI x2)] [vI (q3.2 (11, 21, 0) x1.toNatClampNeg)] q3.2 _
        cases h
        exact Ex.ret rfl rfl rfl
      · rw [if_neg hc] at h
        cases h
    rw [if_neg hc] at h
    refine sw_c (k := 2) rfl (fun hc => ?_) (fun hc => ?_)
    · rw [if_pos hc] at h
      show Ex (d + 3) kX10_bar 82 [some (vR (10, 0, 0)), some (vI x1), some (vI x2)] [] q3.2 _
      refine Ex.go 2 (pc' := 84) (ls' := [some (vR (10, 0, 0)), some (vI x1), some (vI x2)]) (st' := [vI x1, vR (10, 0, 0)]) (hp' := q3.2) (fun _ => rfl) ?_
      obtain ⟨v6, hv, h⟩ := Option.bind_eq_some_iff.mp h
      refine Ex.call (args := [vR (10, 0, 0), vI x1]) (rest := []) rfl rfl rfl (exX10_rise (d := d + 1) hv) ?_
      show Ex (d + 3) kX10_bar 87 [some (vR (10, 0, 0)), some (vI x1), some (vI x2)] [vI v6] q3.2 _
      cases h
      exact Ex.ret rfl rfl rfl
    rw [if_neg hc] at h
    refine sw_c (k := 3) rfl (fun hc => ?_) (fun hc => ?_)
    · rw [if_pos hc] at h
      show Ex (d + 3) kX10_bar 88 [some (vR (10, 0, 0)), some (vI x1), some (vI x2)] [] q3.2 _
      refine Ex.go 9 (pc' := 100) (ls' := [some (vR (10, 0, 0)), some (vI x1), some (vI x2)]) (st' := [vI ((38 + (2 * x1)) + 1), vR (11, 22, 0)]) (hp' := q3.2) (fun _ => rfl) ?_
      by_cases hc : inb ((38 + (2 * x1)) + 1) (alen (11, 22, 0)) = true
      · rw [if_pos hc] at h
        refine Ex.iald rfl rfl hc rfl ?_
        show Ex (d + 3) kX10_bar 101 [some (vR (10, 0, 0)), some (vI x1), some (vI x2)] [vI (q3.2 (11, 22, 0) ((38 + (2 * x1)) + 1).toNatClampNeg)] q3.2 _
        cases h
        exact Ex.ret rfl rfl rfl
      · rw [if_neg hc] at h
        cases h
    rw [if_neg hc] at h
    refine sw_c (k := 4) rfl (fun hc => ?_) (fun hc => ?_)
    · rw [if_pos hc] at h
      show Ex (d + 3) kX10_bar 102 [some (vR (10, 0, 0)), some (vI x1), some (vI x2)] [] q3.2 _
      refine Ex.go 5 (pc' := 109) (ls' := [some (vR (10, 0, 0)), some (vI x1), some (vI x2)]) (st' := [vI 3, vR (11, 22, 0), vI x1, vR (10, 0, 0)]) (hp' := q3.2) (fun _ => rfl) ?_
      refine Ex.iald (k := 3) rfl rfl (by decide) (by decide) ?_
      show Ex (d + 3) kX10_bar 110 [some (vR (10, 0, 0)), some (vI x1), some (vI x2)] [vI (q3.2 (11, 22, 0) 3), vI x1, vR (10, 0, 0)] q3.2 _
      obtain ⟨v7, hv, h⟩ := Option.bind_eq_some_iff.mp h
      refine Ex.call (args := [vR (10, 0, 0), vI x1, vI (q3.2 (11, 22, 0) 3)]) (rest := []) rfl rfl rfl (exX10_backIn (d := d + 0) hv) ?_
      show Ex (d + 3) kX10_bar 113 [some (vR (10, 0, 0)), some (vI x1), some (vI x2)] [vI v7] q3.2 _
      cases h
      exact Ex.ret rfl rfl rfl
    rw [if_neg hc] at h
    show Ex (d + 3) kX10_bar 114 [some (vR (10, 0, 0)), some (vI x1), some (vI x2)] [] q3.2 _
    refine Ex.go 3 (pc' := 119) (ls' := [some (vR (10, 0, 0)), some (vI x1), some (vI x2)]) (st' := [vI 5, vR (11, 22, 0)]) (hp' := q3.2) (fun _ => rfl) ?_
    refine Ex.iald (k := 5) rfl rfl (by decide) (by decide) ?_
    show Ex (d + 3) kX10_bar 120 [some (vR (10, 0, 0)), some (vI x1), some (vI x2)] [vI (q3.2 (11, 22, 0) 5)] q3.2 _
    refine Ex.go 1 (pc' := 121) (ls' := [some (vR (10, 0, 0)), some (vI x1), some (vI x2)]) (st' := [vI x1, vI (q3.2 (11, 22, 0) 5)]) (hp' := q3.2) (fun _ => rfl) ?_
    refine Ex.icmp rfl ?_
    by_cases hc : (q3.2 (11, 22, 0) 5) = x1
    · rw [if_pos hc] at h
      rw [brI_eq_p hc]
      show Ex (d + 3) kX10_bar 135 [some (vR (10, 0, 0)), some (vI x1), some (vI x2)] [] q3.2 _
      refine Ex.go 2 (pc' := 140) (ls' := [some (vR (10, 0, 0)), some (vI x1), some (vI x2)]) (st' := [vI 1]) (hp' := q3.2) (fun _ => rfl) ?_
      exact exX10_bar_140 h
    · rw [if_neg hc] at h
      rw [brI_eq_n hc]
      show Ex (d + 3) kX10_bar 124 [some (vR (10, 0, 0)), some (vI x1), some (vI x2)] [] q3.2 _
      refine Ex.go 3 (pc' := 130) (ls' := [some (vR (10, 0, 0)), some (vI x1), some (vI x2)]) (st' := [vI 6, vR (11, 22, 0)]) (hp' := q3.2) (fun _ => rfl) ?_
      refine Ex.iald (k := 6) rfl rfl (by decide) (by decide) ?_
      show Ex (d + 3) kX10_bar 131 [some (vR (10, 0, 0)), some (vI x1), some (vI x2)] [vI (q3.2 (11, 22, 0) 6)] q3.2 _
      refine Ex.go 1 (pc' := 132) (ls' := [some (vR (10, 0, 0)), some (vI x1), some (vI x2)]) (st' := [vI x1, vI (q3.2 (11, 22, 0) 6)]) (hp' := q3.2) (fun _ => rfl) ?_
      refine Ex.icmp rfl ?_
      by_cases hc : (q3.2 (11, 22, 0) 6) = x1
      · rw [if_pos hc] at h
        rw [brI_ne_p hc]
        show Ex (d + 3) kX10_bar 135 [some (vR (10, 0, 0)), some (vI x1), some (vI x2)] [] q3.2 _
        refine Ex.go 2 (pc' := 140) (ls' := [some (vR (10, 0, 0)), some (vI x1), some (vI x2)]) (st' := [vI 1]) (hp' := q3.2) (fun _ => rfl) ?_
        exact exX10_bar_140 h
      · rw [if_neg hc] at h
        rw [brI_ne_n hc]
        show Ex (d + 3) kX10_bar 139 [some (vR (10, 0, 0)), some (vI x1), some (vI x2)] [] q3.2 _
        refine Ex.go 1 (pc' := 140) (ls' := [some (vR (10, 0, 0)), some (vI x1), some (vI x2)]) (st' := [vI 0]) (hp' := q3.2) (fun _ => rfl) ?_
        exact exX10_bar_140 h
  · rw [if_neg hc] at h
    rw [brI_eq_n hc]
    show Ex (d + 3) kX10_bar 30 [some (vR (10, 0, 0)), some (vI x1), some (vI x2)] [] q3.2 _
    refine Ex.go 1 (pc' := 31) (ls' := [some (vR (10, 0, 0)), some (vI x1), some (vI x2)]) (st' := [vI 0]) (hp' := q3.2) (fun _ => rfl) ?_
    cases h
    exact Ex.ret rfl rfl rfl
def fX10_bar (a0 : Int32) (a1 : Int32) (hp : HP) : Option (Int32 × HP) := (fX10_noBar a0 hp).bind fun q9 => if q9.1 = 0 then ((fX10_in a1 0 5 q9.2).bind fun v10 => if v10 = 0 then (fX10_bar_23 a0 a1 1 q9.2) else (fX10_bar_23 a0 a1 0 q9.2)) else (some (0, q9.2))
theorem exX10_bar {d : Nat} {a0 : Int32} {a1 : Int32} {hp : HP} {v : (Int32 × HP)} (h : fX10_bar a0 a1 hp = some v) : Calls (d + 3) 224 [vR (10, 0, 0), vI a0, vI a1] hp (rsI v.1 v.2) := by
  replace h : ((fX10_noBar a0 hp).bind fun q9 => if q9.1 = 0 then ((fX10_in a1 0 5 q9.2).bind fun v10 => if v10 = 0 then (fX10_bar_23 a0 a1 1 q9.2) else (fX10_bar_23 a0 a1 0 q9.2)) else (some (0, q9.2))) = some v := h
  show Ex (d + 3) kX10_bar 0 [some (vR (10, 0, 0)), some (vI a0), some (vI a1)] [] hp _
  refine Ex.go 2 (pc' := 2) (ls' := [some (vR (10, 0, 0)), some (vI a0), some (vI a1)]) (st' := [vI a0, vR (10, 0, 0)]) (hp' := hp) (fun _ => rfl) ?_
  obtain ⟨q9, hv, h⟩ := Option.bind_eq_some_iff.mp h
  refine Ex.call (args := [vR (10, 0, 0), vI a0]) (rest := []) rfl rfl rfl (exX10_noBar (d := d + 0) hv) ?_
  show Ex (d + 3) kX10_bar 5 [some (vR (10, 0, 0)), some (vI a0), some (vI a1)] [vI q9.1] q9.2 _
  refine Ex.ifc rfl ?_
  by_cases hc : q9.1 = 0
  · rw [if_pos hc] at h
    rw [brI_ne_p hc]
    show Ex (d + 3) kX10_bar 8 [some (vR (10, 0, 0)), some (vI a0), some (vI a1)] [] q9.2 _
    refine Ex.go 4 (pc' := 12) (ls' := [some (vR (10, 0, 0)), some (vI a0), some (vI a1)]) (st' := [vI 5, vI 0, vI a1, vR (10, 0, 0)]) (hp' := q9.2) (fun _ => rfl) ?_
    obtain ⟨v10, hv, h⟩ := Option.bind_eq_some_iff.mp h
    refine Ex.call (args := [vI a1, vI 0, vI 5]) (rest := [vR (10, 0, 0)]) rfl rfl rfl (exX10_in (d := d + 2) hv) ?_
    show Ex (d + 3) kX10_bar 15 [some (vR (10, 0, 0)), some (vI a0), some (vI a1)] [vI v10, vR (10, 0, 0)] q9.2 _
    refine Ex.ifc rfl ?_
    by_cases hc : v10 = 0
    · rw [if_pos hc] at h
      rw [brI_ne_p hc]
      show Ex (d + 3) kX10_bar 18 [some (vR (10, 0, 0)), some (vI a0), some (vI a1)] [vR (10, 0, 0)] q9.2 _
      refine Ex.go 2 (pc' := 23) (ls' := [some (vR (10, 0, 0)), some (vI a0), some (vI a1)]) (st' := [vI 1, vR (10, 0, 0)]) (hp' := q9.2) (fun _ => rfl) ?_
      exact exX10_bar_23 h
    · rw [if_neg hc] at h
      rw [brI_ne_n hc]
      show Ex (d + 3) kX10_bar 22 [some (vR (10, 0, 0)), some (vI a0), some (vI a1)] [vR (10, 0, 0)] q9.2 _
      refine Ex.go 1 (pc' := 23) (ls' := [some (vR (10, 0, 0)), some (vI a0), some (vI a1)]) (st' := [vI 0, vR (10, 0, 0)]) (hp' := q9.2) (fun _ => rfl) ?_
      exact exX10_bar_23 h
  · rw [if_neg hc] at h
    rw [brI_ne_n hc]
    show Ex (d + 3) kX10_bar 30 [some (vR (10, 0, 0)), some (vI a0), some (vI a1)] [] q9.2 _
    refine Ex.go 1 (pc' := 31) (ls' := [some (vR (10, 0, 0)), some (vI a0), some (vI a1)]) (st' := [vI 0]) (hp' := q9.2) (fun _ => rfl) ?_
    cases h
    exact Ex.ret rfl rfl rfl
def fX10_barOf (a0 : Int32) (hp : HP) : Option (Int32 × HP) := (fX10_notLoaded hp).bind fun q2 => if q2.1 = 0 then ((fX10_barFor a0 q2.2).bind fun v3 => some (v3, q2.2)) else (some (0, q2.2))
theorem exX10_barOf {d : Nat} {a0 : Int32} {hp : HP} {v : (Int32 × HP)} (h : fX10_barOf a0 hp = some v) : Calls (d + 2) 225 [vR (10, 0, 0), vI a0] hp (rsI v.1 v.2) := by
  replace h : ((fX10_notLoaded hp).bind fun q2 => if q2.1 = 0 then ((fX10_barFor a0 q2.2).bind fun v3 => some (v3, q2.2)) else (some (0, q2.2))) = some v := h
  show Ex (d + 2) kX10_barOf 0 [some (vR (10, 0, 0)), some (vI a0)] [] hp _
  refine Ex.go 1 (pc' := 1) (ls' := [some (vR (10, 0, 0)), some (vI a0)]) (st' := [vR (10, 0, 0)]) (hp' := hp) (fun _ => rfl) ?_
  obtain ⟨q2, hv, h⟩ := Option.bind_eq_some_iff.mp h
  refine Ex.call (args := [vR (10, 0, 0)]) (rest := []) rfl rfl rfl (exX10_notLoaded (d := d + 0) hv) ?_
  show Ex (d + 2) kX10_barOf 4 [some (vR (10, 0, 0)), some (vI a0)] [vI q2.1] q2.2 _
  refine Ex.ifc rfl ?_
  by_cases hc : q2.1 = 0
  · rw [if_pos hc] at h
    rw [brI_eq_p hc]
    show Ex (d + 2) kX10_barOf 11 [some (vR (10, 0, 0)), some (vI a0)] [] q2.2 _
    refine Ex.go 2 (pc' := 13) (ls' := [some (vR (10, 0, 0)), some (vI a0)]) (st' := [vI a0, vR (10, 0, 0)]) (hp' := q2.2) (fun _ => rfl) ?_
    obtain ⟨v3, hv, h⟩ := Option.bind_eq_some_iff.mp h
    refine Ex.call (args := [vR (10, 0, 0), vI a0]) (rest := []) rfl rfl rfl (exX10_barFor (d := d + 0) hv) ?_
    show Ex (d + 2) kX10_barOf 16 [some (vR (10, 0, 0)), some (vI a0)] [vI v3] q2.2 _
    cases h
    exact Ex.ret rfl rfl rfl
  · rw [if_neg hc] at h
    rw [brI_eq_n hc]
    show Ex (d + 2) kX10_barOf 7 [some (vR (10, 0, 0)), some (vI a0)] [] q2.2 _
    refine Ex.go 2 (pc' := 16) (ls' := [some (vR (10, 0, 0)), some (vI a0)]) (st' := [vI 0]) (hp' := q2.2) (fun _ => rfl) ?_
    cases h
    exact Ex.ret rfl rfl rfl
def fX10_latest (hp : HP) : Option (Int32 × HP) := (fX10_notLoaded hp).bind fun q2 => if q2.1 = 0 then (some ((q2.2 (11, 22, 0) 4), q2.2)) else (some (0, q2.2))
theorem exX10_latest {d : Nat} {hp : HP} {v : (Int32 × HP)} (h : fX10_latest hp = some v) : Calls (d + 2) 226 [vR (10, 0, 0)] hp (rsI v.1 v.2) := by
  replace h : ((fX10_notLoaded hp).bind fun q2 => if q2.1 = 0 then (some ((q2.2 (11, 22, 0) 4), q2.2)) else (some (0, q2.2))) = some v := h
  show Ex (d + 2) kX10_latest 0 [some (vR (10, 0, 0))] [] hp _
  refine Ex.go 1 (pc' := 1) (ls' := [some (vR (10, 0, 0))]) (st' := [vR (10, 0, 0)]) (hp' := hp) (fun _ => rfl) ?_
  obtain ⟨q2, hv, h⟩ := Option.bind_eq_some_iff.mp h
  refine Ex.call (args := [vR (10, 0, 0)]) (rest := []) rfl rfl rfl (exX10_notLoaded (d := d + 0) hv) ?_
  show Ex (d + 2) kX10_latest 4 [some (vR (10, 0, 0))] [vI q2.1] q2.2 _
  refine Ex.ifc rfl ?_
  by_cases hc : q2.1 = 0
  · rw [if_pos hc] at h
    rw [brI_eq_p hc]
    show Ex (d + 2) kX10_latest 11 [some (vR (10, 0, 0))] [] q2.2 _
    refine Ex.go 3 (pc' := 16) (ls' := [some (vR (10, 0, 0))]) (st' := [vI 4, vR (11, 22, 0)]) (hp' := q2.2) (fun _ => rfl) ?_
    refine Ex.iald (k := 4) rfl rfl (by decide) (by decide) ?_
    show Ex (d + 2) kX10_latest 17 [some (vR (10, 0, 0))] [vI (q2.2 (11, 22, 0) 4)] q2.2 _
    cases h
    exact Ex.ret rfl rfl rfl
  · rw [if_neg hc] at h
    rw [brI_eq_n hc]
    show Ex (d + 2) kX10_latest 7 [some (vR (10, 0, 0))] [] q2.2 _
    refine Ex.go 2 (pc' := 17) (ls' := [some (vR (10, 0, 0))]) (st' := [vI 0]) (hp' := q2.2) (fun _ => rfl) ?_
    cases h
    exact Ex.ret rfl rfl rfl
def fX10_ribbon_29 (x1 : Int32) (y1 : Int32) (hp : HP) : Option (Int32 × HP) := (fX10_refuse y1 2 hp).bind fun q2 => if q2.1 = 0 then (if inb (130 + x1) (alen (11, 22, 0)) = true then (some ((q2.2 (11, 22, 0) (130 + x1).toNatClampNeg), q2.2)) else none) else (some (0, q2.2))
theorem exX10_ribbon_29 {d : Nat} {x1 : Int32} {y1 : Int32} {hp : HP} {v : (Int32 × HP)} (h : fX10_ribbon_29 x1 y1 hp = some v) : Ex (d + 2) kX10_ribbon 29 [some (vR (10, 0, 0)), some (vI x1)] [vI y1, vR (10, 0, 0)] hp (rsI v.1 v.2) := by
  replace h : ((fX10_refuse y1 2 hp).bind fun q2 => if q2.1 = 0 then (if inb (130 + x1) (alen (11, 22, 0)) = true then (some ((q2.2 (11, 22, 0) (130 + x1).toNatClampNeg), q2.2)) else none) else (some (0, q2.2))) = some v := h
  refine Ex.go 1 (pc' := 30) (ls' := [some (vR (10, 0, 0)), some (vI x1)]) (st' := [vI 2, vI y1, vR (10, 0, 0)]) (hp' := hp) (fun _ => rfl) ?_
  obtain ⟨q2, hv, h⟩ := Option.bind_eq_some_iff.mp h
  refine Ex.call (args := [vR (10, 0, 0), vI y1, vI 2]) (rest := []) rfl rfl rfl (exX10_refuse (d := d + 1) hv) ?_
  show Ex (d + 2) kX10_ribbon 33 [some (vR (10, 0, 0)), some (vI x1)] [vI q2.1] q2.2 _
  refine Ex.ifc rfl ?_
  by_cases hc : q2.1 = 0
  · rw [if_pos hc] at h
    rw [brI_eq_p hc]
    show Ex (d + 2) kX10_ribbon 40 [some (vR (10, 0, 0)), some (vI x1)] [] q2.2 _
    refine Ex.go 5 (pc' := 49) (ls' := [some (vR (10, 0, 0)), some (vI x1)]) (st' := [vI (130 + x1), vR (11, 22, 0)]) (hp' := q2.2) (fun _ => rfl) ?_
    by_cases hc : inb (130 + x1) (alen (11, 22, 0)) = true
    · rw [if_pos hc] at h
      refine Ex.iald rfl rfl hc rfl ?_
      show Ex (d + 2) kX10_ribbon 50 [some (vR (10, 0, 0)), some (vI x1)] [vI (q2.2 (11, 22, 0) (130 + x1).toNatClampNeg)] q2.2 _
      cases h
      exact Ex.ret rfl rfl rfl
    · rw [if_neg hc] at h
      cases h
  · rw [if_neg hc] at h
    rw [brI_eq_n hc]
    show Ex (d + 2) kX10_ribbon 36 [some (vR (10, 0, 0)), some (vI x1)] [] q2.2 _
    refine Ex.go 2 (pc' := 50) (ls' := [some (vR (10, 0, 0)), some (vI x1)]) (st' := [vI 0]) (hp' := q2.2) (fun _ => rfl) ?_
    cases h
    exact Ex.ret rfl rfl rfl
def fX10_ribbon (a0 : Int32) (hp : HP) : Option (Int32 × HP) := (fX10_notLoaded hp).bind fun q4 => if q4.1 = 0 then ((fX10_its 9 q4.2).bind fun v5 => (fX10_in a0 0 (v5 - 1) q4.2).bind fun v6 => if v6 = 0 then (fX10_ribbon_29 a0 1 q4.2) else (fX10_ribbon_29 a0 0 q4.2)) else (some (0, q4.2))
theorem exX10_ribbon {d : Nat} {a0 : Int32} {hp : HP} {v : (Int32 × HP)} (h : fX10_ribbon a0 hp = some v) : Calls (d + 2) 227 [vR (10, 0, 0), vI a0] hp (rsI v.1 v.2) := by
  replace h : ((fX10_notLoaded hp).bind fun q4 => if q4.1 = 0 then ((fX10_its 9 q4.2).bind fun v5 => (fX10_in a0 0 (v5 - 1) q4.2).bind fun v6 => if v6 = 0 then (fX10_ribbon_29 a0 1 q4.2) else (fX10_ribbon_29 a0 0 q4.2)) else (some (0, q4.2))) = some v := h
  show Ex (d + 2) kX10_ribbon 0 [some (vR (10, 0, 0)), some (vI a0)] [] hp _
  refine Ex.go 1 (pc' := 1) (ls' := [some (vR (10, 0, 0)), some (vI a0)]) (st' := [vR (10, 0, 0)]) (hp' := hp) (fun _ => rfl) ?_
  obtain ⟨q4, hv, h⟩ := Option.bind_eq_some_iff.mp h
  refine Ex.call (args := [vR (10, 0, 0)]) (rest := []) rfl rfl rfl (exX10_notLoaded (d := d + 0) hv) ?_
  show Ex (d + 2) kX10_ribbon 4 [some (vR (10, 0, 0)), some (vI a0)] [vI q4.1] q4.2 _
  refine Ex.ifc rfl ?_
  by_cases hc : q4.1 = 0
  · rw [if_pos hc] at h
    rw [brI_ne_p hc]
    show Ex (d + 2) kX10_ribbon 7 [some (vR (10, 0, 0)), some (vI a0)] [] q4.2 _
    refine Ex.go 5 (pc' := 13) (ls' := [some (vR (10, 0, 0)), some (vI a0)]) (st' := [vI 9, vR (10, 0, 0), vI 0, vI a0, vR (10, 0, 0)]) (hp' := q4.2) (fun _ => rfl) ?_
    obtain ⟨v5, hv, h⟩ := Option.bind_eq_some_iff.mp h
    refine Ex.call (args := [vR (10, 0, 0), vI 9]) (rest := [vI 0, vI a0, vR (10, 0, 0)]) rfl rfl rfl (exX10_its (d := d + 1) hv) ?_
    show Ex (d + 2) kX10_ribbon 16 [some (vR (10, 0, 0)), some (vI a0)] [vI v5, vI 0, vI a0, vR (10, 0, 0)] q4.2 _
    refine Ex.go 2 (pc' := 18) (ls' := [some (vR (10, 0, 0)), some (vI a0)]) (st' := [vI (v5 - 1), vI 0, vI a0, vR (10, 0, 0)]) (hp' := q4.2) (fun _ => rfl) ?_
    obtain ⟨v6, hv, h⟩ := Option.bind_eq_some_iff.mp h
    refine Ex.call (args := [vI a0, vI 0, vI (v5 - 1)]) (rest := [vR (10, 0, 0)]) rfl rfl rfl (exX10_in (d := d + 1) hv) ?_
    show Ex (d + 2) kX10_ribbon 21 [some (vR (10, 0, 0)), some (vI a0)] [vI v6, vR (10, 0, 0)] q4.2 _
    refine Ex.ifc rfl ?_
    by_cases hc : v6 = 0
    · rw [if_pos hc] at h
      rw [brI_ne_p hc]
      show Ex (d + 2) kX10_ribbon 24 [some (vR (10, 0, 0)), some (vI a0)] [vR (10, 0, 0)] q4.2 _
      refine Ex.go 2 (pc' := 29) (ls' := [some (vR (10, 0, 0)), some (vI a0)]) (st' := [vI 1, vR (10, 0, 0)]) (hp' := q4.2) (fun _ => rfl) ?_
      exact exX10_ribbon_29 h
    · rw [if_neg hc] at h
      rw [brI_ne_n hc]
      show Ex (d + 2) kX10_ribbon 28 [some (vR (10, 0, 0)), some (vI a0)] [vR (10, 0, 0)] q4.2 _
      refine Ex.go 1 (pc' := 29) (ls' := [some (vR (10, 0, 0)), some (vI a0)]) (st' := [vI 0, vR (10, 0, 0)]) (hp' := q4.2) (fun _ => rfl) ?_
      exact exX10_ribbon_29 h
  · rw [if_neg hc] at h
    rw [brI_ne_n hc]
    show Ex (d + 2) kX10_ribbon 36 [some (vR (10, 0, 0)), some (vI a0)] [] q4.2 _
    refine Ex.go 2 (pc' := 50) (ls' := [some (vR (10, 0, 0)), some (vI a0)]) (st' := [vI 0]) (hp' := q4.2) (fun _ => rfl) ?_
    cases h
    exact Ex.ret rfl rfl rfl
def fX10_allInk_4 (n : Nat) (x1 : Int32) (x2 : Int32) (hp : HP) : Option Int32 := match n with
  | 0 => none
  | n + 1 => (fX10_its 9 hp).bind fun v1 => if x2 < v1 then (if inb (130 + x2) (alen (11, 22, 0)) = true then (fX10_allInk_4 n (x1 + (hp (11, 22, 0) (130 + x2).toNatClampNeg)) (x2 + 1) hp) else none) else (some x1)
theorem exX10_allInk_4 {d : Nat} : ∀ (n : Nat) (x1 : Int32) (x2 : Int32) (hp : HP) (v : Int32), fX10_allInk_4 n x1 x2 hp = some v → Ex (d + 1) kX10_allInk 4 [some (vR (10, 0, 0)), some (vI x1), some (vI x2)] [] hp (rsI v hp) := by
  intro n
  induction n with
  | zero =>
    intro x1 x2 hp v h
    cases h
  | succ n ih =>
    intro x1 x2 hp v h
    replace h : ((fX10_its 9 hp).bind fun v1 => if x2 < v1 then (if inb (130 + x2) (alen (11, 22, 0)) = true then (fX10_allInk_4 n (x1 + (hp (11, 22, 0) (130 + x2).toNatClampNeg)) (x2 + 1) hp) else none) else (some x1)) = some v := h
    refine Ex.go 3 (pc' := 8) (ls' := [some (vR (10, 0, 0)), some (vI x1), some (vI x2)]) (st' := [vI 9, vR (10, 0, 0), vI x2]) (hp' := hp) (fun _ => rfl) ?_
    obtain ⟨v1, hv, h⟩ := Option.bind_eq_some_iff.mp h
    refine Ex.call (args := [vR (10, 0, 0), vI 9]) (rest := [vI x2]) rfl rfl rfl (exX10_its (d := d + 0) hv) ?_
    show Ex (d + 1) kX10_allInk 11 [some (vR (10, 0, 0)), some (vI x1), some (vI x2)] [vI v1, vI x2] hp _
    refine Ex.icmp rfl ?_
    by_cases hc : x2 < v1
    · rw [if_pos hc] at h
      rw [brI_ge_p hc]
      show Ex (d + 1) kX10_allInk 14 [some (vR (10, 0, 0)), some (vI x1), some (vI x2)] [] hp _
      refine Ex.go 6 (pc' := 24) (ls' := [some (vR (10, 0, 0)), some (vI x1), some (vI x2)]) (st' := [vI (130 + x2), vR (11, 22, 0), vI x1]) (hp' := hp) (fun _ => rfl) ?_
      by_cases hc : inb (130 + x2) (alen (11, 22, 0)) = true
      · rw [if_pos hc] at h
        refine Ex.iald rfl rfl hc rfl ?_
        show Ex (d + 1) kX10_allInk 25 [some (vR (10, 0, 0)), some (vI x1), some (vI x2)] [vI (hp (11, 22, 0) (130 + x2).toNatClampNeg), vI x1] hp _
        refine Ex.go 4 (pc' := 4) (ls' := [some (vR (10, 0, 0)), some (vI (x1 + (hp (11, 22, 0) (130 + x2).toNatClampNeg))), some (vI (x2 + 1))]) (st' := []) (hp' := hp) (fun _ => rfl) ?_
        exact ih _ _ _ _ h
      · rw [if_neg hc] at h
        cases h
    · rw [if_neg hc] at h
      rw [brI_ge_n hc]
      show Ex (d + 1) kX10_allInk 33 [some (vR (10, 0, 0)), some (vI x1), some (vI x2)] [] hp _
      refine Ex.go 1 (pc' := 34) (ls' := [some (vR (10, 0, 0)), some (vI x1), some (vI x2)]) (st' := [vI x1]) (hp' := hp) (fun _ => rfl) ?_
      cases h
      exact Ex.ret rfl rfl rfl
def fX10_allInk (hp : HP) : Option Int32 := fX10_allInk_4 FU 0 0 hp
theorem exX10_allInk {d : Nat} {hp : HP} {v : Int32} (h : fX10_allInk hp = some v) : Calls (d + 1) 228 [vR (10, 0, 0)] hp (rsI v hp) := by
  replace h : (fX10_allInk_4 FU 0 0 hp) = some v := h
  show Ex (d + 1) kX10_allInk 0 [some (vR (10, 0, 0)), none, none] [] hp _
  refine Ex.go 4 (pc' := 4) (ls' := [some (vR (10, 0, 0)), some (vI 0), some (vI 0)]) (st' := []) (hp' := hp) (fun _ => rfl) ?_
  exact exX10_allInk_4 FU _ _ _ _ h
def fX10_dryPlaces_33 (x2 : Int32) (y0 : Int32) (y1 : Int32) (k4 : Int32 → Int32 → HP → Option Int32) (hp : HP) : Option Int32 := (fX10_flag y1 hp).bind fun v1 => k4 (y0 + v1) (x2 + 1) hp
theorem exX10_dryPlaces_33 {d : Nat} {x2 : Int32} {y0 : Int32} {y1 : Int32} {j1 : Option VL} {hp : HP} {v : Int32} {k4 : Int32 → Int32 → HP → Option Int32} (hk4 : ∀ (x1 : Int32) (x2 : Int32) (hp : HP) (v : Int32), k4 x1 x2 hp = some v → Ex (d + 1) kX10_dryPlaces 4 [some (vR (10, 0, 0)), some (vI x1), some (vI x2)] [] hp (rsI v hp)) (h : fX10_dryPlaces_33 x2 y0 y1 k4 hp = some v) : Ex (d + 1) kX10_dryPlaces 33 [some (vR (10, 0, 0)), j1, some (vI x2)] [vI y1, vI y0] hp (rsI v hp) := by
  replace h : ((fX10_flag y1 hp).bind fun v1 => k4 (y0 + v1) (x2 + 1) hp) = some v := h
  obtain ⟨v1, hv, h⟩ := Option.bind_eq_some_iff.mp h
  refine Ex.call (args := [vI y1]) (rest := [vI y0]) rfl rfl rfl (exX10_flag (d := d + 0) hv) ?_
  show Ex (d + 1) kX10_dryPlaces 36 [some (vR (10, 0, 0)), j1, some (vI x2)] [vI v1, vI y0] hp _
  refine Ex.go 4 (pc' := 4) (ls' := [some (vR (10, 0, 0)), some (vI (y0 + v1)), some (vI (x2 + 1))]) (st' := []) (hp' := hp) (fun _ => rfl) ?_
  exact hk4 _ _ _ _ h
def fX10_dryPlaces_4 (n : Nat) (x1 : Int32) (x2 : Int32) (hp : HP) : Option Int32 := match n with
  | 0 => none
  | n + 1 => (fX10_its 9 hp).bind fun v2 => if x2 < v2 then (if inb (130 + x2) (alen (11, 22, 0)) = true then (if (hp (11, 22, 0) (130 + x2).toNatClampNeg) = 0 then (fX10_dryPlaces_33 x2 x1 1 (fun x1 x2 hq => fX10_dryPlaces_4 n x1 x2 hq) hp) else (fX10_dryPlaces_33 x2 x1 0 (fun x1 x2 hq => fX10_dryPlaces_4 n x1 x2 hq) hp)) else none) else (some x1)
theorem exX10_dryPlaces_4 {d : Nat} : ∀ (n : Nat) (x1 : Int32) (x2 : Int32) (hp : HP) (v : Int32), fX10_dryPlaces_4 n x1 x2 hp = some v → Ex (d + 1) kX10_dryPlaces 4 [some (vR (10, 0, 0)), some (vI x1), some (vI x2)] [] hp (rsI v hp) := by
  intro n
  induction n with
  | zero =>
    intro x1 x2 hp v h
    cases h
  | succ n ih =>
    intro x1 x2 hp v h
    replace h : ((fX10_its 9 hp).bind fun v2 => if x2 < v2 then (if inb (130 + x2) (alen (11, 22, 0)) = true then (if (hp (11, 22, 0) (130 + x2).toNatClampNeg) = 0 then (fX10_dryPlaces_33 x2 x1 1 (fun x1 x2 hq => fX10_dryPlaces_4 n x1 x2 hq) hp) else (fX10_dryPlaces_33 x2 x1 0 (fun x1 x2 hq => fX10_dryPlaces_4 n x1 x2 hq) hp)) else none) else (some x1)) = some v := h
    refine Ex.go 3 (pc' := 8) (ls' := [some (vR (10, 0, 0)), some (vI x1), some (vI x2)]) (st' := [vI 9, vR (10, 0, 0), vI x2]) (hp' := hp) (fun _ => rfl) ?_
    obtain ⟨v2, hv, h⟩ := Option.bind_eq_some_iff.mp h
    refine Ex.call (args := [vR (10, 0, 0), vI 9]) (rest := [vI x2]) rfl rfl rfl (exX10_its (d := d + 0) hv) ?_
    show Ex (d + 1) kX10_dryPlaces 11 [some (vR (10, 0, 0)), some (vI x1), some (vI x2)] [vI v2, vI x2] hp _
    refine Ex.icmp rfl ?_
    by_cases hc : x2 < v2
    · rw [if_pos hc] at h
      rw [brI_ge_p hc]
      show Ex (d + 1) kX10_dryPlaces 14 [some (vR (10, 0, 0)), some (vI x1), some (vI x2)] [] hp _
      refine Ex.go 6 (pc' := 24) (ls' := [some (vR (10, 0, 0)), some (vI x1), some (vI x2)]) (st' := [vI (130 + x2), vR (11, 22, 0), vI x1]) (hp' := hp) (fun _ => rfl) ?_
      by_cases hc : inb (130 + x2) (alen (11, 22, 0)) = true
      · rw [if_pos hc] at h
        refine Ex.iald rfl rfl hc rfl ?_
        show Ex (d + 1) kX10_dryPlaces 25 [some (vR (10, 0, 0)), some (vI x1), some (vI x2)] [vI (hp (11, 22, 0) (130 + x2).toNatClampNeg), vI x1] hp _
        refine Ex.ifc rfl ?_
        by_cases hc : (hp (11, 22, 0) (130 + x2).toNatClampNeg) = 0
        · rw [if_pos hc] at h
          rw [brI_ne_p hc]
          show Ex (d + 1) kX10_dryPlaces 28 [some (vR (10, 0, 0)), some (vI x1), some (vI x2)] [vI x1] hp _
          refine Ex.go 2 (pc' := 33) (ls' := [some (vR (10, 0, 0)), some (vI x1), some (vI x2)]) (st' := [vI 1, vI x1]) (hp' := hp) (fun _ => rfl) ?_
          exact exX10_dryPlaces_33 (fun q0 q1 q2 q3 hv => ih q0 q1 q2 q3 hv) h
        · rw [if_neg hc] at h
          rw [brI_ne_n hc]
          show Ex (d + 1) kX10_dryPlaces 32 [some (vR (10, 0, 0)), some (vI x1), some (vI x2)] [vI x1] hp _
          refine Ex.go 1 (pc' := 33) (ls' := [some (vR (10, 0, 0)), some (vI x1), some (vI x2)]) (st' := [vI 0, vI x1]) (hp' := hp) (fun _ => rfl) ?_
          exact exX10_dryPlaces_33 (fun q0 q1 q2 q3 hv => ih q0 q1 q2 q3 hv) h
      · rw [if_neg hc] at h
        cases h
    · rw [if_neg hc] at h
      rw [brI_ge_n hc]
      show Ex (d + 1) kX10_dryPlaces 44 [some (vR (10, 0, 0)), some (vI x1), some (vI x2)] [] hp _
      refine Ex.go 1 (pc' := 45) (ls' := [some (vR (10, 0, 0)), some (vI x1), some (vI x2)]) (st' := [vI x1]) (hp' := hp) (fun _ => rfl) ?_
      cases h
      exact Ex.ret rfl rfl rfl
def fX10_dryPlaces (hp : HP) : Option Int32 := fX10_dryPlaces_4 FU 0 0 hp
theorem exX10_dryPlaces {d : Nat} {hp : HP} {v : Int32} (h : fX10_dryPlaces hp = some v) : Calls (d + 1) 229 [vR (10, 0, 0)] hp (rsI v hp) := by
  replace h : (fX10_dryPlaces_4 FU 0 0 hp) = some v := h
  show Ex (d + 1) kX10_dryPlaces 0 [some (vR (10, 0, 0)), none, none] [] hp _
  refine Ex.go 4 (pc' := 4) (ls' := [some (vR (10, 0, 0)), some (vI 0), some (vI 0)]) (st' := []) (hp' := hp) (fun _ => rfl) ?_
  exact exX10_dryPlaces_4 FU _ _ _ _ h
def fX10_head_22 (x1 : Int32) (y1 : Int32) (hp : HP) : Option (Int32 × HP) := (fX10_refuse y1 2 hp).bind fun q2 => if q2.1 = 0 then (if x1 = 0 then (some ((q2.2 (11, 22, 0) 7), q2.2)) else (if x1 = 1 then (some ((q2.2 (11, 22, 0) 8), q2.2)) else (if x1 = 2 then ((fX10_allInk q2.2).bind fun v4 => some (v4, q2.2)) else ((fX10_dryPlaces q2.2).bind fun v3 => some (v3, q2.2))))) else (some (0, q2.2))
theorem exX10_head_22 {d : Nat} {x1 : Int32} {y1 : Int32} {hp : HP} {v : (Int32 × HP)} (h : fX10_head_22 x1 y1 hp = some v) : Ex (d + 2) kX10_head 22 [some (vR (10, 0, 0)), some (vI x1)] [vI y1, vR (10, 0, 0)] hp (rsI v.1 v.2) := by
  replace h : ((fX10_refuse y1 2 hp).bind fun q2 => if q2.1 = 0 then (if x1 = 0 then (some ((q2.2 (11, 22, 0) 7), q2.2)) else (if x1 = 1 then (some ((q2.2 (11, 22, 0) 8), q2.2)) else (if x1 = 2 then ((fX10_allInk q2.2).bind fun v4 => some (v4, q2.2)) else ((fX10_dryPlaces q2.2).bind fun v3 => some (v3, q2.2))))) else (some (0, q2.2))) = some v := h
  refine Ex.go 1 (pc' := 23) (ls' := [some (vR (10, 0, 0)), some (vI x1)]) (st' := [vI 2, vI y1, vR (10, 0, 0)]) (hp' := hp) (fun _ => rfl) ?_
  obtain ⟨q2, hv, h⟩ := Option.bind_eq_some_iff.mp h
  refine Ex.call (args := [vR (10, 0, 0), vI y1, vI 2]) (rest := []) rfl rfl rfl (exX10_refuse (d := d + 1) hv) ?_
  show Ex (d + 2) kX10_head 26 [some (vR (10, 0, 0)), some (vI x1)] [vI q2.1] q2.2 _
  refine Ex.ifc rfl ?_
  by_cases hc : q2.1 = 0
  · rw [if_pos hc] at h
    rw [brI_eq_p hc]
    show Ex (d + 2) kX10_head 31 [some (vR (10, 0, 0)), some (vI x1)] [] q2.2 _
    refine Ex.go 1 (pc' := 32) (ls' := [some (vR (10, 0, 0)), some (vI x1)]) (st' := [vI x1]) (hp' := q2.2) (fun _ => rfl) ?_
    refine Ex.ifc rfl ?_
    by_cases hc : x1 = 0
    · rw [if_pos hc] at h
      rw [brI_ne_p hc]
      show Ex (d + 2) kX10_head 35 [some (vR (10, 0, 0)), some (vI x1)] [] q2.2 _
      refine Ex.go 3 (pc' := 41) (ls' := [some (vR (10, 0, 0)), some (vI x1)]) (st' := [vI 7, vR (11, 22, 0)]) (hp' := q2.2) (fun _ => rfl) ?_
      refine Ex.iald (k := 7) rfl rfl (by decide) (by decide) ?_
      show Ex (d + 2) kX10_head 42 [some (vR (10, 0, 0)), some (vI x1)] [vI (q2.2 (11, 22, 0) 7)] q2.2 _
      refine Ex.go 1 (pc' := 76) (ls' := [some (vR (10, 0, 0)), some (vI x1)]) (st' := [vI (q2.2 (11, 22, 0) 7)]) (hp' := q2.2) (fun _ => rfl) ?_
      cases h
      exact Ex.ret rfl rfl rfl
    · rw [if_neg hc] at h
      rw [brI_ne_n hc]
      show Ex (d + 2) kX10_head 45 [some (vR (10, 0, 0)), some (vI x1)] [] q2.2 _
      refine Ex.go 2 (pc' := 47) (ls' := [some (vR (10, 0, 0)), some (vI x1)]) (st' := [vI 1, vI x1]) (hp' := q2.2) (fun _ => rfl) ?_
      refine Ex.icmp rfl ?_
      by_cases hc : x1 = 1
      · rw [if_pos hc] at h
        rw [brI_ne_p hc]
        show Ex (d + 2) kX10_head 50 [some (vR (10, 0, 0)), some (vI x1)] [] q2.2 _
        refine Ex.go 3 (pc' := 56) (ls' := [some (vR (10, 0, 0)), some (vI x1)]) (st' := [vI 8, vR (11, 22, 0)]) (hp' := q2.2) (fun _ => rfl) ?_
        refine Ex.iald (k := 8) rfl rfl (by decide) (by decide) ?_
        show Ex (d + 2) kX10_head 57 [some (vR (10, 0, 0)), some (vI x1)] [vI (q2.2 (11, 22, 0) 8)] q2.2 _
        refine Ex.go 1 (pc' := 76) (ls' := [some (vR (10, 0, 0)), some (vI x1)]) (st' := [vI (q2.2 (11, 22, 0) 8)]) (hp' := q2.2) (fun _ => rfl) ?_
        cases h
        exact Ex.ret rfl rfl rfl
      · rw [if_neg hc] at h
        rw [brI_ne_n hc]
        show Ex (d + 2) kX10_head 60 [some (vR (10, 0, 0)), some (vI x1)] [] q2.2 _
        refine Ex.go 2 (pc' := 62) (ls' := [some (vR (10, 0, 0)), some (vI x1)]) (st' := [vI 2, vI x1]) (hp' := q2.2) (fun _ => rfl) ?_
        refine Ex.icmp rfl ?_
        by_cases hc : x1 = 2
        · rw [if_pos hc] at h
          rw [brI_ne_p hc]
          show Ex (d + 2) kX10_head 65 [some (vR (10, 0, 0)), some (vI x1)] [] q2.2 _
          refine Ex.go 1 (pc' := 66) (ls' := [some (vR (10, 0, 0)), some (vI x1)]) (st' := [vR (10, 0, 0)]) (hp' := q2.2) (fun _ => rfl) ?_
          obtain ⟨v4, hv, h⟩ := Option.bind_eq_some_iff.mp h
          refine Ex.call (args := [vR (10, 0, 0)]) (rest := []) rfl rfl rfl (exX10_allInk (d := d + 0) hv) ?_
          show Ex (d + 2) kX10_head 69 [some (vR (10, 0, 0)), some (vI x1)] [vI v4] q2.2 _
          refine Ex.go 1 (pc' := 76) (ls' := [some (vR (10, 0, 0)), some (vI x1)]) (st' := [vI v4]) (hp' := q2.2) (fun _ => rfl) ?_
          cases h
          exact Ex.ret rfl rfl rfl
        · rw [if_neg hc] at h
          rw [brI_ne_n hc]
          show Ex (d + 2) kX10_head 72 [some (vR (10, 0, 0)), some (vI x1)] [] q2.2 _
          refine Ex.go 1 (pc' := 73) (ls' := [some (vR (10, 0, 0)), some (vI x1)]) (st' := [vR (10, 0, 0)]) (hp' := q2.2) (fun _ => rfl) ?_
          obtain ⟨v3, hv, h⟩ := Option.bind_eq_some_iff.mp h
          refine Ex.call (args := [vR (10, 0, 0)]) (rest := []) rfl rfl rfl (exX10_dryPlaces (d := d + 0) hv) ?_
          show Ex (d + 2) kX10_head 76 [some (vR (10, 0, 0)), some (vI x1)] [vI v3] q2.2 _
          cases h
          exact Ex.ret rfl rfl rfl
  · rw [if_neg hc] at h
    rw [brI_eq_n hc]
    show Ex (d + 2) kX10_head 29 [some (vR (10, 0, 0)), some (vI x1)] [] q2.2 _
    refine Ex.go 1 (pc' := 30) (ls' := [some (vR (10, 0, 0)), some (vI x1)]) (st' := [vI 0]) (hp' := q2.2) (fun _ => rfl) ?_
    cases h
    exact Ex.ret rfl rfl rfl
def fX10_head (a0 : Int32) (hp : HP) : Option (Int32 × HP) := (fX10_notLoaded hp).bind fun q6 => if q6.1 = 0 then ((fX10_in a0 0 3 q6.2).bind fun v7 => if v7 = 0 then (fX10_head_22 a0 1 q6.2) else (fX10_head_22 a0 0 q6.2)) else (some (0, q6.2))
theorem exX10_head {d : Nat} {a0 : Int32} {hp : HP} {v : (Int32 × HP)} (h : fX10_head a0 hp = some v) : Calls (d + 2) 230 [vR (10, 0, 0), vI a0] hp (rsI v.1 v.2) := by
  replace h : ((fX10_notLoaded hp).bind fun q6 => if q6.1 = 0 then ((fX10_in a0 0 3 q6.2).bind fun v7 => if v7 = 0 then (fX10_head_22 a0 1 q6.2) else (fX10_head_22 a0 0 q6.2)) else (some (0, q6.2))) = some v := h
  show Ex (d + 2) kX10_head 0 [some (vR (10, 0, 0)), some (vI a0)] [] hp _
  refine Ex.go 1 (pc' := 1) (ls' := [some (vR (10, 0, 0)), some (vI a0)]) (st' := [vR (10, 0, 0)]) (hp' := hp) (fun _ => rfl) ?_
  obtain ⟨q6, hv, h⟩ := Option.bind_eq_some_iff.mp h
  refine Ex.call (args := [vR (10, 0, 0)]) (rest := []) rfl rfl rfl (exX10_notLoaded (d := d + 0) hv) ?_
  show Ex (d + 2) kX10_head 4 [some (vR (10, 0, 0)), some (vI a0)] [vI q6.1] q6.2 _
  refine Ex.ifc rfl ?_
  by_cases hc : q6.1 = 0
  · rw [if_pos hc] at h
    rw [brI_ne_p hc]
    show Ex (d + 2) kX10_head 7 [some (vR (10, 0, 0)), some (vI a0)] [] q6.2 _
    refine Ex.go 4 (pc' := 11) (ls' := [some (vR (10, 0, 0)), some (vI a0)]) (st' := [vI 3, vI 0, vI a0, vR (10, 0, 0)]) (hp' := q6.2) (fun _ => rfl) ?_
    obtain ⟨v7, hv, h⟩ := Option.bind_eq_some_iff.mp h
    refine Ex.call (args := [vI a0, vI 0, vI 3]) (rest := [vR (10, 0, 0)]) rfl rfl rfl (exX10_in (d := d + 1) hv) ?_
    show Ex (d + 2) kX10_head 14 [some (vR (10, 0, 0)), some (vI a0)] [vI v7, vR (10, 0, 0)] q6.2 _
    refine Ex.ifc rfl ?_
    by_cases hc : v7 = 0
    · rw [if_pos hc] at h
      rw [brI_ne_p hc]
      show Ex (d + 2) kX10_head 17 [some (vR (10, 0, 0)), some (vI a0)] [vR (10, 0, 0)] q6.2 _
      refine Ex.go 2 (pc' := 22) (ls' := [some (vR (10, 0, 0)), some (vI a0)]) (st' := [vI 1, vR (10, 0, 0)]) (hp' := q6.2) (fun _ => rfl) ?_
      exact exX10_head_22 h
    · rw [if_neg hc] at h
      rw [brI_ne_n hc]
      show Ex (d + 2) kX10_head 21 [some (vR (10, 0, 0)), some (vI a0)] [vR (10, 0, 0)] q6.2 _
      refine Ex.go 1 (pc' := 22) (ls' := [some (vR (10, 0, 0)), some (vI a0)]) (st' := [vI 0, vR (10, 0, 0)]) (hp' := q6.2) (fun _ => rfl) ?_
      exact exX10_head_22 h
  · rw [if_neg hc] at h
    rw [brI_ne_n hc]
    show Ex (d + 2) kX10_head 29 [some (vR (10, 0, 0)), some (vI a0)] [] q6.2 _
    refine Ex.go 1 (pc' := 30) (ls' := [some (vR (10, 0, 0)), some (vI a0)]) (st' := [vI 0]) (hp' := q6.2) (fun _ => rfl) ?_
    cases h
    exact Ex.ret rfl rfl rfl
def fX10_isLine (a0 : Int32) (hp : HP) : Option Int32 := (fX10_its 1 hp).bind fun v1 => (fX10_in a0 0 (v1 - 1) hp).bind fun v2 => if isB v2 = true then some v2 else none
theorem exX10_isLine {d : Nat} {a0 : Int32} {hp : HP} {v : Int32} (h : fX10_isLine a0 hp = some v) : Calls (d + 1) 231 [vR (10, 0, 0), vI a0] hp (rsI v hp) := by
  replace h : ((fX10_its 1 hp).bind fun v1 => (fX10_in a0 0 (v1 - 1) hp).bind fun v2 => if isB v2 = true then some v2 else none) = some v := h
  show Ex (d + 1) kX10_isLine 0 [some (vR (10, 0, 0)), some (vI a0)] [] hp _
  refine Ex.go 4 (pc' := 4) (ls' := [some (vR (10, 0, 0)), some (vI a0)]) (st' := [vI 1, vR (10, 0, 0), vI 0, vI a0]) (hp' := hp) (fun _ => rfl) ?_
  obtain ⟨v1, hv, h⟩ := Option.bind_eq_some_iff.mp h
  refine Ex.call (args := [vR (10, 0, 0), vI 1]) (rest := [vI 0, vI a0]) rfl rfl rfl (exX10_its (d := d + 0) hv) ?_
  show Ex (d + 1) kX10_isLine 7 [some (vR (10, 0, 0)), some (vI a0)] [vI v1, vI 0, vI a0] hp _
  refine Ex.go 2 (pc' := 9) (ls' := [some (vR (10, 0, 0)), some (vI a0)]) (st' := [vI (v1 - 1), vI 0, vI a0]) (hp' := hp) (fun _ => rfl) ?_
  obtain ⟨v2, hv, h⟩ := Option.bind_eq_some_iff.mp h
  refine Ex.call (args := [vI a0, vI 0, vI (v1 - 1)]) (rest := []) rfl rfl rfl (exX10_in (d := d + 0) hv) ?_
  show Ex (d + 1) kX10_isLine 12 [some (vR (10, 0, 0)), some (vI a0)] [vI v2] hp _
  by_cases hc : isB v2 = true
  · rw [if_pos hc] at h
    cases h
    exact Ex.retz rfl hc rfl
  · rw [if_neg hc] at h
    cases h
def fX10_isColumn (a0 : Int32) (hp : HP) : Option Int32 := (fX10_its 0 hp).bind fun v1 => (fX10_in a0 0 (v1 - 1) hp).bind fun v2 => if isB v2 = true then some v2 else none
theorem exX10_isColumn {d : Nat} {a0 : Int32} {hp : HP} {v : Int32} (h : fX10_isColumn a0 hp = some v) : Calls (d + 1) 232 [vR (10, 0, 0), vI a0] hp (rsI v hp) := by
  replace h : ((fX10_its 0 hp).bind fun v1 => (fX10_in a0 0 (v1 - 1) hp).bind fun v2 => if isB v2 = true then some v2 else none) = some v := h
  show Ex (d + 1) kX10_isColumn 0 [some (vR (10, 0, 0)), some (vI a0)] [] hp _
  refine Ex.go 4 (pc' := 4) (ls' := [some (vR (10, 0, 0)), some (vI a0)]) (st' := [vI 0, vR (10, 0, 0), vI 0, vI a0]) (hp' := hp) (fun _ => rfl) ?_
  obtain ⟨v1, hv, h⟩ := Option.bind_eq_some_iff.mp h
  refine Ex.call (args := [vR (10, 0, 0), vI 0]) (rest := [vI 0, vI a0]) rfl rfl rfl (exX10_its (d := d + 0) hv) ?_
  show Ex (d + 1) kX10_isColumn 7 [some (vR (10, 0, 0)), some (vI a0)] [vI v1, vI 0, vI a0] hp _
  refine Ex.go 2 (pc' := 9) (ls' := [some (vR (10, 0, 0)), some (vI a0)]) (st' := [vI (v1 - 1), vI 0, vI a0]) (hp' := hp) (fun _ => rfl) ?_
  obtain ⟨v2, hv, h⟩ := Option.bind_eq_some_iff.mp h
  refine Ex.call (args := [vI a0, vI 0, vI (v1 - 1)]) (rest := []) rfl rfl rfl (exX10_in (d := d + 0) hv) ?_
  show Ex (d + 1) kX10_isColumn 12 [some (vR (10, 0, 0)), some (vI a0)] [vI v2] hp _
  by_cases hc : isB v2 = true
  · rw [if_pos hc] at h
    cases h
    exact Ex.retz rfl hc rfl
  · rw [if_neg hc] at h
    cases h
def fX10_noPlace_29 (y1 : Int32) (hp : HP) : Option (Int32 × HP) := (fX10_refuse y1 2 hp).bind fun q2 => if q2.1 = 0 then (some (0, q2.2)) else (some (1, q2.2))
theorem exX10_noPlace_29 {d : Nat} {y1 : Int32} {j1 : Option VL} {j2 : Option VL} {hp : HP} {v : (Int32 × HP)} (h : fX10_noPlace_29 y1 hp = some v) : Ex (d + 2) kX10_noPlace 29 [some (vR (10, 0, 0)), j1, j2] [vI y1, vR (10, 0, 0)] hp (rsI v.1 v.2) := by
  replace h : ((fX10_refuse y1 2 hp).bind fun q2 => if q2.1 = 0 then (some (0, q2.2)) else (some (1, q2.2))) = some v := h
  refine Ex.go 1 (pc' := 30) (ls' := [some (vR (10, 0, 0)), j1, j2]) (st' := [vI 2, vI y1, vR (10, 0, 0)]) (hp' := hp) (fun _ => rfl) ?_
  obtain ⟨q2, hv, h⟩ := Option.bind_eq_some_iff.mp h
  refine Ex.call (args := [vR (10, 0, 0), vI y1, vI 2]) (rest := []) rfl rfl rfl (exX10_refuse (d := d + 1) hv) ?_
  show Ex (d + 2) kX10_noPlace 33 [some (vR (10, 0, 0)), j1, j2] [vI q2.1] q2.2 _
  refine Ex.ifc rfl ?_
  by_cases hc : q2.1 = 0
  · rw [if_pos hc] at h
    rw [brI_eq_p hc]
    show Ex (d + 2) kX10_noPlace 40 [some (vR (10, 0, 0)), j1, j2] [] q2.2 _
    refine Ex.go 1 (pc' := 41) (ls' := [some (vR (10, 0, 0)), j1, j2]) (st' := [vI 0]) (hp' := q2.2) (fun _ => rfl) ?_
    cases h
    exact Ex.ret rfl rfl rfl
  · rw [if_neg hc] at h
    rw [brI_eq_n hc]
    show Ex (d + 2) kX10_noPlace 36 [some (vR (10, 0, 0)), j1, j2] [] q2.2 _
    refine Ex.go 2 (pc' := 41) (ls' := [some (vR (10, 0, 0)), j1, j2]) (st' := [vI 1]) (hp' := q2.2) (fun _ => rfl) ?_
    cases h
    exact Ex.ret rfl rfl rfl
def fX10_noPlace (a0 : Int32) (a1 : Int32) (hp : HP) : Option (Int32 × HP) := (fX10_notLoaded hp).bind fun q4 => if q4.1 = 0 then ((fX10_isLine a0 q4.2).bind fun v5 => if v5 = 0 then (fX10_noPlace_29 1 q4.2) else ((fX10_isColumn a1 q4.2).bind fun v6 => if v6 = 0 then (fX10_noPlace_29 1 q4.2) else (fX10_noPlace_29 0 q4.2))) else (some (1, q4.2))
theorem exX10_noPlace {d : Nat} {a0 : Int32} {a1 : Int32} {hp : HP} {v : (Int32 × HP)} (h : fX10_noPlace a0 a1 hp = some v) : Calls (d + 2) 233 [vR (10, 0, 0), vI a0, vI a1] hp (rsI v.1 v.2) := by
  replace h : ((fX10_notLoaded hp).bind fun q4 => if q4.1 = 0 then ((fX10_isLine a0 q4.2).bind fun v5 => if v5 = 0 then (fX10_noPlace_29 1 q4.2) else ((fX10_isColumn a1 q4.2).bind fun v6 => if v6 = 0 then (fX10_noPlace_29 1 q4.2) else (fX10_noPlace_29 0 q4.2))) else (some (1, q4.2))) = some v := h
  show Ex (d + 2) kX10_noPlace 0 [some (vR (10, 0, 0)), some (vI a0), some (vI a1)] [] hp _
  refine Ex.go 1 (pc' := 1) (ls' := [some (vR (10, 0, 0)), some (vI a0), some (vI a1)]) (st' := [vR (10, 0, 0)]) (hp' := hp) (fun _ => rfl) ?_
  obtain ⟨q4, hv, h⟩ := Option.bind_eq_some_iff.mp h
  refine Ex.call (args := [vR (10, 0, 0)]) (rest := []) rfl rfl rfl (exX10_notLoaded (d := d + 0) hv) ?_
  show Ex (d + 2) kX10_noPlace 4 [some (vR (10, 0, 0)), some (vI a0), some (vI a1)] [vI q4.1] q4.2 _
  refine Ex.ifc rfl ?_
  by_cases hc : q4.1 = 0
  · rw [if_pos hc] at h
    rw [brI_ne_p hc]
    show Ex (d + 2) kX10_noPlace 7 [some (vR (10, 0, 0)), some (vI a0), some (vI a1)] [] q4.2 _
    refine Ex.go 3 (pc' := 10) (ls' := [some (vR (10, 0, 0)), some (vI a0), some (vI a1)]) (st' := [vI a0, vR (10, 0, 0), vR (10, 0, 0)]) (hp' := q4.2) (fun _ => rfl) ?_
    obtain ⟨v5, hv, h⟩ := Option.bind_eq_some_iff.mp h
    refine Ex.call (args := [vR (10, 0, 0), vI a0]) (rest := [vR (10, 0, 0)]) rfl rfl rfl (exX10_isLine (d := d + 0) hv) ?_
    show Ex (d + 2) kX10_noPlace 13 [some (vR (10, 0, 0)), some (vI a0), some (vI a1)] [vI v5, vR (10, 0, 0)] q4.2 _
    refine Ex.ifc rfl ?_
    by_cases hc : v5 = 0
    · rw [if_pos hc] at h
      rw [brI_eq_p hc]
      show Ex (d + 2) kX10_noPlace 24 [some (vR (10, 0, 0)), some (vI a0), some (vI a1)] [vR (10, 0, 0)] q4.2 _
      refine Ex.go 2 (pc' := 29) (ls' := [some (vR (10, 0, 0)), some (vI a0), some (vI a1)]) (st' := [vI 1, vR (10, 0, 0)]) (hp' := q4.2) (fun _ => rfl) ?_
      exact exX10_noPlace_29 h
    · rw [if_neg hc] at h
      rw [brI_eq_n hc]
      show Ex (d + 2) kX10_noPlace 16 [some (vR (10, 0, 0)), some (vI a0), some (vI a1)] [vR (10, 0, 0)] q4.2 _
      refine Ex.go 2 (pc' := 18) (ls' := [some (vR (10, 0, 0)), some (vI a0), some (vI a1)]) (st' := [vI a1, vR (10, 0, 0), vR (10, 0, 0)]) (hp' := q4.2) (fun _ => rfl) ?_
      obtain ⟨v6, hv, h⟩ := Option.bind_eq_some_iff.mp h
      refine Ex.call (args := [vR (10, 0, 0), vI a1]) (rest := [vR (10, 0, 0)]) rfl rfl rfl (exX10_isColumn (d := d + 0) hv) ?_
      show Ex (d + 2) kX10_noPlace 21 [some (vR (10, 0, 0)), some (vI a0), some (vI a1)] [vI v6, vR (10, 0, 0)] q4.2 _
      refine Ex.ifc rfl ?_
      by_cases hc : v6 = 0
      · rw [if_pos hc] at h
        rw [brI_ne_p hc]
        show Ex (d + 2) kX10_noPlace 24 [some (vR (10, 0, 0)), some (vI a0), some (vI a1)] [vR (10, 0, 0)] q4.2 _
        refine Ex.go 2 (pc' := 29) (ls' := [some (vR (10, 0, 0)), some (vI a0), some (vI a1)]) (st' := [vI 1, vR (10, 0, 0)]) (hp' := q4.2) (fun _ => rfl) ?_
        exact exX10_noPlace_29 h
      · rw [if_neg hc] at h
        rw [brI_ne_n hc]
        show Ex (d + 2) kX10_noPlace 28 [some (vR (10, 0, 0)), some (vI a0), some (vI a1)] [vR (10, 0, 0)] q4.2 _
        refine Ex.go 1 (pc' := 29) (ls' := [some (vR (10, 0, 0)), some (vI a0), some (vI a1)]) (st' := [vI 0, vR (10, 0, 0)]) (hp' := q4.2) (fun _ => rfl) ?_
        exact exX10_noPlace_29 h
  · rw [if_neg hc] at h
    rw [brI_ne_n hc]
    show Ex (d + 2) kX10_noPlace 36 [some (vR (10, 0, 0)), some (vI a0), some (vI a1)] [] q4.2 _
    refine Ex.go 2 (pc' := 41) (ls' := [some (vR (10, 0, 0)), some (vI a0), some (vI a1)]) (st' := [vI 1]) (hp' := q4.2) (fun _ => rfl) ?_
    cases h
    exact Ex.ret rfl rfl rfl
def fX10_noLine_21 (y1 : Int32) (hp : HP) : Option (Int32 × HP) := (fX10_refuse y1 2 hp).bind fun q2 => if q2.1 = 0 then (some (0, q2.2)) else (some (1, q2.2))
theorem exX10_noLine_21 {d : Nat} {y1 : Int32} {j1 : Option VL} {hp : HP} {v : (Int32 × HP)} (h : fX10_noLine_21 y1 hp = some v) : Ex (d + 2) kX10_noLine 21 [some (vR (10, 0, 0)), j1] [vI y1, vR (10, 0, 0)] hp (rsI v.1 v.2) := by
  replace h : ((fX10_refuse y1 2 hp).bind fun q2 => if q2.1 = 0 then (some (0, q2.2)) else (some (1, q2.2))) = some v := h
  refine Ex.go 1 (pc' := 22) (ls' := [some (vR (10, 0, 0)), j1]) (st' := [vI 2, vI y1, vR (10, 0, 0)]) (hp' := hp) (fun _ => rfl) ?_
  obtain ⟨q2, hv, h⟩ := Option.bind_eq_some_iff.mp h
  refine Ex.call (args := [vR (10, 0, 0), vI y1, vI 2]) (rest := []) rfl rfl rfl (exX10_refuse (d := d + 1) hv) ?_
  show Ex (d + 2) kX10_noLine 25 [some (vR (10, 0, 0)), j1] [vI q2.1] q2.2 _
  refine Ex.ifc rfl ?_
  by_cases hc : q2.1 = 0
  · rw [if_pos hc] at h
    rw [brI_eq_p hc]
    show Ex (d + 2) kX10_noLine 32 [some (vR (10, 0, 0)), j1] [] q2.2 _
    refine Ex.go 1 (pc' := 33) (ls' := [some (vR (10, 0, 0)), j1]) (st' := [vI 0]) (hp' := q2.2) (fun _ => rfl) ?_
    cases h
    exact Ex.ret rfl rfl rfl
  · rw [if_neg hc] at h
    rw [brI_eq_n hc]
    show Ex (d + 2) kX10_noLine 28 [some (vR (10, 0, 0)), j1] [] q2.2 _
    refine Ex.go 2 (pc' := 33) (ls' := [some (vR (10, 0, 0)), j1]) (st' := [vI 1]) (hp' := q2.2) (fun _ => rfl) ?_
    cases h
    exact Ex.ret rfl rfl rfl
def fX10_noLine (a0 : Int32) (hp : HP) : Option (Int32 × HP) := (fX10_notLoaded hp).bind fun q4 => if q4.1 = 0 then ((fX10_isLine a0 q4.2).bind fun v5 => if v5 = 0 then (fX10_noLine_21 1 q4.2) else (fX10_noLine_21 0 q4.2)) else (some (1, q4.2))
theorem exX10_noLine {d : Nat} {a0 : Int32} {hp : HP} {v : (Int32 × HP)} (h : fX10_noLine a0 hp = some v) : Calls (d + 2) 234 [vR (10, 0, 0), vI a0] hp (rsI v.1 v.2) := by
  replace h : ((fX10_notLoaded hp).bind fun q4 => if q4.1 = 0 then ((fX10_isLine a0 q4.2).bind fun v5 => if v5 = 0 then (fX10_noLine_21 1 q4.2) else (fX10_noLine_21 0 q4.2)) else (some (1, q4.2))) = some v := h
  show Ex (d + 2) kX10_noLine 0 [some (vR (10, 0, 0)), some (vI a0)] [] hp _
  refine Ex.go 1 (pc' := 1) (ls' := [some (vR (10, 0, 0)), some (vI a0)]) (st' := [vR (10, 0, 0)]) (hp' := hp) (fun _ => rfl) ?_
  obtain ⟨q4, hv, h⟩ := Option.bind_eq_some_iff.mp h
  refine Ex.call (args := [vR (10, 0, 0)]) (rest := []) rfl rfl rfl (exX10_notLoaded (d := d + 0) hv) ?_
  show Ex (d + 2) kX10_noLine 4 [some (vR (10, 0, 0)), some (vI a0)] [vI q4.1] q4.2 _
  refine Ex.ifc rfl ?_
  by_cases hc : q4.1 = 0
  · rw [if_pos hc] at h
    rw [brI_ne_p hc]
    show Ex (d + 2) kX10_noLine 7 [some (vR (10, 0, 0)), some (vI a0)] [] q4.2 _
    refine Ex.go 3 (pc' := 10) (ls' := [some (vR (10, 0, 0)), some (vI a0)]) (st' := [vI a0, vR (10, 0, 0), vR (10, 0, 0)]) (hp' := q4.2) (fun _ => rfl) ?_
    obtain ⟨v5, hv, h⟩ := Option.bind_eq_some_iff.mp h
    refine Ex.call (args := [vR (10, 0, 0), vI a0]) (rest := [vR (10, 0, 0)]) rfl rfl rfl (exX10_isLine (d := d + 0) hv) ?_
    show Ex (d + 2) kX10_noLine 13 [some (vR (10, 0, 0)), some (vI a0)] [vI v5, vR (10, 0, 0)] q4.2 _
    refine Ex.ifc rfl ?_
    by_cases hc : v5 = 0
    · rw [if_pos hc] at h
      rw [brI_ne_p hc]
      show Ex (d + 2) kX10_noLine 16 [some (vR (10, 0, 0)), some (vI a0)] [vR (10, 0, 0)] q4.2 _
      refine Ex.go 2 (pc' := 21) (ls' := [some (vR (10, 0, 0)), some (vI a0)]) (st' := [vI 1, vR (10, 0, 0)]) (hp' := q4.2) (fun _ => rfl) ?_
      exact exX10_noLine_21 h
    · rw [if_neg hc] at h
      rw [brI_ne_n hc]
      show Ex (d + 2) kX10_noLine 20 [some (vR (10, 0, 0)), some (vI a0)] [vR (10, 0, 0)] q4.2 _
      refine Ex.go 1 (pc' := 21) (ls' := [some (vR (10, 0, 0)), some (vI a0)]) (st' := [vI 0, vR (10, 0, 0)]) (hp' := q4.2) (fun _ => rfl) ?_
      exact exX10_noLine_21 h
  · rw [if_neg hc] at h
    rw [brI_ne_n hc]
    show Ex (d + 2) kX10_noLine 28 [some (vR (10, 0, 0)), some (vI a0)] [] q4.2 _
    refine Ex.go 2 (pc' := 33) (ls' := [some (vR (10, 0, 0)), some (vI a0)]) (st' := [vI 1]) (hp' := q4.2) (fun _ => rfl) ?_
    cases h
    exact Ex.ret rfl rfl rfl
def fX10_signAt (a0 : Int32) (a1 : Int32) (hp : HP) : Option Int32 := if inb ((190 + (40 * a0)) + a1) (alen (11, 22, 0)) = true then (some (hp (11, 22, 0) ((190 + (40 * a0)) + a1).toNatClampNeg)) else none
theorem exX10_signAt {d : Nat} {a0 : Int32} {a1 : Int32} {hp : HP} {v : Int32} (h : fX10_signAt a0 a1 hp = some v) : Calls (d + 0) 235 [vR (10, 0, 0), vI a0, vI a1] hp (rsI v hp) := by
  replace h : (if inb ((190 + (40 * a0)) + a1) (alen (11, 22, 0)) = true then (some (hp (11, 22, 0) ((190 + (40 * a0)) + a1).toNatClampNeg)) else none) = some v := h
  show Ex (d + 0) kX10_signAt 0 [some (vR (10, 0, 0)), some (vI a0), some (vI a1)] [] hp _
  refine Ex.go 9 (pc' := 14) (ls' := [some (vR (10, 0, 0)), some (vI a0), some (vI a1)]) (st' := [vI ((190 + (40 * a0)) + a1), vR (11, 22, 0)]) (hp' := hp) (fun _ => rfl) ?_
  by_cases hc : inb ((190 + (40 * a0)) + a1) (alen (11, 22, 0)) = true
  · rw [if_pos hc] at h
    refine Ex.iald rfl rfl hc rfl ?_
    show Ex (d + 0) kX10_signAt 15 [some (vR (10, 0, 0)), some (vI a0), some (vI a1)] [vI (hp (11, 22, 0) ((190 + (40 * a0)) + a1).toNatClampNeg)] hp _
    cases h
    exact Ex.ret rfl rfl rfl
  · rw [if_neg hc] at h
    cases h
def fX10_darkAt (a0 : Int32) (a1 : Int32) (hp : HP) : Option Int32 := if inb ((670 + (40 * a0)) + a1) (alen (11, 22, 0)) = true then (some (hp (11, 22, 0) ((670 + (40 * a0)) + a1).toNatClampNeg)) else none
theorem exX10_darkAt {d : Nat} {a0 : Int32} {a1 : Int32} {hp : HP} {v : Int32} (h : fX10_darkAt a0 a1 hp = some v) : Calls (d + 0) 236 [vR (10, 0, 0), vI a0, vI a1] hp (rsI v hp) := by
  replace h : (if inb ((670 + (40 * a0)) + a1) (alen (11, 22, 0)) = true then (some (hp (11, 22, 0) ((670 + (40 * a0)) + a1).toNatClampNeg)) else none) = some v := h
  show Ex (d + 0) kX10_darkAt 0 [some (vR (10, 0, 0)), some (vI a0), some (vI a1)] [] hp _
  refine Ex.go 9 (pc' := 14) (ls' := [some (vR (10, 0, 0)), some (vI a0), some (vI a1)]) (st' := [vI ((670 + (40 * a0)) + a1), vR (11, 22, 0)]) (hp' := hp) (fun _ => rfl) ?_
  by_cases hc : inb ((670 + (40 * a0)) + a1) (alen (11, 22, 0)) = true
  · rw [if_pos hc] at h
    refine Ex.iald rfl rfl hc rfl ?_
    show Ex (d + 0) kX10_darkAt 15 [some (vR (10, 0, 0)), some (vI a0), some (vI a1)] [vI (hp (11, 22, 0) ((670 + (40 * a0)) + a1).toNatClampNeg)] hp _
    cases h
    exact Ex.ret rfl rfl rfl
  · rw [if_neg hc] at h
    cases h
def fX10_sign (a0 : Int32) (a1 : Int32) (hp : HP) : Option (Int32 × HP) := (fX10_noPlace a0 a1 hp).bind fun q2 => if q2.1 = 0 then ((fX10_signAt a0 a1 q2.2).bind fun v3 => if v3 = 0 then (some (32, q2.2)) else ((fX10_signAt a0 a1 q2.2).bind fun v4 => some (v4, q2.2))) else (some (0, q2.2))
theorem exX10_sign {d : Nat} {a0 : Int32} {a1 : Int32} {hp : HP} {v : (Int32 × HP)} (h : fX10_sign a0 a1 hp = some v) : Calls (d + 3) 237 [vR (10, 0, 0), vI a0, vI a1] hp (rsI v.1 v.2) := by
  replace h : ((fX10_noPlace a0 a1 hp).bind fun q2 => if q2.1 = 0 then ((fX10_signAt a0 a1 q2.2).bind fun v3 => if v3 = 0 then (some (32, q2.2)) else ((fX10_signAt a0 a1 q2.2).bind fun v4 => some (v4, q2.2))) else (some (0, q2.2))) = some v := h
  show Ex (d + 3) kX10_sign 0 [some (vR (10, 0, 0)), some (vI a0), some (vI a1)] [] hp _
  refine Ex.go 3 (pc' := 3) (ls' := [some (vR (10, 0, 0)), some (vI a0), some (vI a1)]) (st' := [vI a1, vI a0, vR (10, 0, 0)]) (hp' := hp) (fun _ => rfl) ?_
  obtain ⟨q2, hv, h⟩ := Option.bind_eq_some_iff.mp h
  refine Ex.call (args := [vR (10, 0, 0), vI a0, vI a1]) (rest := []) rfl rfl rfl (exX10_noPlace (d := d + 0) hv) ?_
  show Ex (d + 3) kX10_sign 6 [some (vR (10, 0, 0)), some (vI a0), some (vI a1)] [vI q2.1] q2.2 _
  refine Ex.ifc rfl ?_
  by_cases hc : q2.1 = 0
  · rw [if_pos hc] at h
    rw [brI_eq_p hc]
    show Ex (d + 3) kX10_sign 11 [some (vR (10, 0, 0)), some (vI a0), some (vI a1)] [] q2.2 _
    refine Ex.go 3 (pc' := 14) (ls' := [some (vR (10, 0, 0)), some (vI a0), some (vI a1)]) (st' := [vI a1, vI a0, vR (10, 0, 0)]) (hp' := q2.2) (fun _ => rfl) ?_
    obtain ⟨v3, hv, h⟩ := Option.bind_eq_some_iff.mp h
    refine Ex.call (args := [vR (10, 0, 0), vI a0, vI a1]) (rest := []) rfl rfl rfl (exX10_signAt (d := d + 2) hv) ?_
    show Ex (d + 3) kX10_sign 17 [some (vR (10, 0, 0)), some (vI a0), some (vI a1)] [vI v3] q2.2 _
    refine Ex.ifc rfl ?_
    by_cases hc : v3 = 0
    · rw [if_pos hc] at h
      rw [brI_ne_p hc]
      show Ex (d + 3) kX10_sign 20 [some (vR (10, 0, 0)), some (vI a0), some (vI a1)] [] q2.2 _
      refine Ex.go 2 (pc' := 31) (ls' := [some (vR (10, 0, 0)), some (vI a0), some (vI a1)]) (st' := [vI 32]) (hp' := q2.2) (fun _ => rfl) ?_
      cases h
      exact Ex.ret rfl rfl rfl
    · rw [if_neg hc] at h
      rw [brI_ne_n hc]
      show Ex (d + 3) kX10_sign 25 [some (vR (10, 0, 0)), some (vI a0), some (vI a1)] [] q2.2 _
      refine Ex.go 3 (pc' := 28) (ls' := [some (vR (10, 0, 0)), some (vI a0), some (vI a1)]) (st' := [vI a1, vI a0, vR (10, 0, 0)]) (hp' := q2.2) (fun _ => rfl) ?_
      obtain ⟨v4, hv, h⟩ := Option.bind_eq_some_iff.mp h
      refine Ex.call (args := [vR (10, 0, 0), vI a0, vI a1]) (rest := []) rfl rfl rfl (exX10_signAt (d := d + 2) hv) ?_
      show Ex (d + 3) kX10_sign 31 [some (vR (10, 0, 0)), some (vI a0), some (vI a1)] [vI v4] q2.2 _
      cases h
      exact Ex.ret rfl rfl rfl
  · rw [if_neg hc] at h
    rw [brI_eq_n hc]
    show Ex (d + 3) kX10_sign 9 [some (vR (10, 0, 0)), some (vI a0), some (vI a1)] [] q2.2 _
    refine Ex.go 1 (pc' := 10) (ls' := [some (vR (10, 0, 0)), some (vI a0), some (vI a1)]) (st' := [vI 0]) (hp' := q2.2) (fun _ => rfl) ?_
    cases h
    exact Ex.ret rfl rfl rfl
def fX10_darkness (a0 : Int32) (a1 : Int32) (hp : HP) : Option (Int32 × HP) := (fX10_noPlace a0 a1 hp).bind fun q2 => if q2.1 = 0 then ((fX10_darkAt a0 a1 q2.2).bind fun v3 => some (v3, q2.2)) else (some (0, q2.2))
theorem exX10_darkness {d : Nat} {a0 : Int32} {a1 : Int32} {hp : HP} {v : (Int32 × HP)} (h : fX10_darkness a0 a1 hp = some v) : Calls (d + 3) 238 [vR (10, 0, 0), vI a0, vI a1] hp (rsI v.1 v.2) := by
  replace h : ((fX10_noPlace a0 a1 hp).bind fun q2 => if q2.1 = 0 then ((fX10_darkAt a0 a1 q2.2).bind fun v3 => some (v3, q2.2)) else (some (0, q2.2))) = some v := h
  show Ex (d + 3) kX10_darkness 0 [some (vR (10, 0, 0)), some (vI a0), some (vI a1)] [] hp _
  refine Ex.go 3 (pc' := 3) (ls' := [some (vR (10, 0, 0)), some (vI a0), some (vI a1)]) (st' := [vI a1, vI a0, vR (10, 0, 0)]) (hp' := hp) (fun _ => rfl) ?_
  obtain ⟨q2, hv, h⟩ := Option.bind_eq_some_iff.mp h
  refine Ex.call (args := [vR (10, 0, 0), vI a0, vI a1]) (rest := []) rfl rfl rfl (exX10_noPlace (d := d + 0) hv) ?_
  show Ex (d + 3) kX10_darkness 6 [some (vR (10, 0, 0)), some (vI a0), some (vI a1)] [vI q2.1] q2.2 _
  refine Ex.ifc rfl ?_
  by_cases hc : q2.1 = 0
  · rw [if_pos hc] at h
    rw [brI_eq_p hc]
    show Ex (d + 3) kX10_darkness 13 [some (vR (10, 0, 0)), some (vI a0), some (vI a1)] [] q2.2 _
    refine Ex.go 3 (pc' := 16) (ls' := [some (vR (10, 0, 0)), some (vI a0), some (vI a1)]) (st' := [vI a1, vI a0, vR (10, 0, 0)]) (hp' := q2.2) (fun _ => rfl) ?_
    obtain ⟨v3, hv, h⟩ := Option.bind_eq_some_iff.mp h
    refine Ex.call (args := [vR (10, 0, 0), vI a0, vI a1]) (rest := []) rfl rfl rfl (exX10_darkAt (d := d + 2) hv) ?_
    show Ex (d + 3) kX10_darkness 19 [some (vR (10, 0, 0)), some (vI a0), some (vI a1)] [vI v3] q2.2 _
    cases h
    exact Ex.ret rfl rfl rfl
  · rw [if_neg hc] at h
    rw [brI_eq_n hc]
    show Ex (d + 3) kX10_darkness 9 [some (vR (10, 0, 0)), some (vI a0), some (vI a1)] [] q2.2 _
    refine Ex.go 2 (pc' := 19) (ls' := [some (vR (10, 0, 0)), some (vI a0), some (vI a1)]) (st' := [vI 0]) (hp' := q2.2) (fun _ => rfl) ?_
    cases h
    exact Ex.ret rfl rfl rfl
def fX10_isStop_21 (x1 : Int32) (y1 : Int32) (hp : HP) : Option (Int32 × HP) := (fX10_refuse y1 2 hp).bind fun q2 => if q2.1 = 0 then (if inb (90 + x1) (alen (11, 22, 0)) = true then (if (q2.2 (11, 22, 0) (90 + x1).toNatClampNeg) = 1 then (some (1, q2.2)) else (some (0, q2.2))) else none) else (some (0, q2.2))
theorem exX10_isStop_21 {d : Nat} {x1 : Int32} {y1 : Int32} {hp : HP} {v : (Int32 × HP)} (h : fX10_isStop_21 x1 y1 hp = some v) : Ex (d + 2) kX10_isStop 21 [some (vR (10, 0, 0)), some (vI x1)] [vI y1, vR (10, 0, 0)] hp (rsI v.1 v.2) := by
  replace h : ((fX10_refuse y1 2 hp).bind fun q2 => if q2.1 = 0 then (if inb (90 + x1) (alen (11, 22, 0)) = true then (if (q2.2 (11, 22, 0) (90 + x1).toNatClampNeg) = 1 then (some (1, q2.2)) else (some (0, q2.2))) else none) else (some (0, q2.2))) = some v := h
  refine Ex.go 1 (pc' := 22) (ls' := [some (vR (10, 0, 0)), some (vI x1)]) (st' := [vI 2, vI y1, vR (10, 0, 0)]) (hp' := hp) (fun _ => rfl) ?_
  obtain ⟨q2, hv, h⟩ := Option.bind_eq_some_iff.mp h
  refine Ex.call (args := [vR (10, 0, 0), vI y1, vI 2]) (rest := []) rfl rfl rfl (exX10_refuse (d := d + 1) hv) ?_
  show Ex (d + 2) kX10_isStop 25 [some (vR (10, 0, 0)), some (vI x1)] [vI q2.1] q2.2 _
  refine Ex.ifc rfl ?_
  by_cases hc : q2.1 = 0
  · rw [if_pos hc] at h
    rw [brI_ne_p hc]
    show Ex (d + 2) kX10_isStop 28 [some (vR (10, 0, 0)), some (vI x1)] [] q2.2 _
    refine Ex.go 5 (pc' := 36) (ls' := [some (vR (10, 0, 0)), some (vI x1)]) (st' := [vI (90 + x1), vR (11, 22, 0)]) (hp' := q2.2) (fun _ => rfl) ?_
    by_cases hc : inb (90 + x1) (alen (11, 22, 0)) = true
    · rw [if_pos hc] at h
      refine Ex.iald rfl rfl hc rfl ?_
      show Ex (d + 2) kX10_isStop 37 [some (vR (10, 0, 0)), some (vI x1)] [vI (q2.2 (11, 22, 0) (90 + x1).toNatClampNeg)] q2.2 _
      refine Ex.go 1 (pc' := 38) (ls' := [some (vR (10, 0, 0)), some (vI x1)]) (st' := [vI 1, vI (q2.2 (11, 22, 0) (90 + x1).toNatClampNeg)]) (hp' := q2.2) (fun _ => rfl) ?_
      refine Ex.icmp rfl ?_
      by_cases hc : (q2.2 (11, 22, 0) (90 + x1).toNatClampNeg) = 1
      · rw [if_pos hc] at h
        rw [brI_ne_p hc]
        show Ex (d + 2) kX10_isStop 41 [some (vR (10, 0, 0)), some (vI x1)] [] q2.2 _
        refine Ex.go 2 (pc' := 46) (ls' := [some (vR (10, 0, 0)), some (vI x1)]) (st' := [vI 1]) (hp' := q2.2) (fun _ => rfl) ?_
        cases h
        exact Ex.ret rfl rfl rfl
      · rw [if_neg hc] at h
        rw [brI_ne_n hc]
        show Ex (d + 2) kX10_isStop 45 [some (vR (10, 0, 0)), some (vI x1)] [] q2.2 _
        refine Ex.go 1 (pc' := 46) (ls' := [some (vR (10, 0, 0)), some (vI x1)]) (st' := [vI 0]) (hp' := q2.2) (fun _ => rfl) ?_
        cases h
        exact Ex.ret rfl rfl rfl
    · rw [if_neg hc] at h
      cases h
  · rw [if_neg hc] at h
    rw [brI_ne_n hc]
    show Ex (d + 2) kX10_isStop 45 [some (vR (10, 0, 0)), some (vI x1)] [] q2.2 _
    refine Ex.go 1 (pc' := 46) (ls' := [some (vR (10, 0, 0)), some (vI x1)]) (st' := [vI 0]) (hp' := q2.2) (fun _ => rfl) ?_
    cases h
    exact Ex.ret rfl rfl rfl
def fX10_isStop (a0 : Int32) (hp : HP) : Option (Int32 × HP) := (fX10_notLoaded hp).bind fun q4 => if q4.1 = 0 then ((fX10_isColumn a0 q4.2).bind fun v5 => if v5 = 0 then (fX10_isStop_21 a0 1 q4.2) else (fX10_isStop_21 a0 0 q4.2)) else (some (0, q4.2))
theorem exX10_isStop {d : Nat} {a0 : Int32} {hp : HP} {v : (Int32 × HP)} (h : fX10_isStop a0 hp = some v) : Calls (d + 2) 239 [vR (10, 0, 0), vI a0] hp (rsI v.1 v.2) := by
  replace h : ((fX10_notLoaded hp).bind fun q4 => if q4.1 = 0 then ((fX10_isColumn a0 q4.2).bind fun v5 => if v5 = 0 then (fX10_isStop_21 a0 1 q4.2) else (fX10_isStop_21 a0 0 q4.2)) else (some (0, q4.2))) = some v := h
  show Ex (d + 2) kX10_isStop 0 [some (vR (10, 0, 0)), some (vI a0)] [] hp _
  refine Ex.go 1 (pc' := 1) (ls' := [some (vR (10, 0, 0)), some (vI a0)]) (st' := [vR (10, 0, 0)]) (hp' := hp) (fun _ => rfl) ?_
  obtain ⟨q4, hv, h⟩ := Option.bind_eq_some_iff.mp h
  refine Ex.call (args := [vR (10, 0, 0)]) (rest := []) rfl rfl rfl (exX10_notLoaded (d := d + 0) hv) ?_
  show Ex (d + 2) kX10_isStop 4 [some (vR (10, 0, 0)), some (vI a0)] [vI q4.1] q4.2 _
  refine Ex.ifc rfl ?_
  by_cases hc : q4.1 = 0
  · rw [if_pos hc] at h
    rw [brI_ne_p hc]
    show Ex (d + 2) kX10_isStop 7 [some (vR (10, 0, 0)), some (vI a0)] [] q4.2 _
    refine Ex.go 3 (pc' := 10) (ls' := [some (vR (10, 0, 0)), some (vI a0)]) (st' := [vI a0, vR (10, 0, 0), vR (10, 0, 0)]) (hp' := q4.2) (fun _ => rfl) ?_
    obtain ⟨v5, hv, h⟩ := Option.bind_eq_some_iff.mp h
    refine Ex.call (args := [vR (10, 0, 0), vI a0]) (rest := [vR (10, 0, 0)]) rfl rfl rfl (exX10_isColumn (d := d + 0) hv) ?_
    show Ex (d + 2) kX10_isStop 13 [some (vR (10, 0, 0)), some (vI a0)] [vI v5, vR (10, 0, 0)] q4.2 _
    refine Ex.ifc rfl ?_
    by_cases hc : v5 = 0
    · rw [if_pos hc] at h
      rw [brI_ne_p hc]
      show Ex (d + 2) kX10_isStop 16 [some (vR (10, 0, 0)), some (vI a0)] [vR (10, 0, 0)] q4.2 _
      refine Ex.go 2 (pc' := 21) (ls' := [some (vR (10, 0, 0)), some (vI a0)]) (st' := [vI 1, vR (10, 0, 0)]) (hp' := q4.2) (fun _ => rfl) ?_
      exact exX10_isStop_21 h
    · rw [if_neg hc] at h
      rw [brI_ne_n hc]
      show Ex (d + 2) kX10_isStop 20 [some (vR (10, 0, 0)), some (vI a0)] [vR (10, 0, 0)] q4.2 _
      refine Ex.go 1 (pc' := 21) (ls' := [some (vR (10, 0, 0)), some (vI a0)]) (st' := [vI 0, vR (10, 0, 0)]) (hp' := q4.2) (fun _ => rfl) ?_
      exact exX10_isStop_21 h
  · rw [if_neg hc] at h
    rw [brI_ne_n hc]
    show Ex (d + 2) kX10_isStop 45 [some (vR (10, 0, 0)), some (vI a0)] [] q4.2 _
    refine Ex.go 1 (pc' := 46) (ls' := [some (vR (10, 0, 0)), some (vI a0)]) (st' := [vI 0]) (hp' := q4.2) (fun _ => rfl) ?_
    cases h
    exact Ex.ret rfl rfl rfl
def fX10_reason (hp : HP) : Option (Int32 × HP) := (fX10_notLoaded hp).bind fun q2 => if q2.1 = 0 then (some ((q2.2 (11, 22, 0) 36), q2.2)) else (some (0, q2.2))
theorem exX10_reason {d : Nat} {hp : HP} {v : (Int32 × HP)} (h : fX10_reason hp = some v) : Calls (d + 2) 240 [vR (10, 0, 0)] hp (rsI v.1 v.2) := by
  replace h : ((fX10_notLoaded hp).bind fun q2 => if q2.1 = 0 then (some ((q2.2 (11, 22, 0) 36), q2.2)) else (some (0, q2.2))) = some v := h
  show Ex (d + 2) kX10_reason 0 [some (vR (10, 0, 0))] [] hp _
  refine Ex.go 1 (pc' := 1) (ls' := [some (vR (10, 0, 0))]) (st' := [vR (10, 0, 0)]) (hp' := hp) (fun _ => rfl) ?_
  obtain ⟨q2, hv, h⟩ := Option.bind_eq_some_iff.mp h
  refine Ex.call (args := [vR (10, 0, 0)]) (rest := []) rfl rfl rfl (exX10_notLoaded (d := d + 0) hv) ?_
  show Ex (d + 2) kX10_reason 4 [some (vR (10, 0, 0))] [vI q2.1] q2.2 _
  refine Ex.ifc rfl ?_
  by_cases hc : q2.1 = 0
  · rw [if_pos hc] at h
    rw [brI_eq_p hc]
    show Ex (d + 2) kX10_reason 11 [some (vR (10, 0, 0))] [] q2.2 _
    refine Ex.go 3 (pc' := 17) (ls' := [some (vR (10, 0, 0))]) (st' := [vI 36, vR (11, 22, 0)]) (hp' := q2.2) (fun _ => rfl) ?_
    refine Ex.iald (k := 36) rfl rfl (by decide) (by decide) ?_
    show Ex (d + 2) kX10_reason 18 [some (vR (10, 0, 0))] [vI (q2.2 (11, 22, 0) 36)] q2.2 _
    cases h
    exact Ex.ret rfl rfl rfl
  · rw [if_neg hc] at h
    rw [brI_eq_n hc]
    show Ex (d + 2) kX10_reason 7 [some (vR (10, 0, 0))] [] q2.2 _
    refine Ex.go 2 (pc' := 18) (ls' := [some (vR (10, 0, 0))]) (st' := [vI 0]) (hp' := q2.2) (fun _ => rfl) ?_
    cases h
    exact Ex.ret rfl rfl rfl
def fX10_reasonAt (hp : HP) : Option (Int32 × HP) := (fX10_notLoaded hp).bind fun q2 => if q2.1 = 0 then (some ((q2.2 (11, 22, 0) 37), q2.2)) else (some (0, q2.2))
theorem exX10_reasonAt {d : Nat} {hp : HP} {v : (Int32 × HP)} (h : fX10_reasonAt hp = some v) : Calls (d + 2) 241 [vR (10, 0, 0)] hp (rsI v.1 v.2) := by
  replace h : ((fX10_notLoaded hp).bind fun q2 => if q2.1 = 0 then (some ((q2.2 (11, 22, 0) 37), q2.2)) else (some (0, q2.2))) = some v := h
  show Ex (d + 2) kX10_reasonAt 0 [some (vR (10, 0, 0))] [] hp _
  refine Ex.go 1 (pc' := 1) (ls' := [some (vR (10, 0, 0))]) (st' := [vR (10, 0, 0)]) (hp' := hp) (fun _ => rfl) ?_
  obtain ⟨q2, hv, h⟩ := Option.bind_eq_some_iff.mp h
  refine Ex.call (args := [vR (10, 0, 0)]) (rest := []) rfl rfl rfl (exX10_notLoaded (d := d + 0) hv) ?_
  show Ex (d + 2) kX10_reasonAt 4 [some (vR (10, 0, 0))] [vI q2.1] q2.2 _
  refine Ex.ifc rfl ?_
  by_cases hc : q2.1 = 0
  · rw [if_pos hc] at h
    rw [brI_eq_p hc]
    show Ex (d + 2) kX10_reasonAt 11 [some (vR (10, 0, 0))] [] q2.2 _
    refine Ex.go 3 (pc' := 17) (ls' := [some (vR (10, 0, 0))]) (st' := [vI 37, vR (11, 22, 0)]) (hp' := q2.2) (fun _ => rfl) ?_
    refine Ex.iald (k := 37) rfl rfl (by decide) (by decide) ?_
    show Ex (d + 2) kX10_reasonAt 18 [some (vR (10, 0, 0))] [vI (q2.2 (11, 22, 0) 37)] q2.2 _
    cases h
    exact Ex.ret rfl rfl rfl
  · rw [if_neg hc] at h
    rw [brI_eq_n hc]
    show Ex (d + 2) kX10_reasonAt 7 [some (vR (10, 0, 0))] [] q2.2 _
    refine Ex.go 2 (pc' := 18) (ls' := [some (vR (10, 0, 0))]) (st' := [vI 0]) (hp' := q2.2) (fun _ => rfl) ?_
    cases h
    exact Ex.ret rfl rfl rfl
def fX10_longOf_27 (x2 : Int32) (hp : HP) : Option Int32 := some x2
theorem exX10_longOf_27 {d : Nat} {x2 : Int32} {j1 : Option VL} {hp : HP} {v : Int32} (h : fX10_longOf_27 x2 hp = some v) : Ex (d + 1) kX10_longOf 27 [some (vR (10, 0, 0)), j1, some (vI x2)] [] hp (rsI v hp) := by
  replace h : (some x2) = some v := h
  refine Ex.go 1 (pc' := 28) (ls' := [some (vR (10, 0, 0)), j1, some (vI x2)]) (st' := [vI x2]) (hp' := hp) (fun _ => rfl) ?_
  cases h
  exact Ex.ret rfl rfl rfl
def fX10_longOf_6 (n : Nat) (x1 : Int32) (x2 : Int32) (hp : HP) : Option Int32 := match n with
  | 0 => none
  | n + 1 => if 0 < x2 then ((fX10_signAt x1 (x2 - 1) hp).bind fun v1 => if v1 = 0 then (fX10_longOf_6 n x1 (x2 + m1) hp) else (fX10_longOf_27 x2 hp)) else (fX10_longOf_27 x2 hp)
theorem exX10_longOf_6 {d : Nat} : ∀ (n : Nat) (x1 : Int32) (x2 : Int32) (hp : HP) (v : Int32), fX10_longOf_6 n x1 x2 hp = some v → Ex (d + 1) kX10_longOf 6 [some (vR (10, 0, 0)), some (vI x1), some (vI x2)] [] hp (rsI v hp) := by
  intro n
  induction n with
  | zero =>
    intro x1 x2 hp v h
    cases h
  | succ n ih =>
    intro x1 x2 hp v h
    replace h : (if 0 < x2 then ((fX10_signAt x1 (x2 - 1) hp).bind fun v1 => if v1 = 0 then (fX10_longOf_6 n x1 (x2 + m1) hp) else (fX10_longOf_27 x2 hp)) else (fX10_longOf_27 x2 hp)) = some v := h
    refine Ex.go 1 (pc' := 7) (ls' := [some (vR (10, 0, 0)), some (vI x1), some (vI x2)]) (st' := [vI x2]) (hp' := hp) (fun _ => rfl) ?_
    refine Ex.ifc rfl ?_
    by_cases hc : 0 < x2
    · rw [if_pos hc] at h
      rw [brI_le_p hc]
      show Ex (d + 1) kX10_longOf 10 [some (vR (10, 0, 0)), some (vI x1), some (vI x2)] [] hp _
      refine Ex.go 5 (pc' := 15) (ls' := [some (vR (10, 0, 0)), some (vI x1), some (vI x2)]) (st' := [vI (x2 - 1), vI x1, vR (10, 0, 0)]) (hp' := hp) (fun _ => rfl) ?_
      obtain ⟨v1, hv, h⟩ := Option.bind_eq_some_iff.mp h
      refine Ex.call (args := [vR (10, 0, 0), vI x1, vI (x2 - 1)]) (rest := []) rfl rfl rfl (exX10_signAt (d := d + 0) hv) ?_
      show Ex (d + 1) kX10_longOf 18 [some (vR (10, 0, 0)), some (vI x1), some (vI x2)] [vI v1] hp _
      refine Ex.ifc rfl ?_
      by_cases hc : v1 = 0
      · rw [if_pos hc] at h
        rw [brI_ne_p hc]
        show Ex (d + 1) kX10_longOf 21 [some (vR (10, 0, 0)), some (vI x1), some (vI x2)] [] hp _
        refine Ex.iinc rfl rfl ?_
        show Ex (d + 1) kX10_longOf 24 [some (vR (10, 0, 0)), some (vI x1), some (vI (x2 + m1))] [] hp _
        refine Ex.go 1 (pc' := 6) (ls' := [some (vR (10, 0, 0)), some (vI x1), some (vI (x2 + m1))]) (st' := []) (hp' := hp) (fun _ => rfl) ?_
        exact ih _ _ _ _ h
      · rw [if_neg hc] at h
        rw [brI_ne_n hc]
        show Ex (d + 1) kX10_longOf 27 [some (vR (10, 0, 0)), some (vI x1), some (vI x2)] [] hp _
        exact exX10_longOf_27 h
    · rw [if_neg hc] at h
      rw [brI_le_n hc]
      show Ex (d + 1) kX10_longOf 27 [some (vR (10, 0, 0)), some (vI x1), some (vI x2)] [] hp _
      exact exX10_longOf_27 h
def fX10_longOf (a0 : Int32) (hp : HP) : Option Int32 := (fX10_its 0 hp).bind fun v2 => fX10_longOf_6 FU a0 v2 hp
theorem exX10_longOf {d : Nat} {a0 : Int32} {hp : HP} {v : Int32} (h : fX10_longOf a0 hp = some v) : Calls (d + 1) 242 [vR (10, 0, 0), vI a0] hp (rsI v hp) := by
  replace h : ((fX10_its 0 hp).bind fun v2 => fX10_longOf_6 FU a0 v2 hp) = some v := h
  show Ex (d + 1) kX10_longOf 0 [some (vR (10, 0, 0)), some (vI a0), none] [] hp _
  refine Ex.go 2 (pc' := 2) (ls' := [some (vR (10, 0, 0)), some (vI a0), none]) (st' := [vI 0, vR (10, 0, 0)]) (hp' := hp) (fun _ => rfl) ?_
  obtain ⟨v2, hv, h⟩ := Option.bind_eq_some_iff.mp h
  refine Ex.call (args := [vR (10, 0, 0), vI 0]) (rest := []) rfl rfl rfl (exX10_its (d := d + 0) hv) ?_
  show Ex (d + 1) kX10_longOf 5 [some (vR (10, 0, 0)), some (vI a0), none] [vI v2] hp _
  refine Ex.go 1 (pc' := 6) (ls' := [some (vR (10, 0, 0)), some (vI a0), some (vI v2)]) (st' := []) (hp' := hp) (fun _ => rfl) ?_
  exact exX10_longOf_6 FU _ _ _ _ h
def fX10_lineLength (a0 : Int32) (hp : HP) : Option (Int32 × HP) := (fX10_noLine a0 hp).bind fun q2 => if q2.1 = 0 then ((fX10_longOf a0 q2.2).bind fun v3 => some (v3, q2.2)) else (some (0, q2.2))
theorem exX10_lineLength {d : Nat} {a0 : Int32} {hp : HP} {v : (Int32 × HP)} (h : fX10_lineLength a0 hp = some v) : Calls (d + 3) 243 [vR (10, 0, 0), vI a0] hp (rsI v.1 v.2) := by
  replace h : ((fX10_noLine a0 hp).bind fun q2 => if q2.1 = 0 then ((fX10_longOf a0 q2.2).bind fun v3 => some (v3, q2.2)) else (some (0, q2.2))) = some v := h
  show Ex (d + 3) kX10_lineLength 0 [some (vR (10, 0, 0)), some (vI a0)] [] hp _
  refine Ex.go 2 (pc' := 2) (ls' := [some (vR (10, 0, 0)), some (vI a0)]) (st' := [vI a0, vR (10, 0, 0)]) (hp' := hp) (fun _ => rfl) ?_
  obtain ⟨q2, hv, h⟩ := Option.bind_eq_some_iff.mp h
  refine Ex.call (args := [vR (10, 0, 0), vI a0]) (rest := []) rfl rfl rfl (exX10_noLine (d := d + 0) hv) ?_
  show Ex (d + 3) kX10_lineLength 5 [some (vR (10, 0, 0)), some (vI a0)] [vI q2.1] q2.2 _
  refine Ex.ifc rfl ?_
  by_cases hc : q2.1 = 0
  · rw [if_pos hc] at h
    rw [brI_eq_p hc]
    show Ex (d + 3) kX10_lineLength 12 [some (vR (10, 0, 0)), some (vI a0)] [] q2.2 _
    refine Ex.go 2 (pc' := 14) (ls' := [some (vR (10, 0, 0)), some (vI a0)]) (st' := [vI a0, vR (10, 0, 0)]) (hp' := q2.2) (fun _ => rfl) ?_
    obtain ⟨v3, hv, h⟩ := Option.bind_eq_some_iff.mp h
    refine Ex.call (args := [vR (10, 0, 0), vI a0]) (rest := []) rfl rfl rfl (exX10_longOf (d := d + 1) hv) ?_
    show Ex (d + 3) kX10_lineLength 17 [some (vR (10, 0, 0)), some (vI a0)] [vI v3] q2.2 _
    cases h
    exact Ex.ret rfl rfl rfl
  · rw [if_neg hc] at h
    rw [brI_eq_n hc]
    show Ex (d + 3) kX10_lineLength 8 [some (vR (10, 0, 0)), some (vI a0)] [] q2.2 _
    refine Ex.go 2 (pc' := 17) (ls' := [some (vR (10, 0, 0)), some (vI a0)]) (st' := [vI 0]) (hp' := q2.2) (fun _ => rfl) ?_
    cases h
    exact Ex.ret rfl rfl rfl
def fX10_words_53 (x1 : Int32) (x3 : Int32) (y0 : Int32) (y1 : Int32) (k14 : Int32 → Int32 → Int32 → HP → Option (Int32 × HP)) (hp : HP) : Option (Int32 × HP) := (fX10_flag y1 hp).bind fun v1 => k14 x1 (y0 + v1) (x3 + 1) hp
theorem exX10_words_53 {d : Nat} {x1 : Int32} {x3 : Int32} {y0 : Int32} {y1 : Int32} {j2 : Option VL} {hp : HP} {v : (Int32 × HP)} {k14 : Int32 → Int32 → Int32 → HP → Option (Int32 × HP)} (hk14 : ∀ (x1 : Int32) (x2 : Int32) (x3 : Int32) (hp : HP) (v : (Int32 × HP)), k14 x1 x2 x3 hp = some v → Ex (d + 3) kX10_words 14 [some (vR (10, 0, 0)), some (vI x1), some (vI x2), some (vI x3)] [] hp (rsI v.1 v.2)) (h : fX10_words_53 x1 x3 y0 y1 k14 hp = some v) : Ex (d + 3) kX10_words 53 [some (vR (10, 0, 0)), some (vI x1), j2, some (vI x3)] [vI y1, vI y0] hp (rsI v.1 v.2) := by
  replace h : ((fX10_flag y1 hp).bind fun v1 => k14 x1 (y0 + v1) (x3 + 1) hp) = some v := h
  obtain ⟨v1, hv, h⟩ := Option.bind_eq_some_iff.mp h
  refine Ex.call (args := [vI y1]) (rest := [vI y0]) rfl rfl rfl (exX10_flag (d := d + 2) hv) ?_
  show Ex (d + 3) kX10_words 56 [some (vR (10, 0, 0)), some (vI x1), j2, some (vI x3)] [vI v1, vI y0] hp _
  refine Ex.go 4 (pc' := 14) (ls' := [some (vR (10, 0, 0)), some (vI x1), some (vI (y0 + v1)), some (vI (x3 + 1))]) (st' := []) (hp' := hp) (fun _ => rfl) ?_
  exact hk14 _ _ _ _ _ h
def fX10_words_52 (x1 : Int32) (x3 : Int32) (y0 : Int32) (k14 : Int32 → Int32 → Int32 → HP → Option (Int32 × HP)) (hp : HP) : Option (Int32 × HP) := fX10_words_53 x1 x3 y0 0 k14 hp
theorem exX10_words_52 {d : Nat} {x1 : Int32} {x3 : Int32} {y0 : Int32} {j2 : Option VL} {hp : HP} {v : (Int32 × HP)} {k14 : Int32 → Int32 → Int32 → HP → Option (Int32 × HP)} (hk14 : ∀ (x1 : Int32) (x2 : Int32) (x3 : Int32) (hp : HP) (v : (Int32 × HP)), k14 x1 x2 x3 hp = some v → Ex (d + 3) kX10_words 14 [some (vR (10, 0, 0)), some (vI x1), some (vI x2), some (vI x3)] [] hp (rsI v.1 v.2)) (h : fX10_words_52 x1 x3 y0 k14 hp = some v) : Ex (d + 3) kX10_words 52 [some (vR (10, 0, 0)), some (vI x1), j2, some (vI x3)] [vI y0] hp (rsI v.1 v.2) := by
  replace h : (fX10_words_53 x1 x3 y0 0 k14 hp) = some v := h
  refine Ex.go 1 (pc' := 53) (ls' := [some (vR (10, 0, 0)), some (vI x1), j2, some (vI x3)]) (st' := [vI 0, vI y0]) (hp' := hp) (fun _ => rfl) ?_
  exact exX10_words_53 hk14 h
def fX10_words_14 (n : Nat) (x1 : Int32) (x2 : Int32) (x3 : Int32) (hp : HP) : Option (Int32 × HP) := match n with
  | 0 => none
  | n + 1 => (fX10_its 0 hp).bind fun v2 => if x3 < v2 then ((fX10_signAt x1 x3 hp).bind fun v3 => if v3 = 0 then (fX10_words_52 x1 x3 x2 (fun x1 x2 x3 hq => fX10_words_14 n x1 x2 x3 hq) hp) else (if x3 = 0 then (fX10_words_53 x1 x3 x2 1 (fun x1 x2 x3 hq => fX10_words_14 n x1 x2 x3 hq) hp) else ((fX10_signAt x1 (x3 - 1) hp).bind fun v4 => if v4 = 0 then (fX10_words_53 x1 x3 x2 1 (fun x1 x2 x3 hq => fX10_words_14 n x1 x2 x3 hq) hp) else (fX10_words_52 x1 x3 x2 (fun x1 x2 x3 hq => fX10_words_14 n x1 x2 x3 hq) hp)))) else (some (x2, hp))
theorem exX10_words_14 {d : Nat} : ∀ (n : Nat) (x1 : Int32) (x2 : Int32) (x3 : Int32) (hp : HP) (v : (Int32 × HP)), fX10_words_14 n x1 x2 x3 hp = some v → Ex (d + 3) kX10_words 14 [some (vR (10, 0, 0)), some (vI x1), some (vI x2), some (vI x3)] [] hp (rsI v.1 v.2) := by
  intro n
  induction n with
  | zero =>
    intro x1 x2 x3 hp v h
    cases h
  | succ n ih =>
    intro x1 x2 x3 hp v h
    replace h : ((fX10_its 0 hp).bind fun v2 => if x3 < v2 then ((fX10_signAt x1 x3 hp).bind fun v3 => if v3 = 0 then (fX10_words_52 x1 x3 x2 (fun x1 x2 x3 hq => fX10_words_14 n x1 x2 x3 hq) hp) else (if x3 = 0 then (fX10_words_53 x1 x3 x2 1 (fun x1 x2 x3 hq => fX10_words_14 n x1 x2 x3 hq) hp) else ((fX10_signAt x1 (x3 - 1) hp).bind fun v4 => if v4 = 0 then (fX10_words_53 x1 x3 x2 1 (fun x1 x2 x3 hq => fX10_words_14 n x1 x2 x3 hq) hp) else (fX10_words_52 x1 x3 x2 (fun x1 x2 x3 hq => fX10_words_14 n x1 x2 x3 hq) hp)))) else (some (x2, hp))) = some v := h
    refine Ex.go 3 (pc' := 17) (ls' := [some (vR (10, 0, 0)), some (vI x1), some (vI x2), some (vI x3)]) (st' := [vI 0, vR (10, 0, 0), vI x3]) (hp' := hp) (fun _ => rfl) ?_
    obtain ⟨v2, hv, h⟩ := Option.bind_eq_some_iff.mp h
    refine Ex.call (args := [vR (10, 0, 0), vI 0]) (rest := [vI x3]) rfl rfl rfl (exX10_its (d := d + 2) hv) ?_
    show Ex (d + 3) kX10_words 20 [some (vR (10, 0, 0)), some (vI x1), some (vI x2), some (vI x3)] [vI v2, vI x3] hp _
    refine Ex.icmp rfl ?_
    by_cases hc : x3 < v2
    · rw [if_pos hc] at h
      rw [brI_ge_p hc]
      show Ex (d + 3) kX10_words 23 [some (vR (10, 0, 0)), some (vI x1), some (vI x2), some (vI x3)] [] hp _
      refine Ex.go 4 (pc' := 27) (ls' := [some (vR (10, 0, 0)), some (vI x1), some (vI x2), some (vI x3)]) (st' := [vI x3, vI x1, vR (10, 0, 0), vI x2]) (hp' := hp) (fun _ => rfl) ?_
      obtain ⟨v3, hv, h⟩ := Option.bind_eq_some_iff.mp h
      refine Ex.call (args := [vR (10, 0, 0), vI x1, vI x3]) (rest := [vI x2]) rfl rfl rfl (exX10_signAt (d := d + 2) hv) ?_
      show Ex (d + 3) kX10_words 30 [some (vR (10, 0, 0)), some (vI x1), some (vI x2), some (vI x3)] [vI v3, vI x2] hp _
      refine Ex.ifc rfl ?_
      by_cases hc : v3 = 0
      · rw [if_pos hc] at h
        rw [brI_eq_p hc]
        show Ex (d + 3) kX10_words 52 [some (vR (10, 0, 0)), some (vI x1), some (vI x2), some (vI x3)] [vI x2] hp _
        exact exX10_words_52 (fun q0 q1 q2 q3 q4 hv => ih q0 q1 q2 q3 q4 hv) h
      · rw [if_neg hc] at h
        rw [brI_eq_n hc]
        show Ex (d + 3) kX10_words 33 [some (vR (10, 0, 0)), some (vI x1), some (vI x2), some (vI x3)] [vI x2] hp _
        refine Ex.go 1 (pc' := 34) (ls' := [some (vR (10, 0, 0)), some (vI x1), some (vI x2), some (vI x3)]) (st' := [vI x3, vI x2]) (hp' := hp) (fun _ => rfl) ?_
        refine Ex.ifc rfl ?_
        by_cases hc : x3 = 0
        · rw [if_pos hc] at h
          rw [brI_eq_p hc]
          show Ex (d + 3) kX10_words 48 [some (vR (10, 0, 0)), some (vI x1), some (vI x2), some (vI x3)] [vI x2] hp _
          refine Ex.go 2 (pc' := 53) (ls' := [some (vR (10, 0, 0)), some (vI x1), some (vI x2), some (vI x3)]) (st' := [vI 1, vI x2]) (hp' := hp) (fun _ => rfl) ?_
          exact exX10_words_53 (fun q0 q1 q2 q3 q4 hv => ih q0 q1 q2 q3 q4 hv) h
        · rw [if_neg hc] at h
          rw [brI_eq_n hc]
          show Ex (d + 3) kX10_words 37 [some (vR (10, 0, 0)), some (vI x1), some (vI x2), some (vI x3)] [vI x2] hp _
          refine Ex.go 5 (pc' := 42) (ls' := [some (vR (10, 0, 0)), some (vI x1), some (vI x2), some (vI x3)]) (st' := [vI (x3 - 1), vI x1, vR (10, 0, 0), vI x2]) (hp' := hp) (fun _ => rfl) ?_
          obtain ⟨v4, hv, h⟩ := Option.bind_eq_some_iff.mp h
          refine Ex.call (args := [vR (10, 0, 0), vI x1, vI (x3 - 1)]) (rest := [vI x2]) rfl rfl rfl (exX10_signAt (d := d + 2) hv) ?_
          show Ex (d + 3) kX10_words 45 [some (vR (10, 0, 0)), some (vI x1), some (vI x2), some (vI x3)] [vI v4, vI x2] hp _
          refine Ex.ifc rfl ?_
          by_cases hc : v4 = 0
          · rw [if_pos hc] at h
            rw [brI_ne_p hc]
            show Ex (d + 3) kX10_words 48 [some (vR (10, 0, 0)), some (vI x1), some (vI x2), some (vI x3)] [vI x2] hp _
            refine Ex.go 2 (pc' := 53) (ls' := [some (vR (10, 0, 0)), some (vI x1), some (vI x2), some (vI x3)]) (st' := [vI 1, vI x2]) (hp' := hp) (fun _ => rfl) ?_
            exact exX10_words_53 (fun q0 q1 q2 q3 q4 hv => ih q0 q1 q2 q3 q4 hv) h
          · rw [if_neg hc] at h
            rw [brI_ne_n hc]
            show Ex (d + 3) kX10_words 52 [some (vR (10, 0, 0)), some (vI x1), some (vI x2), some (vI x3)] [vI x2] hp _
            exact exX10_words_52 (fun q0 q1 q2 q3 q4 hv => ih q0 q1 q2 q3 q4 hv) h
    · rw [if_neg hc] at h
      rw [brI_ge_n hc]
      show Ex (d + 3) kX10_words 64 [some (vR (10, 0, 0)), some (vI x1), some (vI x2), some (vI x3)] [] hp _
      refine Ex.go 1 (pc' := 65) (ls' := [some (vR (10, 0, 0)), some (vI x1), some (vI x2), some (vI x3)]) (st' := [vI x2]) (hp' := hp) (fun _ => rfl) ?_
      cases h
      exact Ex.ret rfl rfl rfl
def fX10_words (a0 : Int32) (hp : HP) : Option (Int32 × HP) := (fX10_noLine a0 hp).bind fun q6 => if q6.1 = 0 then (fX10_words_14 FU a0 0 0 q6.2) else (some (0, q6.2))
theorem exX10_words {d : Nat} {a0 : Int32} {hp : HP} {v : (Int32 × HP)} (h : fX10_words a0 hp = some v) : Calls (d + 3) 244 [vR (10, 0, 0), vI a0] hp (rsI v.1 v.2) := by
  replace h : ((fX10_noLine a0 hp).bind fun q6 => if q6.1 = 0 then (fX10_words_14 FU a0 0 0 q6.2) else (some (0, q6.2))) = some v := h
  show Ex (d + 3) kX10_words 0 [some (vR (10, 0, 0)), some (vI a0), none, none] [] hp _
  refine Ex.go 2 (pc' := 2) (ls' := [some (vR (10, 0, 0)), some (vI a0), none, none]) (st' := [vI a0, vR (10, 0, 0)]) (hp' := hp) (fun _ => rfl) ?_
  obtain ⟨q6, hv, h⟩ := Option.bind_eq_some_iff.mp h
  refine Ex.call (args := [vR (10, 0, 0), vI a0]) (rest := []) rfl rfl rfl (exX10_noLine (d := d + 0) hv) ?_
  show Ex (d + 3) kX10_words 5 [some (vR (10, 0, 0)), some (vI a0), none, none] [vI q6.1] q6.2 _
  refine Ex.ifc rfl ?_
  by_cases hc : q6.1 = 0
  · rw [if_pos hc] at h
    rw [brI_eq_p hc]
    show Ex (d + 3) kX10_words 10 [some (vR (10, 0, 0)), some (vI a0), none, none] [] q6.2 _
    refine Ex.go 4 (pc' := 14) (ls' := [some (vR (10, 0, 0)), some (vI a0), some (vI 0), some (vI 0)]) (st' := []) (hp' := q6.2) (fun _ => rfl) ?_
    exact exX10_words_14 FU _ _ _ _ _ h
  · rw [if_neg hc] at h
    rw [brI_eq_n hc]
    show Ex (d + 3) kX10_words 8 [some (vR (10, 0, 0)), some (vI a0), none, none] [] q6.2 _
    refine Ex.go 1 (pc' := 9) (ls' := [some (vR (10, 0, 0)), some (vI a0), none, none]) (st' := [vI 0]) (hp' := q6.2) (fun _ => rfl) ?_
    cases h
    exact Ex.ret rfl rfl rfl
def fX10_letters_54 (x1 : Int32) (x3 : Int32) (y0 : Int32) (y1 : Int32) (k27 : Int32 → Int32 → Int32 → HP → Option (Int32 × HP)) (hp : HP) : Option (Int32 × HP) := (fX10_flag y1 hp).bind fun v1 => k27 x1 (y0 + v1) (x3 + 1) hp
theorem exX10_letters_54 {d : Nat} {x1 : Int32} {x3 : Int32} {y0 : Int32} {y1 : Int32} {j2 : Option VL} {hp : HP} {v : (Int32 × HP)} {k27 : Int32 → Int32 → Int32 → HP → Option (Int32 × HP)} (hk27 : ∀ (x1 : Int32) (x2 : Int32) (x3 : Int32) (hp : HP) (v : (Int32 × HP)), k27 x1 x2 x3 hp = some v → Ex (d + 2) kX10_letters 27 [some (vR (10, 0, 0)), some (vI x1), some (vI x2), some (vI x3)] [] hp (rsI v.1 v.2)) (h : fX10_letters_54 x1 x3 y0 y1 k27 hp = some v) : Ex (d + 2) kX10_letters 54 [some (vR (10, 0, 0)), some (vI x1), j2, some (vI x3)] [vI y1, vI y0] hp (rsI v.1 v.2) := by
  replace h : ((fX10_flag y1 hp).bind fun v1 => k27 x1 (y0 + v1) (x3 + 1) hp) = some v := h
  obtain ⟨v1, hv, h⟩ := Option.bind_eq_some_iff.mp h
  refine Ex.call (args := [vI y1]) (rest := [vI y0]) rfl rfl rfl (exX10_flag (d := d + 1) hv) ?_
  show Ex (d + 2) kX10_letters 57 [some (vR (10, 0, 0)), some (vI x1), j2, some (vI x3)] [vI v1, vI y0] hp _
  refine Ex.go 4 (pc' := 27) (ls' := [some (vR (10, 0, 0)), some (vI x1), some (vI (y0 + v1)), some (vI (x3 + 1))]) (st' := []) (hp' := hp) (fun _ => rfl) ?_
  exact hk27 _ _ _ _ _ h
def fX10_letters_27 (n : Nat) (x1 : Int32) (x2 : Int32) (x3 : Int32) (hp : HP) : Option (Int32 × HP) := match n with
  | 0 => none
  | n + 1 => if x3 < 480 then (if inb (190 + x3) (alen (11, 22, 0)) = true then (if (hp (11, 22, 0) (190 + x3).toNatClampNeg) = x1 then (fX10_letters_54 x1 x3 x2 1 (fun x1 x2 x3 hq => fX10_letters_27 n x1 x2 x3 hq) hp) else (fX10_letters_54 x1 x3 x2 0 (fun x1 x2 x3 hq => fX10_letters_27 n x1 x2 x3 hq) hp)) else none) else (some (x2, hp))
theorem exX10_letters_27 {d : Nat} : ∀ (n : Nat) (x1 : Int32) (x2 : Int32) (x3 : Int32) (hp : HP) (v : (Int32 × HP)), fX10_letters_27 n x1 x2 x3 hp = some v → Ex (d + 2) kX10_letters 27 [some (vR (10, 0, 0)), some (vI x1), some (vI x2), some (vI x3)] [] hp (rsI v.1 v.2) := by
  intro n
  induction n with
  | zero =>
    intro x1 x2 x3 hp v h
    cases h
  | succ n ih =>
    intro x1 x2 x3 hp v h
    replace h : (if x3 < 480 then (if inb (190 + x3) (alen (11, 22, 0)) = true then (if (hp (11, 22, 0) (190 + x3).toNatClampNeg) = x1 then (fX10_letters_54 x1 x3 x2 1 (fun x1 x2 x3 hq => fX10_letters_27 n x1 x2 x3 hq) hp) else (fX10_letters_54 x1 x3 x2 0 (fun x1 x2 x3 hq => fX10_letters_27 n x1 x2 x3 hq) hp)) else none) else (some (x2, hp))) = some v := h
    refine Ex.go 2 (pc' := 31) (ls' := [some (vR (10, 0, 0)), some (vI x1), some (vI x2), some (vI x3)]) (st' := [vI 480, vI x3]) (hp' := hp) (fun _ => rfl) ?_
    refine Ex.icmp rfl ?_
    by_cases hc : x3 < 480
    · rw [if_pos hc] at h
      rw [brI_ge_p hc]
      show Ex (d + 2) kX10_letters 34 [some (vR (10, 0, 0)), some (vI x1), some (vI x2), some (vI x3)] [] hp _
      refine Ex.go 6 (pc' := 44) (ls' := [some (vR (10, 0, 0)), some (vI x1), some (vI x2), some (vI x3)]) (st' := [vI (190 + x3), vR (11, 22, 0), vI x2]) (hp' := hp) (fun _ => rfl) ?_
      by_cases hc : inb (190 + x3) (alen (11, 22, 0)) = true
      · rw [if_pos hc] at h
        refine Ex.iald rfl rfl hc rfl ?_
        show Ex (d + 2) kX10_letters 45 [some (vR (10, 0, 0)), some (vI x1), some (vI x2), some (vI x3)] [vI (hp (11, 22, 0) (190 + x3).toNatClampNeg), vI x2] hp _
        refine Ex.go 1 (pc' := 46) (ls' := [some (vR (10, 0, 0)), some (vI x1), some (vI x2), some (vI x3)]) (st' := [vI x1, vI (hp (11, 22, 0) (190 + x3).toNatClampNeg), vI x2]) (hp' := hp) (fun _ => rfl) ?_
        refine Ex.icmp rfl ?_
        by_cases hc : (hp (11, 22, 0) (190 + x3).toNatClampNeg) = x1
        · rw [if_pos hc] at h
          rw [brI_ne_p hc]
          show Ex (d + 2) kX10_letters 49 [some (vR (10, 0, 0)), some (vI x1), some (vI x2), some (vI x3)] [vI x2] hp _
          refine Ex.go 2 (pc' := 54) (ls' := [some (vR (10, 0, 0)), some (vI x1), some (vI x2), some (vI x3)]) (st' := [vI 1, vI x2]) (hp' := hp) (fun _ => rfl) ?_
          exact exX10_letters_54 (fun q0 q1 q2 q3 q4 hv => ih q0 q1 q2 q3 q4 hv) h
        · rw [if_neg hc] at h
          rw [brI_ne_n hc]
          show Ex (d + 2) kX10_letters 53 [some (vR (10, 0, 0)), some (vI x1), some (vI x2), some (vI x3)] [vI x2] hp _
          refine Ex.go 1 (pc' := 54) (ls' := [some (vR (10, 0, 0)), some (vI x1), some (vI x2), some (vI x3)]) (st' := [vI 0, vI x2]) (hp' := hp) (fun _ => rfl) ?_
          exact exX10_letters_54 (fun q0 q1 q2 q3 q4 hv => ih q0 q1 q2 q3 q4 hv) h
      · rw [if_neg hc] at h
        cases h
    · rw [if_neg hc] at h
      rw [brI_ge_n hc]
      show Ex (d + 2) kX10_letters 65 [some (vR (10, 0, 0)), some (vI x1), some (vI x2), some (vI x3)] [] hp _
      refine Ex.go 1 (pc' := 66) (ls' := [some (vR (10, 0, 0)), some (vI x1), some (vI x2), some (vI x3)]) (st' := [vI x2]) (hp' := hp) (fun _ => rfl) ?_
      cases h
      exact Ex.ret rfl rfl rfl
def fX10_letters_23 (x1 : Int32) (hp : HP) : Option (Int32 × HP) := fX10_letters_27 FU x1 0 0 hp
theorem exX10_letters_23 {d : Nat} {x1 : Int32} {j2 : Option VL} {j3 : Option VL} {hp : HP} {v : (Int32 × HP)} (h : fX10_letters_23 x1 hp = some v) : Ex (d + 2) kX10_letters 23 [some (vR (10, 0, 0)), some (vI x1), j2, j3] [] hp (rsI v.1 v.2) := by
  replace h : (fX10_letters_27 FU x1 0 0 hp) = some v := h
  refine Ex.go 4 (pc' := 27) (ls' := [some (vR (10, 0, 0)), some (vI x1), some (vI 0), some (vI 0)]) (st' := []) (hp' := hp) (fun _ => rfl) ?_
  exact exX10_letters_27 FU _ _ _ _ _ h
def fX10_letters (a0 : Int32) (hp : HP) : Option (Int32 × HP) := (fX10_notLoaded hp).bind fun q3 => if q3.1 = 0 then ((fX10_isSmall a0 q3.2).bind fun v4 => if v4 = 0 then ((fX10_isCapital a0 q3.2).bind fun v5 => if v5 = 0 then (some (0, q3.2)) else (fX10_letters_23 a0 q3.2)) else (fX10_letters_23 a0 q3.2)) else (some (0, q3.2))
theorem exX10_letters {d : Nat} {a0 : Int32} {hp : HP} {v : (Int32 × HP)} (h : fX10_letters a0 hp = some v) : Calls (d + 2) 245 [vR (10, 0, 0), vI a0] hp (rsI v.1 v.2) := by
  replace h : ((fX10_notLoaded hp).bind fun q3 => if q3.1 = 0 then ((fX10_isSmall a0 q3.2).bind fun v4 => if v4 = 0 then ((fX10_isCapital a0 q3.2).bind fun v5 => if v5 = 0 then (some (0, q3.2)) else (fX10_letters_23 a0 q3.2)) else (fX10_letters_23 a0 q3.2)) else (some (0, q3.2))) = some v := h
  show Ex (d + 2) kX10_letters 0 [some (vR (10, 0, 0)), some (vI a0), none, none] [] hp _
  refine Ex.go 1 (pc' := 1) (ls' := [some (vR (10, 0, 0)), some (vI a0), none, none]) (st' := [vR (10, 0, 0)]) (hp' := hp) (fun _ => rfl) ?_
  obtain ⟨q3, hv, h⟩ := Option.bind_eq_some_iff.mp h
  refine Ex.call (args := [vR (10, 0, 0)]) (rest := []) rfl rfl rfl (exX10_notLoaded (d := d + 0) hv) ?_
  show Ex (d + 2) kX10_letters 4 [some (vR (10, 0, 0)), some (vI a0), none, none] [vI q3.1] q3.2 _
  refine Ex.ifc rfl ?_
  by_cases hc : q3.1 = 0
  · rw [if_pos hc] at h
    rw [brI_ne_p hc]
    show Ex (d + 2) kX10_letters 7 [some (vR (10, 0, 0)), some (vI a0), none, none] [] q3.2 _
    refine Ex.go 1 (pc' := 8) (ls' := [some (vR (10, 0, 0)), some (vI a0), none, none]) (st' := [vI a0]) (hp' := q3.2) (fun _ => rfl) ?_
    obtain ⟨v4, hv, h⟩ := Option.bind_eq_some_iff.mp h
    refine Ex.call (args := [vI a0]) (rest := []) rfl rfl rfl (exX10_isSmall (d := d + 1) hv) ?_
    show Ex (d + 2) kX10_letters 11 [some (vR (10, 0, 0)), some (vI a0), none, none] [vI v4] q3.2 _
    refine Ex.ifc rfl ?_
    by_cases hc : v4 = 0
    · rw [if_pos hc] at h
      rw [brI_ne_p hc]
      show Ex (d + 2) kX10_letters 14 [some (vR (10, 0, 0)), some (vI a0), none, none] [] q3.2 _
      refine Ex.go 1 (pc' := 15) (ls' := [some (vR (10, 0, 0)), some (vI a0), none, none]) (st' := [vI a0]) (hp' := q3.2) (fun _ => rfl) ?_
      obtain ⟨v5, hv, h⟩ := Option.bind_eq_some_iff.mp h
      refine Ex.call (args := [vI a0]) (rest := []) rfl rfl rfl (exX10_isCapital (d := d + 1) hv) ?_
      show Ex (d + 2) kX10_letters 18 [some (vR (10, 0, 0)), some (vI a0), none, none] [vI v5] q3.2 _
      refine Ex.ifc rfl ?_
      by_cases hc : v5 = 0
      · rw [if_pos hc] at h
        rw [brI_ne_p hc]
        show Ex (d + 2) kX10_letters 21 [some (vR (10, 0, 0)), some (vI a0), none, none] [] q3.2 _
        refine Ex.go 1 (pc' := 22) (ls' := [some (vR (10, 0, 0)), some (vI a0), none, none]) (st' := [vI 0]) (hp' := q3.2) (fun _ => rfl) ?_
        cases h
        exact Ex.ret rfl rfl rfl
      · rw [if_neg hc] at h
        rw [brI_ne_n hc]
        show Ex (d + 2) kX10_letters 23 [some (vR (10, 0, 0)), some (vI a0), none, none] [] q3.2 _
        exact exX10_letters_23 h
    · rw [if_neg hc] at h
      rw [brI_ne_n hc]
      show Ex (d + 2) kX10_letters 23 [some (vR (10, 0, 0)), some (vI a0), none, none] [] q3.2 _
      exact exX10_letters_23 h
  · rw [if_neg hc] at h
    rw [brI_ne_n hc]
    show Ex (d + 2) kX10_letters 21 [some (vR (10, 0, 0)), some (vI a0), none, none] [] q3.2 _
    refine Ex.go 1 (pc' := 22) (ls' := [some (vR (10, 0, 0)), some (vI a0), none, none]) (st' := [vI 0]) (hp' := q3.2) (fun _ => rfl) ?_
    cases h
    exact Ex.ret rfl rfl rfl
end
