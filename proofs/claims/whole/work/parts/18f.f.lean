noncomputable section
def fX10_line (hp : HP) : Option HP := (fX10_isWord 3 hp).bind fun v1 => if v1 = 0 then ((fX10_isWord 4 hp).bind fun v2 => if v2 = 0 then ((fX10_fails 1 hp).bind fun hp5 => some hp5) else ((fX10_tabLine hp).bind fun hp8 => some hp8)) else ((fX10_barLine hp).bind fun hp11 => some hp11)
theorem exX10_line {d : Nat} {hp : HP} {v : HP} (h : fX10_line hp = some v) : Calls (d + 6) 186 [vR (10, 0, 0)] hp (rsV () v) := by
  replace h : ((fX10_isWord 3 hp).bind fun v1 => if v1 = 0 then ((fX10_isWord 4 hp).bind fun v2 => if v2 = 0 then ((fX10_fails 1 hp).bind fun hp5 => some hp5) else ((fX10_tabLine hp).bind fun hp8 => some hp8)) else ((fX10_barLine hp).bind fun hp11 => some hp11)) = some v := h
  show Ex (d + 6) kX10_line 0 [some (vR (10, 0, 0))] [] hp _
  refine Ex.go 2 (pc' := 3) (ls' := [some (vR (10, 0, 0))]) (st' := [vR (20, 3, 0), vR (10, 0, 0)]) (hp' := hp) (fun _ => rfl) ?_
  obtain ⟨v1, hv, h⟩ := Option.bind_eq_some_iff.mp h
  refine Ex.call (args := [vR (10, 0, 0), vR (20, 3, 0)]) (rest := []) rfl rfl rfl (exX10_isWord (d := d + 0) hv) ?_
  show Ex (d + 6) kX10_line 6 [some (vR (10, 0, 0))] [vI v1] hp _
  refine Ex.ifc rfl ?_
  by_cases hc : v1 = 0
  · rw [if_pos hc] at h
    rw [brI_eq_p hc]
    show Ex (d + 6) kX10_line 16 [some (vR (10, 0, 0))] [] hp _
    refine Ex.go 2 (pc' := 19) (ls' := [some (vR (10, 0, 0))]) (st' := [vR (20, 4, 0), vR (10, 0, 0)]) (hp' := hp) (fun _ => rfl) ?_
    obtain ⟨v2, hv, h⟩ := Option.bind_eq_some_iff.mp h
    refine Ex.call (args := [vR (10, 0, 0), vR (20, 4, 0)]) (rest := []) rfl rfl rfl (exX10_isWord (d := d + 0) hv) ?_
    show Ex (d + 6) kX10_line 22 [some (vR (10, 0, 0))] [vI v2] hp _
    refine Ex.ifc rfl ?_
    by_cases hc : v2 = 0
    · rw [if_pos hc] at h
      rw [brI_eq_p hc]
      show Ex (d + 6) kX10_line 32 [some (vR (10, 0, 0))] [] hp _
      refine Ex.go 2 (pc' := 34) (ls' := [some (vR (10, 0, 0))]) (st' := [vI 1, vR (10, 0, 0)]) (hp' := hp) (fun _ => rfl) ?_
      obtain ⟨hp5, hv, h⟩ := Option.bind_eq_some_iff.mp h
      refine Ex.call (args := [vR (10, 0, 0), vI 1]) (rest := []) rfl rfl rfl (exX10_fails (d := d + 5) hv) ?_
      show Ex (d + 6) kX10_line 37 [some (vR (10, 0, 0))] [] hp5 _
      cases h
      exact Ex.ret rfl rfl rfl
    · rw [if_neg hc] at h
      rw [brI_eq_n hc]
      show Ex (d + 6) kX10_line 25 [some (vR (10, 0, 0))] [] hp _
      refine Ex.go 1 (pc' := 26) (ls' := [some (vR (10, 0, 0))]) (st' := [vR (10, 0, 0)]) (hp' := hp) (fun _ => rfl) ?_
      obtain ⟨hp8, hv, h⟩ := Option.bind_eq_some_iff.mp h
      refine Ex.call (args := [vR (10, 0, 0)]) (rest := []) rfl rfl rfl (exX10_tabLine (d := d + 2) hv) ?_
      show Ex (d + 6) kX10_line 29 [some (vR (10, 0, 0))] [] hp8 _
      refine Ex.go 1 (pc' := 37) (ls' := [some (vR (10, 0, 0))]) (st' := []) (hp' := hp8) (fun _ => rfl) ?_
      cases h
      exact Ex.ret rfl rfl rfl
  · rw [if_neg hc] at h
    rw [brI_eq_n hc]
    show Ex (d + 6) kX10_line 9 [some (vR (10, 0, 0))] [] hp _
    refine Ex.go 1 (pc' := 10) (ls' := [some (vR (10, 0, 0))]) (st' := [vR (10, 0, 0)]) (hp' := hp) (fun _ => rfl) ?_
    obtain ⟨hp11, hv, h⟩ := Option.bind_eq_some_iff.mp h
    refine Ex.call (args := [vR (10, 0, 0)]) (rest := []) rfl rfl rfl (exX10_barLine (d := d + 1) hv) ?_
    show Ex (d + 6) kX10_line 13 [some (vR (10, 0, 0))] [] hp11 _
    refine Ex.go 1 (pc' := 37) (ls' := [some (vR (10, 0, 0))]) (st' := []) (hp' := hp11) (fun _ => rfl) ?_
    cases h
    exact Ex.ret rfl rfl rfl
def fX10_readsHead (hp : HP) : Option HP := (fX10_word 0 hp).bind fun hp3 => (fX10_takes 10 40 hp3).bind fun q5 => (fX10_puts 0 q5.1 q5.2).bind fun hp8 => (fX10_takes 1 12 hp8).bind fun q10 => (fX10_puts 1 q10.1 q10.2).bind fun hp13 => (fX10_its 0 hp13).bind fun v14 => (fX10_takes 0 (v14 - 2) hp13).bind fun q16 => (fX10_puts 2 q16.1 q16.2).bind fun hp19 => (fX10_its 2 hp19).bind fun v20 => (fX10_its 0 hp19).bind fun v21 => (fX10_takes (v20 + 1) (v21 - 1) hp19).bind fun q23 => (fX10_puts 3 q23.1 q23.2).bind fun hp26 => (fX10_its 3 hp26).bind fun v27 => (fX10_its 2 hp26).bind fun v28 => (fX10_takes 0 (v27 - v28) hp26).bind fun q30 => (fX10_puts 4 q30.1 q30.2).bind fun hp33 => (fX10_semicolon hp33).bind fun hp36 => (fX10_word 1 hp36).bind fun hp39 => (fX10_takes 1 999 hp39).bind fun q41 => (fX10_puts 5 q41.1 q41.2).bind fun hp44 => (fX10_takes 1 99 hp44).bind fun q46 => (fX10_puts 6 q46.1 q46.2).bind fun hp49 => (fX10_takes 0 99 hp49).bind fun q51 => (fX10_puts 7 q51.1 q51.2).bind fun hp54 => (fX10_takes 0 99 hp54).bind fun q56 => (fX10_puts 8 q56.1 q56.2).bind fun hp59 => (fX10_semicolon hp59).bind fun hp62 => (fX10_word 2 hp62).bind fun hp65 => (fX10_takes 5 60 hp65).bind fun q67 => (fX10_puts 9 q67.1 q67.2).bind fun hp70 => (fX10_takes 1 9 hp70).bind fun q72 => (fX10_puts 10 q72.1 q72.2).bind fun hp75 => (fX10_takes 0 3 hp75).bind fun q77 => (fX10_puts 11 q77.1 q77.2).bind fun hp80 => some hp80
theorem exX10_readsHead {d : Nat} {hp : HP} {v : HP} (h : fX10_readsHead hp = some v) : Calls (d + 7) 187 [vR (10, 0, 0)] hp (rsV () v) := by
  replace h : ((fX10_word 0 hp).bind fun hp3 => (fX10_takes 10 40 hp3).bind fun q5 => (fX10_puts 0 q5.1 q5.2).bind fun hp8 => (fX10_takes 1 12 hp8).bind fun q10 => (fX10_puts 1 q10.1 q10.2).bind fun hp13 => (fX10_its 0 hp13).bind fun v14 => (fX10_takes 0 (v14 - 2) hp13).bind fun q16 => (fX10_puts 2 q16.1 q16.2).bind fun hp19 => (fX10_its 2 hp19).bind fun v20 => (fX10_its 0 hp19).bind fun v21 => (fX10_takes (v20 + 1) (v21 - 1) hp19).bind fun q23 => (fX10_puts 3 q23.1 q23.2).bind fun hp26 => (fX10_its 3 hp26).bind fun v27 => (fX10_its 2 hp26).bind fun v28 => (fX10_takes 0 (v27 - v28) hp26).bind fun q30 => (fX10_puts 4 q30.1 q30.2).bind fun hp33 => (fX10_semicolon hp33).bind fun hp36 => (fX10_word 1 hp36).bind fun hp39 => (fX10_takes 1 999 hp39).bind fun q41 => (fX10_puts 5 q41.1 q41.2).bind fun hp44 => (fX10_takes 1 99 hp44).bind fun q46 => (fX10_puts 6 q46.1 q46.2).bind fun hp49 => (fX10_takes 0 99 hp49).bind fun q51 => (fX10_puts 7 q51.1 q51.2).bind fun hp54 => (fX10_takes 0 99 hp54).bind fun q56 => (fX10_puts 8 q56.1 q56.2).bind fun hp59 => (fX10_semicolon hp59).bind fun hp62 => (fX10_word 2 hp62).bind fun hp65 => (fX10_takes 5 60 hp65).bind fun q67 => (fX10_puts 9 q67.1 q67.2).bind fun hp70 => (fX10_takes 1 9 hp70).bind fun q72 => (fX10_puts 10 q72.1 q72.2).bind fun hp75 => (fX10_takes 0 3 hp75).bind fun q77 => (fX10_puts 11 q77.1 q77.2).bind fun hp80 => some hp80) = some v := h
  show Ex (d + 7) kX10_readsHead 0 [some (vR (10, 0, 0))] [] hp _
  refine Ex.go 2 (pc' := 3) (ls' := [some (vR (10, 0, 0))]) (st' := [vR (20, 0, 0), vR (10, 0, 0)]) (hp' := hp) (fun _ => rfl) ?_
  obtain ⟨hp3, hv, h⟩ := Option.bind_eq_some_iff.mp h
  refine Ex.call (args := [vR (10, 0, 0), vR (20, 0, 0)]) (rest := []) rfl rfl rfl (exX10_word (d := d + 0) hv) ?_
  show Ex (d + 7) kX10_readsHead 6 [some (vR (10, 0, 0))] [] hp3 _
  refine Ex.go 5 (pc' := 13) (ls' := [some (vR (10, 0, 0))]) (st' := [vI 40, vI 10, vR (10, 0, 0), vI 0, vR (10, 0, 0)]) (hp' := hp3) (fun _ => rfl) ?_
  obtain ⟨q5, hv, h⟩ := Option.bind_eq_some_iff.mp h
  refine Ex.call (args := [vR (10, 0, 0), vI 10, vI 40]) (rest := [vI 0, vR (10, 0, 0)]) rfl rfl rfl (exX10_takes (d := d + 3) hv) ?_
  show Ex (d + 7) kX10_readsHead 16 [some (vR (10, 0, 0))] [vI q5.1, vI 0, vR (10, 0, 0)] q5.2 _
  obtain ⟨hp8, hv, h⟩ := Option.bind_eq_some_iff.mp h
  refine Ex.call (args := [vR (10, 0, 0), vI 0, vI q5.1]) (rest := []) rfl rfl rfl (exX10_puts (d := d + 6) hv) ?_
  show Ex (d + 7) kX10_readsHead 19 [some (vR (10, 0, 0))] [] hp8 _
  refine Ex.go 5 (pc' := 25) (ls' := [some (vR (10, 0, 0))]) (st' := [vI 12, vI 1, vR (10, 0, 0), vI 1, vR (10, 0, 0)]) (hp' := hp8) (fun _ => rfl) ?_
  obtain ⟨q10, hv, h⟩ := Option.bind_eq_some_iff.mp h
  refine Ex.call (args := [vR (10, 0, 0), vI 1, vI 12]) (rest := [vI 1, vR (10, 0, 0)]) rfl rfl rfl (exX10_takes (d := d + 3) hv) ?_
  show Ex (d + 7) kX10_readsHead 28 [some (vR (10, 0, 0))] [vI q10.1, vI 1, vR (10, 0, 0)] q10.2 _
  obtain ⟨hp13, hv, h⟩ := Option.bind_eq_some_iff.mp h
  refine Ex.call (args := [vR (10, 0, 0), vI 1, vI q10.1]) (rest := []) rfl rfl rfl (exX10_puts (d := d + 6) hv) ?_
  show Ex (d + 7) kX10_readsHead 31 [some (vR (10, 0, 0))] [] hp13 _
  refine Ex.go 6 (pc' := 37) (ls' := [some (vR (10, 0, 0))]) (st' := [vI 0, vR (10, 0, 0), vI 0, vR (10, 0, 0), vI 2, vR (10, 0, 0)]) (hp' := hp13) (fun _ => rfl) ?_
  obtain ⟨v14, hv, h⟩ := Option.bind_eq_some_iff.mp h
  refine Ex.call (args := [vR (10, 0, 0), vI 0]) (rest := [vI 0, vR (10, 0, 0), vI 2, vR (10, 0, 0)]) rfl rfl rfl (exX10_its (d := d + 6) hv) ?_
  show Ex (d + 7) kX10_readsHead 40 [some (vR (10, 0, 0))] [vI v14, vI 0, vR (10, 0, 0), vI 2, vR (10, 0, 0)] hp13 _
  refine Ex.go 2 (pc' := 42) (ls' := [some (vR (10, 0, 0))]) (st' := [vI (v14 - 2), vI 0, vR (10, 0, 0), vI 2, vR (10, 0, 0)]) (hp' := hp13) (fun _ => rfl) ?_
  obtain ⟨q16, hv, h⟩ := Option.bind_eq_some_iff.mp h
  refine Ex.call (args := [vR (10, 0, 0), vI 0, vI (v14 - 2)]) (rest := [vI 2, vR (10, 0, 0)]) rfl rfl rfl (exX10_takes (d := d + 3) hv) ?_
  show Ex (d + 7) kX10_readsHead 45 [some (vR (10, 0, 0))] [vI q16.1, vI 2, vR (10, 0, 0)] q16.2 _
  obtain ⟨hp19, hv, h⟩ := Option.bind_eq_some_iff.mp h
  refine Ex.call (args := [vR (10, 0, 0), vI 2, vI q16.1]) (rest := []) rfl rfl rfl (exX10_puts (d := d + 6) hv) ?_
  show Ex (d + 7) kX10_readsHead 48 [some (vR (10, 0, 0))] [] hp19 _
  refine Ex.go 5 (pc' := 53) (ls' := [some (vR (10, 0, 0))]) (st' := [vI 2, vR (10, 0, 0), vR (10, 0, 0), vI 3, vR (10, 0, 0)]) (hp' := hp19) (fun _ => rfl) ?_
  obtain ⟨v20, hv, h⟩ := Option.bind_eq_some_iff.mp h
  refine Ex.call (args := [vR (10, 0, 0), vI 2]) (rest := [vR (10, 0, 0), vI 3, vR (10, 0, 0)]) rfl rfl rfl (exX10_its (d := d + 6) hv) ?_
  show Ex (d + 7) kX10_readsHead 56 [some (vR (10, 0, 0))] [vI v20, vR (10, 0, 0), vI 3, vR (10, 0, 0)] hp19 _
  refine Ex.go 4 (pc' := 60) (ls' := [some (vR (10, 0, 0))]) (st' := [vI 0, vR (10, 0, 0), vI (v20 + 1), vR (10, 0, 0), vI 3, vR (10, 0, 0)]) (hp' := hp19) (fun _ => rfl) ?_
  obtain ⟨v21, hv, h⟩ := Option.bind_eq_some_iff.mp h
  refine Ex.call (args := [vR (10, 0, 0), vI 0]) (rest := [vI (v20 + 1), vR (10, 0, 0), vI 3, vR (10, 0, 0)]) rfl rfl rfl (exX10_its (d := d + 6) hv) ?_
  show Ex (d + 7) kX10_readsHead 63 [some (vR (10, 0, 0))] [vI v21, vI (v20 + 1), vR (10, 0, 0), vI 3, vR (10, 0, 0)] hp19 _
  refine Ex.go 2 (pc' := 65) (ls' := [some (vR (10, 0, 0))]) (st' := [vI (v21 - 1), vI (v20 + 1), vR (10, 0, 0), vI 3, vR (10, 0, 0)]) (hp' := hp19) (fun _ => rfl) ?_
  obtain ⟨q23, hv, h⟩ := Option.bind_eq_some_iff.mp h
  refine Ex.call (args := [vR (10, 0, 0), vI (v20 + 1), vI (v21 - 1)]) (rest := [vI 3, vR (10, 0, 0)]) rfl rfl rfl (exX10_takes (d := d + 3) hv) ?_
  show Ex (d + 7) kX10_readsHead 68 [some (vR (10, 0, 0))] [vI q23.1, vI 3, vR (10, 0, 0)] q23.2 _
  obtain ⟨hp26, hv, h⟩ := Option.bind_eq_some_iff.mp h
  refine Ex.call (args := [vR (10, 0, 0), vI 3, vI q23.1]) (rest := []) rfl rfl rfl (exX10_puts (d := d + 6) hv) ?_
  show Ex (d + 7) kX10_readsHead 71 [some (vR (10, 0, 0))] [] hp26 _
  refine Ex.go 6 (pc' := 77) (ls' := [some (vR (10, 0, 0))]) (st' := [vI 3, vR (10, 0, 0), vI 0, vR (10, 0, 0), vI 4, vR (10, 0, 0)]) (hp' := hp26) (fun _ => rfl) ?_
  obtain ⟨v27, hv, h⟩ := Option.bind_eq_some_iff.mp h
  refine Ex.call (args := [vR (10, 0, 0), vI 3]) (rest := [vI 0, vR (10, 0, 0), vI 4, vR (10, 0, 0)]) rfl rfl rfl (exX10_its (d := d + 6) hv) ?_
  show Ex (d + 7) kX10_readsHead 80 [some (vR (10, 0, 0))] [vI v27, vI 0, vR (10, 0, 0), vI 4, vR (10, 0, 0)] hp26 _
  refine Ex.go 2 (pc' := 82) (ls' := [some (vR (10, 0, 0))]) (st' := [vI 2, vR (10, 0, 0), vI v27, vI 0, vR (10, 0, 0), vI 4, vR (10, 0, 0)]) (hp' := hp26) (fun _ => rfl) ?_
  obtain ⟨v28, hv, h⟩ := Option.bind_eq_some_iff.mp h
  refine Ex.call (args := [vR (10, 0, 0), vI 2]) (rest := [vI v27, vI 0, vR (10, 0, 0), vI 4, vR (10, 0, 0)]) rfl rfl rfl (exX10_its (d := d + 6) hv) ?_
  show Ex (d + 7) kX10_readsHead 85 [some (vR (10, 0, 0))] [vI v28, vI v27, vI 0, vR (10, 0, 0), vI 4, vR (10, 0, 0)] hp26 _
  refine Ex.go 1 (pc' := 86) (ls' := [some (vR (10, 0, 0))]) (st' := [vI (v27 - v28), vI 0, vR (10, 0, 0), vI 4, vR (10, 0, 0)]) (hp' := hp26) (fun _ => rfl) ?_
  obtain ⟨q30, hv, h⟩ := Option.bind_eq_some_iff.mp h
  refine Ex.call (args := [vR (10, 0, 0), vI 0, vI (v27 - v28)]) (rest := [vI 4, vR (10, 0, 0)]) rfl rfl rfl (exX10_takes (d := d + 3) hv) ?_
  show Ex (d + 7) kX10_readsHead 89 [some (vR (10, 0, 0))] [vI q30.1, vI 4, vR (10, 0, 0)] q30.2 _
  obtain ⟨hp33, hv, h⟩ := Option.bind_eq_some_iff.mp h
  refine Ex.call (args := [vR (10, 0, 0), vI 4, vI q30.1]) (rest := []) rfl rfl rfl (exX10_puts (d := d + 6) hv) ?_
  show Ex (d + 7) kX10_readsHead 92 [some (vR (10, 0, 0))] [] hp33 _
  refine Ex.go 1 (pc' := 93) (ls' := [some (vR (10, 0, 0))]) (st' := [vR (10, 0, 0)]) (hp' := hp33) (fun _ => rfl) ?_
  obtain ⟨hp36, hv, h⟩ := Option.bind_eq_some_iff.mp h
  refine Ex.call (args := [vR (10, 0, 0)]) (rest := []) rfl rfl rfl (exX10_semicolon (d := d + 3) hv) ?_
  show Ex (d + 7) kX10_readsHead 96 [some (vR (10, 0, 0))] [] hp36 _
  refine Ex.go 2 (pc' := 99) (ls' := [some (vR (10, 0, 0))]) (st' := [vR (20, 1, 0), vR (10, 0, 0)]) (hp' := hp36) (fun _ => rfl) ?_
  obtain ⟨hp39, hv, h⟩ := Option.bind_eq_some_iff.mp h
  refine Ex.call (args := [vR (10, 0, 0), vR (20, 1, 0)]) (rest := []) rfl rfl rfl (exX10_word (d := d + 0) hv) ?_
  show Ex (d + 7) kX10_readsHead 102 [some (vR (10, 0, 0))] [] hp39 _
  refine Ex.go 5 (pc' := 109) (ls' := [some (vR (10, 0, 0))]) (st' := [vI 999, vI 1, vR (10, 0, 0), vI 5, vR (10, 0, 0)]) (hp' := hp39) (fun _ => rfl) ?_
  obtain ⟨q41, hv, h⟩ := Option.bind_eq_some_iff.mp h
  refine Ex.call (args := [vR (10, 0, 0), vI 1, vI 999]) (rest := [vI 5, vR (10, 0, 0)]) rfl rfl rfl (exX10_takes (d := d + 3) hv) ?_
  show Ex (d + 7) kX10_readsHead 112 [some (vR (10, 0, 0))] [vI q41.1, vI 5, vR (10, 0, 0)] q41.2 _
  obtain ⟨hp44, hv, h⟩ := Option.bind_eq_some_iff.mp h
  refine Ex.call (args := [vR (10, 0, 0), vI 5, vI q41.1]) (rest := []) rfl rfl rfl (exX10_puts (d := d + 6) hv) ?_
  show Ex (d + 7) kX10_readsHead 115 [some (vR (10, 0, 0))] [] hp44 _
  refine Ex.go 5 (pc' := 122) (ls' := [some (vR (10, 0, 0))]) (st' := [vI 99, vI 1, vR (10, 0, 0), vI 6, vR (10, 0, 0)]) (hp' := hp44) (fun _ => rfl) ?_
  obtain ⟨q46, hv, h⟩ := Option.bind_eq_some_iff.mp h
  refine Ex.call (args := [vR (10, 0, 0), vI 1, vI 99]) (rest := [vI 6, vR (10, 0, 0)]) rfl rfl rfl (exX10_takes (d := d + 3) hv) ?_
  show Ex (d + 7) kX10_readsHead 125 [some (vR (10, 0, 0))] [vI q46.1, vI 6, vR (10, 0, 0)] q46.2 _
  obtain ⟨hp49, hv, h⟩ := Option.bind_eq_some_iff.mp h
  refine Ex.call (args := [vR (10, 0, 0), vI 6, vI q46.1]) (rest := []) rfl rfl rfl (exX10_puts (d := d + 6) hv) ?_
  show Ex (d + 7) kX10_readsHead 128 [some (vR (10, 0, 0))] [] hp49 _
  refine Ex.go 5 (pc' := 135) (ls' := [some (vR (10, 0, 0))]) (st' := [vI 99, vI 0, vR (10, 0, 0), vI 7, vR (10, 0, 0)]) (hp' := hp49) (fun _ => rfl) ?_
  obtain ⟨q51, hv, h⟩ := Option.bind_eq_some_iff.mp h
  refine Ex.call (args := [vR (10, 0, 0), vI 0, vI 99]) (rest := [vI 7, vR (10, 0, 0)]) rfl rfl rfl (exX10_takes (d := d + 3) hv) ?_
  show Ex (d + 7) kX10_readsHead 138 [some (vR (10, 0, 0))] [vI q51.1, vI 7, vR (10, 0, 0)] q51.2 _
  obtain ⟨hp54, hv, h⟩ := Option.bind_eq_some_iff.mp h
  refine Ex.call (args := [vR (10, 0, 0), vI 7, vI q51.1]) (rest := []) rfl rfl rfl (exX10_puts (d := d + 6) hv) ?_
  show Ex (d + 7) kX10_readsHead 141 [some (vR (10, 0, 0))] [] hp54 _
  refine Ex.go 5 (pc' := 148) (ls' := [some (vR (10, 0, 0))]) (st' := [vI 99, vI 0, vR (10, 0, 0), vI 8, vR (10, 0, 0)]) (hp' := hp54) (fun _ => rfl) ?_
  obtain ⟨q56, hv, h⟩ := Option.bind_eq_some_iff.mp h
  refine Ex.call (args := [vR (10, 0, 0), vI 0, vI 99]) (rest := [vI 8, vR (10, 0, 0)]) rfl rfl rfl (exX10_takes (d := d + 3) hv) ?_
  show Ex (d + 7) kX10_readsHead 151 [some (vR (10, 0, 0))] [vI q56.1, vI 8, vR (10, 0, 0)] q56.2 _
  obtain ⟨hp59, hv, h⟩ := Option.bind_eq_some_iff.mp h
  refine Ex.call (args := [vR (10, 0, 0), vI 8, vI q56.1]) (rest := []) rfl rfl rfl (exX10_puts (d := d + 6) hv) ?_
  show Ex (d + 7) kX10_readsHead 154 [some (vR (10, 0, 0))] [] hp59 _
  refine Ex.go 1 (pc' := 155) (ls' := [some (vR (10, 0, 0))]) (st' := [vR (10, 0, 0)]) (hp' := hp59) (fun _ => rfl) ?_
  obtain ⟨hp62, hv, h⟩ := Option.bind_eq_some_iff.mp h
  refine Ex.call (args := [vR (10, 0, 0)]) (rest := []) rfl rfl rfl (exX10_semicolon (d := d + 3) hv) ?_
  show Ex (d + 7) kX10_readsHead 158 [some (vR (10, 0, 0))] [] hp62 _
  refine Ex.go 2 (pc' := 161) (ls' := [some (vR (10, 0, 0))]) (st' := [vR (20, 2, 0), vR (10, 0, 0)]) (hp' := hp62) (fun _ => rfl) ?_
  obtain ⟨hp65, hv, h⟩ := Option.bind_eq_some_iff.mp h
  refine Ex.call (args := [vR (10, 0, 0), vR (20, 2, 0)]) (rest := []) rfl rfl rfl (exX10_word (d := d + 0) hv) ?_
  show Ex (d + 7) kX10_readsHead 164 [some (vR (10, 0, 0))] [] hp65 _
  refine Ex.go 5 (pc' := 171) (ls' := [some (vR (10, 0, 0))]) (st' := [vI 60, vI 5, vR (10, 0, 0), vI 9, vR (10, 0, 0)]) (hp' := hp65) (fun _ => rfl) ?_
  obtain ⟨q67, hv, h⟩ := Option.bind_eq_some_iff.mp h
  refine Ex.call (args := [vR (10, 0, 0), vI 5, vI 60]) (rest := [vI 9, vR (10, 0, 0)]) rfl rfl rfl (exX10_takes (d := d + 3) hv) ?_
  show Ex (d + 7) kX10_readsHead 174 [some (vR (10, 0, 0))] [vI q67.1, vI 9, vR (10, 0, 0)] q67.2 _
  obtain ⟨hp70, hv, h⟩ := Option.bind_eq_some_iff.mp h
  refine Ex.call (args := [vR (10, 0, 0), vI 9, vI q67.1]) (rest := []) rfl rfl rfl (exX10_puts (d := d + 6) hv) ?_
  show Ex (d + 7) kX10_readsHead 177 [some (vR (10, 0, 0))] [] hp70 _
  refine Ex.go 5 (pc' := 184) (ls' := [some (vR (10, 0, 0))]) (st' := [vI 9, vI 1, vR (10, 0, 0), vI 10, vR (10, 0, 0)]) (hp' := hp70) (fun _ => rfl) ?_
  obtain ⟨q72, hv, h⟩ := Option.bind_eq_some_iff.mp h
  refine Ex.call (args := [vR (10, 0, 0), vI 1, vI 9]) (rest := [vI 10, vR (10, 0, 0)]) rfl rfl rfl (exX10_takes (d := d + 3) hv) ?_
  show Ex (d + 7) kX10_readsHead 187 [some (vR (10, 0, 0))] [vI q72.1, vI 10, vR (10, 0, 0)] q72.2 _
  obtain ⟨hp75, hv, h⟩ := Option.bind_eq_some_iff.mp h
  refine Ex.call (args := [vR (10, 0, 0), vI 10, vI q72.1]) (rest := []) rfl rfl rfl (exX10_puts (d := d + 6) hv) ?_
  show Ex (d + 7) kX10_readsHead 190 [some (vR (10, 0, 0))] [] hp75 _
  refine Ex.go 5 (pc' := 196) (ls' := [some (vR (10, 0, 0))]) (st' := [vI 3, vI 0, vR (10, 0, 0), vI 11, vR (10, 0, 0)]) (hp' := hp75) (fun _ => rfl) ?_
  obtain ⟨q77, hv, h⟩ := Option.bind_eq_some_iff.mp h
  refine Ex.call (args := [vR (10, 0, 0), vI 0, vI 3]) (rest := [vI 11, vR (10, 0, 0)]) rfl rfl rfl (exX10_takes (d := d + 3) hv) ?_
  show Ex (d + 7) kX10_readsHead 199 [some (vR (10, 0, 0))] [vI q77.1, vI 11, vR (10, 0, 0)] q77.2 _
  obtain ⟨hp80, hv, h⟩ := Option.bind_eq_some_iff.mp h
  refine Ex.call (args := [vR (10, 0, 0), vI 11, vI q77.1]) (rest := []) rfl rfl rfl (exX10_puts (d := d + 6) hv) ?_
  show Ex (d + 7) kX10_readsHead 202 [some (vR (10, 0, 0))] [] hp80 _
  cases h
  exact Ex.ret rfl rfl rfl
def fX10_fillsRibbon_37 (x1 : Int32) (ws0 : Nat) (ms0 : Nat) (y1 : Int32) (y2 : Int32) (k2 : Int32 → HP → Option HP) (hp : HP) : Option HP := if inb y1 (alen (11, ws0, ms0)) = true then (k2 (x1 + 1) (up hp (11, ws0, ms0) (y1.toNatClampNeg) y2)) else none
theorem exX10_fillsRibbon_37 {d : Nat} {x1 : Int32} {ws0 : Nat} {ms0 : Nat} {y1 : Int32} {y2 : Int32} {hp : HP} {v : HP} {k2 : Int32 → HP → Option HP} (hk2 : ∀ (x1 : Int32) (hp : HP) (v : HP), k2 x1 hp = some v → Ex (d + 1) kX10_fillsRibbon 2 [some (vR (10, 0, 0)), some (vI x1)] [] hp (rsV () v)) (h : fX10_fillsRibbon_37 x1 ws0 ms0 y1 y2 k2 hp = some v) : Ex (d + 1) kX10_fillsRibbon 37 [some (vR (10, 0, 0)), some (vI x1)] [vI y2, vI y1, vR (11, ws0, ms0)] hp (rsV () v) := by
  replace h : (if inb y1 (alen (11, ws0, ms0)) = true then (k2 (x1 + 1) (up hp (11, ws0, ms0) (y1.toNatClampNeg) y2)) else none) = some v := h
  by_cases hc : inb y1 (alen (11, ws0, ms0)) = true
  · rw [if_pos hc] at h
    refine Ex.iast rfl rfl hc rfl ?_
    show Ex (d + 1) kX10_fillsRibbon 38 [some (vR (10, 0, 0)), some (vI x1)] [] (up hp (11, ws0, ms0) (y1.toNatClampNeg) y2) _
    refine Ex.go 2 (pc' := 2) (ls' := [some (vR (10, 0, 0)), some (vI (x1 + 1))]) (st' := []) (hp' := (up hp (11, ws0, ms0) (y1.toNatClampNeg) y2)) (fun _ => rfl) ?_
    exact hk2 _ _ _ h
  · rw [if_neg hc] at h
    cases h
def fX10_fillsRibbon_2 (n : Nat) (x1 : Int32) (hp : HP) : Option HP := match n with
  | 0 => none
  | n + 1 => if x1 < 60 then ((fX10_its 9 hp).bind fun v1 => if x1 < v1 then ((fX10_its 10 hp).bind fun v2 => fX10_fillsRibbon_37 x1 22 0 (130 + x1) v2 (fun x1 hq => fX10_fillsRibbon_2 n x1 hq) hp) else (fX10_fillsRibbon_37 x1 22 0 (130 + x1) 0 (fun x1 hq => fX10_fillsRibbon_2 n x1 hq) hp)) else (some (up (up hp (11, 22, 0) 7 0) (11, 22, 0) 8 1))
theorem exX10_fillsRibbon_2 {d : Nat} : ∀ (n : Nat) (x1 : Int32) (hp : HP) (v : HP), fX10_fillsRibbon_2 n x1 hp = some v → Ex (d + 1) kX10_fillsRibbon 2 [some (vR (10, 0, 0)), some (vI x1)] [] hp (rsV () v) := by
  intro n
  induction n with
  | zero =>
    intro x1 hp v h
    cases h
  | succ n ih =>
    intro x1 hp v h
    replace h : (if x1 < 60 then ((fX10_its 9 hp).bind fun v1 => if x1 < v1 then ((fX10_its 10 hp).bind fun v2 => fX10_fillsRibbon_37 x1 22 0 (130 + x1) v2 (fun x1 hq => fX10_fillsRibbon_2 n x1 hq) hp) else (fX10_fillsRibbon_37 x1 22 0 (130 + x1) 0 (fun x1 hq => fX10_fillsRibbon_2 n x1 hq) hp)) else (some (up (up hp (11, 22, 0) 7 0) (11, 22, 0) 8 1))) = some v := h
    refine Ex.go 2 (pc' := 5) (ls' := [some (vR (10, 0, 0)), some (vI x1)]) (st' := [vI 60, vI x1]) (hp' := hp) (fun _ => rfl) ?_
    refine Ex.icmp rfl ?_
    by_cases hc : x1 < 60
    · rw [if_pos hc] at h
      rw [brI_ge_p hc]
      show Ex (d + 1) kX10_fillsRibbon 8 [some (vR (10, 0, 0)), some (vI x1)] [] hp _
      refine Ex.go 8 (pc' := 21) (ls' := [some (vR (10, 0, 0)), some (vI x1)]) (st' := [vI 9, vR (10, 0, 0), vI x1, vI (130 + x1), vR (11, 22, 0)]) (hp' := hp) (fun _ => rfl) ?_
      obtain ⟨v1, hv, h⟩ := Option.bind_eq_some_iff.mp h
      refine Ex.call (args := [vR (10, 0, 0), vI 9]) (rest := [vI x1, vI (130 + x1), vR (11, 22, 0)]) rfl rfl rfl (exX10_its (d := d + 0) hv) ?_
      show Ex (d + 1) kX10_fillsRibbon 24 [some (vR (10, 0, 0)), some (vI x1)] [vI v1, vI x1, vI (130 + x1), vR (11, 22, 0)] hp _
      refine Ex.icmp rfl ?_
      by_cases hc : x1 < v1
      · rw [if_pos hc] at h
        rw [brI_ge_p hc]
        show Ex (d + 1) kX10_fillsRibbon 27 [some (vR (10, 0, 0)), some (vI x1)] [vI (130 + x1), vR (11, 22, 0)] hp _
        refine Ex.go 2 (pc' := 30) (ls' := [some (vR (10, 0, 0)), some (vI x1)]) (st' := [vI 10, vR (10, 0, 0), vI (130 + x1), vR (11, 22, 0)]) (hp' := hp) (fun _ => rfl) ?_
        obtain ⟨v2, hv, h⟩ := Option.bind_eq_some_iff.mp h
        refine Ex.call (args := [vR (10, 0, 0), vI 10]) (rest := [vI (130 + x1), vR (11, 22, 0)]) rfl rfl rfl (exX10_its (d := d + 0) hv) ?_
        show Ex (d + 1) kX10_fillsRibbon 33 [some (vR (10, 0, 0)), some (vI x1)] [vI v2, vI (130 + x1), vR (11, 22, 0)] hp _
        refine Ex.go 1 (pc' := 37) (ls' := [some (vR (10, 0, 0)), some (vI x1)]) (st' := [vI v2, vI (130 + x1), vR (11, 22, 0)]) (hp' := hp) (fun _ => rfl) ?_
        exact exX10_fillsRibbon_37 (fun q0 q1 q2 hv => ih q0 q1 q2 hv) h
      · rw [if_neg hc] at h
        rw [brI_ge_n hc]
        show Ex (d + 1) kX10_fillsRibbon 36 [some (vR (10, 0, 0)), some (vI x1)] [vI (130 + x1), vR (11, 22, 0)] hp _
        refine Ex.go 1 (pc' := 37) (ls' := [some (vR (10, 0, 0)), some (vI x1)]) (st' := [vI 0, vI (130 + x1), vR (11, 22, 0)]) (hp' := hp) (fun _ => rfl) ?_
        exact exX10_fillsRibbon_37 (fun q0 q1 q2 hv => ih q0 q1 q2 hv) h
    · rw [if_neg hc] at h
      rw [brI_ge_n hc]
      show Ex (d + 1) kX10_fillsRibbon 44 [some (vR (10, 0, 0)), some (vI x1)] [] hp _
      refine Ex.go 4 (pc' := 51) (ls' := [some (vR (10, 0, 0)), some (vI x1)]) (st' := [vI 0, vI 7, vR (11, 22, 0)]) (hp' := hp) (fun _ => rfl) ?_
      refine Ex.iast (k := 7) rfl rfl (by decide) (by decide) ?_
      show Ex (d + 1) kX10_fillsRibbon 52 [some (vR (10, 0, 0)), some (vI x1)] [] (up hp (11, 22, 0) 7 0) _
      refine Ex.go 4 (pc' := 59) (ls' := [some (vR (10, 0, 0)), some (vI x1)]) (st' := [vI 1, vI 8, vR (11, 22, 0)]) (hp' := (up hp (11, 22, 0) 7 0)) (fun _ => rfl) ?_
      refine Ex.iast (k := 8) rfl rfl (by decide) (by decide) ?_
      show Ex (d + 1) kX10_fillsRibbon 60 [some (vR (10, 0, 0)), some (vI x1)] [] (up (up hp (11, 22, 0) 7 0) (11, 22, 0) 8 1) _
      cases h
      exact Ex.ret rfl rfl rfl
def fX10_fillsRibbon (hp : HP) : Option HP := fX10_fillsRibbon_2 FU 0 hp
theorem exX10_fillsRibbon {d : Nat} {hp : HP} {v : HP} (h : fX10_fillsRibbon hp = some v) : Calls (d + 1) 189 [vR (10, 0, 0)] hp (rsV () v) := by
  replace h : (fX10_fillsRibbon_2 FU 0 hp) = some v := h
  show Ex (d + 1) kX10_fillsRibbon 0 [some (vR (10, 0, 0)), none] [] hp _
  refine Ex.go 2 (pc' := 2) (ls' := [some (vR (10, 0, 0)), some (vI 0)]) (st' := []) (hp' := hp) (fun _ => rfl) ?_
  exact exX10_fillsRibbon_2 FU _ _ _ h
def fX10_reads_71 (y1 : Int32) (hp : HP) : Option HP := (fX10_failsIf y1 1 hp).bind fun hp3 => (fX10_its 2 hp3).bind fun v4 => (fX10_fillsRibbon (up hp3 (11, 22, 0) 1 v4)).bind fun hp7 => some hp7
theorem exX10_reads_71 {d : Nat} {y1 : Int32} {j1 : Option VL} {hp : HP} {v : HP} (h : fX10_reads_71 y1 hp = some v) : Ex (d + 8) kX10_reads 71 [some (vR (10, 0, 0)), j1] [vI y1, vR (10, 0, 0)] hp (rsV () v) := by
  replace h : ((fX10_failsIf y1 1 hp).bind fun hp3 => (fX10_its 2 hp3).bind fun v4 => (fX10_fillsRibbon (up hp3 (11, 22, 0) 1 v4)).bind fun hp7 => some hp7) = some v := h
  refine Ex.go 1 (pc' := 72) (ls' := [some (vR (10, 0, 0)), j1]) (st' := [vI 1, vI y1, vR (10, 0, 0)]) (hp' := hp) (fun _ => rfl) ?_
  obtain ⟨hp3, hv, h⟩ := Option.bind_eq_some_iff.mp h
  refine Ex.call (args := [vR (10, 0, 0), vI y1, vI 1]) (rest := []) rfl rfl rfl (exX10_failsIf (d := d + 6) hv) ?_
  show Ex (d + 8) kX10_reads 75 [some (vR (10, 0, 0)), j1] [] hp3 _
  refine Ex.go 5 (pc' := 82) (ls' := [some (vR (10, 0, 0)), j1]) (st' := [vI 2, vR (10, 0, 0), vI 1, vR (11, 22, 0)]) (hp' := hp3) (fun _ => rfl) ?_
  obtain ⟨v4, hv, h⟩ := Option.bind_eq_some_iff.mp h
  refine Ex.call (args := [vR (10, 0, 0), vI 2]) (rest := [vI 1, vR (11, 22, 0)]) rfl rfl rfl (exX10_its (d := d + 7) hv) ?_
  show Ex (d + 8) kX10_reads 85 [some (vR (10, 0, 0)), j1] [vI v4, vI 1, vR (11, 22, 0)] hp3 _
  refine Ex.iast (k := 1) rfl rfl (by decide) (by decide) ?_
  show Ex (d + 8) kX10_reads 86 [some (vR (10, 0, 0)), j1] [] (up hp3 (11, 22, 0) 1 v4) _
  refine Ex.go 1 (pc' := 87) (ls' := [some (vR (10, 0, 0)), j1]) (st' := [vR (10, 0, 0)]) (hp' := (up hp3 (11, 22, 0) 1 v4)) (fun _ => rfl) ?_
  obtain ⟨hp7, hv, h⟩ := Option.bind_eq_some_iff.mp h
  refine Ex.call (args := [vR (10, 0, 0)]) (rest := []) rfl rfl rfl (exX10_fillsRibbon (d := d + 6) hv) ?_
  show Ex (d + 8) kX10_reads 90 [some (vR (10, 0, 0)), j1] [] hp7 _
  cases h
  exact Ex.ret rfl rfl rfl
def fX10_reads_58 (hp : HP) : Option HP := if (hp (10, 0, 0) 17) = 0 then (fX10_reads_71 0 hp) else (fX10_reads_71 1 hp)
theorem exX10_reads_58 {d : Nat} {j1 : Option VL} {hp : HP} {v : HP} (h : fX10_reads_58 hp = some v) : Ex (d + 8) kX10_reads 58 [some (vR (10, 0, 0)), j1] [] hp (rsV () v) := by
  replace h : (if (hp (10, 0, 0) 17) = 0 then (fX10_reads_71 0 hp) else (fX10_reads_71 1 hp)) = some v := h
  refine Ex.go 3 (pc' := 63) (ls' := [some (vR (10, 0, 0)), j1]) (st' := [vI (hp (10, 0, 0) 17), vR (10, 0, 0)]) (hp' := hp) (fun _ => rfl) ?_
  refine Ex.ifc rfl ?_
  by_cases hc : (hp (10, 0, 0) 17) = 0
  · rw [if_pos hc] at h
    rw [brI_eq_p hc]
    show Ex (d + 8) kX10_reads 70 [some (vR (10, 0, 0)), j1] [vR (10, 0, 0)] hp _
    refine Ex.go 1 (pc' := 71) (ls' := [some (vR (10, 0, 0)), j1]) (st' := [vI 0, vR (10, 0, 0)]) (hp' := hp) (fun _ => rfl) ?_
    exact exX10_reads_71 h
  · rw [if_neg hc] at h
    rw [brI_eq_n hc]
    show Ex (d + 8) kX10_reads 66 [some (vR (10, 0, 0)), j1] [vR (10, 0, 0)] hp _
    refine Ex.go 2 (pc' := 71) (ls' := [some (vR (10, 0, 0)), j1]) (st' := [vI 1, vR (10, 0, 0)]) (hp' := hp) (fun _ => rfl) ?_
    exact exX10_reads_71 h
def fX10_reads_32 (n : Nat) (hp : HP) : Option HP := match n with
  | 0 => none
  | n + 1 => if (hp (10, 0, 0) 19) = 0 then (if (hp (10, 0, 0) 17) = 3 then ((fX10_token hp).bind fun hp10 => (fX10_line hp10).bind fun hp13 => fX10_reads_32 n hp13) else (fX10_reads_58 hp)) else (fX10_reads_58 hp)
theorem exX10_reads_32 {d : Nat} : ∀ (n : Nat) (j1 : Option VL) (hp : HP) (v : HP), fX10_reads_32 n hp = some v → Ex (d + 8) kX10_reads 32 [some (vR (10, 0, 0)), j1] [] hp (rsV () v) := by
  intro n
  induction n with
  | zero =>
    intro j1 hp v h
    cases h
  | succ n ih =>
    intro j1 hp v h
    replace h : (if (hp (10, 0, 0) 19) = 0 then (if (hp (10, 0, 0) 17) = 3 then ((fX10_token hp).bind fun hp10 => (fX10_line hp10).bind fun hp13 => fX10_reads_32 n hp13) else (fX10_reads_58 hp)) else (fX10_reads_58 hp)) = some v := h
    refine Ex.go 2 (pc' := 36) (ls' := [some (vR (10, 0, 0)), j1]) (st' := [vI (hp (10, 0, 0) 19)]) (hp' := hp) (fun _ => rfl) ?_
    refine Ex.ifc rfl ?_
    by_cases hc : (hp (10, 0, 0) 19) = 0
    · rw [if_pos hc] at h
      rw [brI_ne_p hc]
      show Ex (d + 8) kX10_reads 39 [some (vR (10, 0, 0)), j1] [] hp _
      refine Ex.go 3 (pc' := 44) (ls' := [some (vR (10, 0, 0)), j1]) (st' := [vI 3, vI (hp (10, 0, 0) 17)]) (hp' := hp) (fun _ => rfl) ?_
      refine Ex.icmp rfl ?_
      by_cases hc : (hp (10, 0, 0) 17) = 3
      · rw [if_pos hc] at h
        rw [brI_ne_p hc]
        show Ex (d + 8) kX10_reads 47 [some (vR (10, 0, 0)), j1] [] hp _
        refine Ex.go 1 (pc' := 48) (ls' := [some (vR (10, 0, 0)), j1]) (st' := [vR (10, 0, 0)]) (hp' := hp) (fun _ => rfl) ?_
        obtain ⟨hp10, hv, h⟩ := Option.bind_eq_some_iff.mp h
        refine Ex.call (args := [vR (10, 0, 0)]) (rest := []) rfl rfl rfl (exX10_token (d := d + 6) hv) ?_
        show Ex (d + 8) kX10_reads 51 [some (vR (10, 0, 0)), j1] [] hp10 _
        refine Ex.go 1 (pc' := 52) (ls' := [some (vR (10, 0, 0)), j1]) (st' := [vR (10, 0, 0)]) (hp' := hp10) (fun _ => rfl) ?_
        obtain ⟨hp13, hv, h⟩ := Option.bind_eq_some_iff.mp h
        refine Ex.call (args := [vR (10, 0, 0)]) (rest := []) rfl rfl rfl (exX10_line (d := d + 1) hv) ?_
        show Ex (d + 8) kX10_reads 55 [some (vR (10, 0, 0)), j1] [] hp13 _
        refine Ex.go 1 (pc' := 32) (ls' := [some (vR (10, 0, 0)), j1]) (st' := []) (hp' := hp13) (fun _ => rfl) ?_
        exact ih _ _ _ h
      · rw [if_neg hc] at h
        rw [brI_ne_n hc]
        show Ex (d + 8) kX10_reads 58 [some (vR (10, 0, 0)), j1] [] hp _
        exact exX10_reads_58 h
    · rw [if_neg hc] at h
      rw [brI_ne_n hc]
      show Ex (d + 8) kX10_reads 58 [some (vR (10, 0, 0)), j1] [] hp _
      exact exX10_reads_58 h
def fX10_reads (a0 : Int32) (hp : HP) : Option HP := (fX10_clears (up (up (up (up hp (10, 0, 0) 14 a0) (10, 0, 0) 15 0) (10, 0, 0) 19 0) (10, 0, 0) 20 m1)).bind fun hp16 => (fX10_token hp16).bind fun hp19 => (fX10_readsHead hp19).bind fun hp22 => fX10_reads_32 FU hp22
theorem exX10_reads {d : Nat} {a0 : Int32} {hp : HP} {v : HP} (h : fX10_reads a0 hp = some v) : Calls (d + 8) 188 [vR (10, 0, 0), vI a0] hp (rsV () v) := by
  replace h : ((fX10_clears (up (up (up (up hp (10, 0, 0) 14 a0) (10, 0, 0) 15 0) (10, 0, 0) 19 0) (10, 0, 0) 20 m1)).bind fun hp16 => (fX10_token hp16).bind fun hp19 => (fX10_readsHead hp19).bind fun hp22 => fX10_reads_32 FU hp22) = some v := h
  show Ex (d + 8) kX10_reads 0 [some (vR (10, 0, 0)), some (vI a0)] [] hp _
  refine Ex.go 13 (pc' := 21) (ls' := [some (vR (10, 0, 0)), some (vI a0)]) (st' := [vR (10, 0, 0)]) (hp' := (up (up (up (up hp (10, 0, 0) 14 a0) (10, 0, 0) 15 0) (10, 0, 0) 19 0) (10, 0, 0) 20 m1)) (fun _ => rfl) ?_
  obtain ⟨hp16, hv, h⟩ := Option.bind_eq_some_iff.mp h
  refine Ex.call (args := [vR (10, 0, 0)]) (rest := []) rfl rfl rfl (exX10_clears (d := d + 6) hv) ?_
  show Ex (d + 8) kX10_reads 24 [some (vR (10, 0, 0)), some (vI a0)] [] hp16 _
  refine Ex.go 1 (pc' := 25) (ls' := [some (vR (10, 0, 0)), some (vI a0)]) (st' := [vR (10, 0, 0)]) (hp' := hp16) (fun _ => rfl) ?_
  obtain ⟨hp19, hv, h⟩ := Option.bind_eq_some_iff.mp h
  refine Ex.call (args := [vR (10, 0, 0)]) (rest := []) rfl rfl rfl (exX10_token (d := d + 6) hv) ?_
  show Ex (d + 8) kX10_reads 28 [some (vR (10, 0, 0)), some (vI a0)] [] hp19 _
  refine Ex.go 1 (pc' := 29) (ls' := [some (vR (10, 0, 0)), some (vI a0)]) (st' := [vR (10, 0, 0)]) (hp' := hp19) (fun _ => rfl) ?_
  obtain ⟨hp22, hv, h⟩ := Option.bind_eq_some_iff.mp h
  refine Ex.call (args := [vR (10, 0, 0)]) (rest := []) rfl rfl rfl (exX10_readsHead (d := d + 0) hv) ?_
  show Ex (d + 8) kX10_reads 32 [some (vR (10, 0, 0)), some (vI a0)] [] hp22 _
  exact exX10_reads_32 FU _ _ _ h
def fX10_load_123 (hp : HP) : Option (Int32 × HP) := some ((hp (10, 0, 0) 2), hp)
theorem exX10_load_123 {d : Nat} {j1 : Option VL} {hp : HP} {v : (Int32 × HP)} (h : fX10_load_123 hp = some v) : Ex (d + 9) kX10_load 123 [some (vR (10, 0, 0)), j1] [] hp (rsI v.1 v.2) := by
  replace h : (some ((hp (10, 0, 0) 2), hp)) = some v := h
  refine Ex.go 2 (pc' := 127) (ls' := [some (vR (10, 0, 0)), j1]) (st' := [vI (hp (10, 0, 0) 2)]) (hp' := hp) (fun _ => rfl) ?_
  cases h
  exact Ex.ret rfl rfl rfl
def fX10_load_116 (hp : HP) : Option (Int32 × HP) := fX10_load_123 (up hp (12, 0, 0) 1 0)
theorem exX10_load_116 {d : Nat} {j1 : Option VL} {hp : HP} {v : (Int32 × HP)} (h : fX10_load_116 hp = some v) : Ex (d + 9) kX10_load 116 [some (vR (10, 0, 0)), j1] [] hp (rsI v.1 v.2) := by
  replace h : (fX10_load_123 (up hp (12, 0, 0) 1 0)) = some v := h
  refine Ex.go 4 (pc' := 122) (ls' := [some (vR (10, 0, 0)), j1]) (st' := [vI 0, vI 1, vR (12, 0, 0)]) (hp' := hp) (fun _ => rfl) ?_
  refine Ex.bast (k := 1) rfl rfl (by decide) (by decide) (by decide) ?_
  show Ex (d + 9) kX10_load 123 [some (vR (10, 0, 0)), j1] [] (up hp (12, 0, 0) 1 0) _
  exact exX10_load_123 h
def fX10_load_109 (hp : HP) : Option (Int32 × HP) := fX10_load_116 (up hp (12, 0, 0) 0 0)
theorem exX10_load_109 {d : Nat} {j1 : Option VL} {hp : HP} {v : (Int32 × HP)} (h : fX10_load_109 hp = some v) : Ex (d + 9) kX10_load 109 [some (vR (10, 0, 0)), j1] [] hp (rsI v.1 v.2) := by
  replace h : (fX10_load_116 (up hp (12, 0, 0) 0 0)) = some v := h
  refine Ex.go 4 (pc' := 115) (ls' := [some (vR (10, 0, 0)), j1]) (st' := [vI 0, vI 0, vR (12, 0, 0)]) (hp' := hp) (fun _ => rfl) ?_
  refine Ex.bast (k := 0) rfl rfl (by decide) (by decide) (by decide) ?_
  show Ex (d + 9) kX10_load 116 [some (vR (10, 0, 0)), j1] [] (up hp (12, 0, 0) 0 0) _
  exact exX10_load_116 h
def fX10_load_104 (hp : HP) : Option (Int32 × HP) := fX10_load_109 (up hp (10, 0, 0) 8 0)
theorem exX10_load_104 {d : Nat} {j1 : Option VL} {hp : HP} {v : (Int32 × HP)} (h : fX10_load_104 hp = some v) : Ex (d + 9) kX10_load 104 [some (vR (10, 0, 0)), j1] [] hp (rsI v.1 v.2) := by
  replace h : (fX10_load_109 (up hp (10, 0, 0) 8 0)) = some v := h
  refine Ex.go 3 (pc' := 109) (ls' := [some (vR (10, 0, 0)), j1]) (st' := []) (hp' := (up hp (10, 0, 0) 8 0)) (fun _ => rfl) ?_
  exact exX10_load_109 h
def fX10_load_86 (y1 : Int32) (hp : HP) : Option (Int32 × HP) := (fX10_refuse y1 2 hp).bind fun q2 => if q2.1 = 0 then (fX10_load_104 (up q2.2 (10, 0, 0) 1 1)) else ((fX10_laysBack q2.2).bind fun hp5 => some (0, hp5))
theorem exX10_load_86 {d : Nat} {y1 : Int32} {j1 : Option VL} {hp : HP} {v : (Int32 × HP)} (h : fX10_load_86 y1 hp = some v) : Ex (d + 9) kX10_load 86 [some (vR (10, 0, 0)), j1] [vI y1, vR (10, 0, 0)] hp (rsI v.1 v.2) := by
  replace h : ((fX10_refuse y1 2 hp).bind fun q2 => if q2.1 = 0 then (fX10_load_104 (up q2.2 (10, 0, 0) 1 1)) else ((fX10_laysBack q2.2).bind fun hp5 => some (0, hp5))) = some v := h
  refine Ex.go 1 (pc' := 87) (ls' := [some (vR (10, 0, 0)), j1]) (st' := [vI 2, vI y1, vR (10, 0, 0)]) (hp' := hp) (fun _ => rfl) ?_
  obtain ⟨q2, hv, h⟩ := Option.bind_eq_some_iff.mp h
  refine Ex.call (args := [vR (10, 0, 0), vI y1, vI 2]) (rest := []) rfl rfl rfl (exX10_refuse (d := d + 8) hv) ?_
  show Ex (d + 9) kX10_load 90 [some (vR (10, 0, 0)), j1] [vI q2.1] q2.2 _
  refine Ex.ifc rfl ?_
  by_cases hc : q2.1 = 0
  · rw [if_pos hc] at h
    rw [brI_eq_p hc]
    show Ex (d + 9) kX10_load 99 [some (vR (10, 0, 0)), j1] [] q2.2 _
    refine Ex.go 2 (pc' := 101) (ls' := [some (vR (10, 0, 0)), j1]) (st' := [vI 1, vR (10, 0, 0)]) (hp' := q2.2) (fun _ => rfl) ?_
    refine Ex.putz rfl rfl rfl (by decide) rfl ?_
    show Ex (d + 9) kX10_load 104 [some (vR (10, 0, 0)), j1] [] (up q2.2 (10, 0, 0) 1 1) _
    exact exX10_load_104 h
  · rw [if_neg hc] at h
    rw [brI_eq_n hc]
    show Ex (d + 9) kX10_load 93 [some (vR (10, 0, 0)), j1] [] q2.2 _
    refine Ex.go 1 (pc' := 94) (ls' := [some (vR (10, 0, 0)), j1]) (st' := [vR (10, 0, 0)]) (hp' := q2.2) (fun _ => rfl) ?_
    obtain ⟨hp5, hv, h⟩ := Option.bind_eq_some_iff.mp h
    refine Ex.call (args := [vR (10, 0, 0)]) (rest := []) rfl rfl rfl (exX10_laysBack (d := d + 8) hv) ?_
    show Ex (d + 9) kX10_load 97 [some (vR (10, 0, 0)), j1] [] hp5 _
    refine Ex.go 1 (pc' := 98) (ls' := [some (vR (10, 0, 0)), j1]) (st' := [vI 0]) (hp' := hp5) (fun _ => rfl) ?_
    cases h
    exact Ex.ret rfl rfl rfl
def fX10_load_73 (hp : HP) : Option (Int32 × HP) := if (hp (10, 0, 0) 19) = 0 then (fX10_load_86 0 hp) else (fX10_load_86 1 hp)
theorem exX10_load_73 {d : Nat} {j1 : Option VL} {hp : HP} {v : (Int32 × HP)} (h : fX10_load_73 hp = some v) : Ex (d + 9) kX10_load 73 [some (vR (10, 0, 0)), j1] [] hp (rsI v.1 v.2) := by
  replace h : (if (hp (10, 0, 0) 19) = 0 then (fX10_load_86 0 hp) else (fX10_load_86 1 hp)) = some v := h
  refine Ex.go 3 (pc' := 78) (ls' := [some (vR (10, 0, 0)), j1]) (st' := [vI (hp (10, 0, 0) 19), vR (10, 0, 0)]) (hp' := hp) (fun _ => rfl) ?_
  refine Ex.ifc rfl ?_
  by_cases hc : (hp (10, 0, 0) 19) = 0
  · rw [if_pos hc] at h
    rw [brI_eq_p hc]
    show Ex (d + 9) kX10_load 85 [some (vR (10, 0, 0)), j1] [vR (10, 0, 0)] hp _
    refine Ex.go 1 (pc' := 86) (ls' := [some (vR (10, 0, 0)), j1]) (st' := [vI 0, vR (10, 0, 0)]) (hp' := hp) (fun _ => rfl) ?_
    exact exX10_load_86 h
  · rw [if_neg hc] at h
    rw [brI_eq_n hc]
    show Ex (d + 9) kX10_load 81 [some (vR (10, 0, 0)), j1] [vR (10, 0, 0)] hp _
    refine Ex.go 2 (pc' := 86) (ls' := [some (vR (10, 0, 0)), j1]) (st' := [vI 1, vR (10, 0, 0)]) (hp' := hp) (fun _ => rfl) ?_
    exact exX10_load_86 h
def fX10_load_70 (y1 : Int32) (hp : HP) : Option (Int32 × HP) := fX10_load_73 (up hp (10, 0, 0) 13 y1)
theorem exX10_load_70 {d : Nat} {y1 : Int32} {j1 : Option VL} {hp : HP} {v : (Int32 × HP)} (h : fX10_load_70 y1 hp = some v) : Ex (d + 9) kX10_load 70 [some (vR (10, 0, 0)), j1] [vI y1, vR (10, 0, 0)] hp (rsI v.1 v.2) := by
  replace h : (fX10_load_73 (up hp (10, 0, 0) 13 y1)) = some v := h
  refine Ex.go 1 (pc' := 73) (ls' := [some (vR (10, 0, 0)), j1]) (st' := []) (hp' := (up hp (10, 0, 0) 13 y1)) (fun _ => rfl) ?_
  exact exX10_load_73 h
def fX10_load_54 (hp : HP) : Option (Int32 × HP) := if (hp (10, 0, 0) 19) = 0 then (fX10_load_70 m1 hp) else (fX10_load_70 (hp (10, 0, 0) 20) hp)
theorem exX10_load_54 {d : Nat} {j1 : Option VL} {hp : HP} {v : (Int32 × HP)} (h : fX10_load_54 hp = some v) : Ex (d + 9) kX10_load 54 [some (vR (10, 0, 0)), j1] [] hp (rsI v.1 v.2) := by
  replace h : (if (hp (10, 0, 0) 19) = 0 then (fX10_load_70 m1 hp) else (fX10_load_70 (hp (10, 0, 0) 20) hp)) = some v := h
  refine Ex.go 3 (pc' := 59) (ls' := [some (vR (10, 0, 0)), j1]) (st' := [vI (hp (10, 0, 0) 19), vR (10, 0, 0)]) (hp' := hp) (fun _ => rfl) ?_
  refine Ex.ifc rfl ?_
  by_cases hc : (hp (10, 0, 0) 19) = 0
  · rw [if_pos hc] at h
    rw [brI_ne_p hc]
    show Ex (d + 9) kX10_load 62 [some (vR (10, 0, 0)), j1] [vR (10, 0, 0)] hp _
    refine Ex.go 2 (pc' := 70) (ls' := [some (vR (10, 0, 0)), j1]) (st' := [vI m1, vR (10, 0, 0)]) (hp' := hp) (fun _ => rfl) ?_
    exact exX10_load_70 h
  · rw [if_neg hc] at h
    rw [brI_ne_n hc]
    show Ex (d + 9) kX10_load 66 [some (vR (10, 0, 0)), j1] [vR (10, 0, 0)] hp _
    refine Ex.go 2 (pc' := 70) (ls' := [some (vR (10, 0, 0)), j1]) (st' := [vI (hp (10, 0, 0) 20), vR (10, 0, 0)]) (hp' := hp) (fun _ => rfl) ?_
    exact exX10_load_70 h
def fX10_load_23 (x1 : Int32) (y1 : Int32) (hp : HP) : Option (Int32 × HP) := (fX10_refuse y1 1 hp).bind fun q7 => if q7.1 = 0 then ((fX10_holds (up q7.2 (10, 0, 0) 11 0)).bind fun hp10 => (fX10_reads x1 hp10).bind fun hp13 => fX10_load_54 (up hp13 (10, 0, 0) 12 (hp13 (10, 0, 0) 19))) else (some (0, q7.2))
theorem exX10_load_23 {d : Nat} {x1 : Int32} {y1 : Int32} {hp : HP} {v : (Int32 × HP)} (h : fX10_load_23 x1 y1 hp = some v) : Ex (d + 9) kX10_load 23 [some (vR (10, 0, 0)), some (vI x1)] [vI y1, vR (10, 0, 0)] hp (rsI v.1 v.2) := by
  replace h : ((fX10_refuse y1 1 hp).bind fun q7 => if q7.1 = 0 then ((fX10_holds (up q7.2 (10, 0, 0) 11 0)).bind fun hp10 => (fX10_reads x1 hp10).bind fun hp13 => fX10_load_54 (up hp13 (10, 0, 0) 12 (hp13 (10, 0, 0) 19))) else (some (0, q7.2))) = some v := h
  refine Ex.go 1 (pc' := 24) (ls' := [some (vR (10, 0, 0)), some (vI x1)]) (st' := [vI 1, vI y1, vR (10, 0, 0)]) (hp' := hp) (fun _ => rfl) ?_
  obtain ⟨q7, hv, h⟩ := Option.bind_eq_some_iff.mp h
  refine Ex.call (args := [vR (10, 0, 0), vI y1, vI 1]) (rest := []) rfl rfl rfl (exX10_refuse (d := d + 8) hv) ?_
  show Ex (d + 9) kX10_load 27 [some (vR (10, 0, 0)), some (vI x1)] [vI q7.1] q7.2 _
  refine Ex.ifc rfl ?_
  by_cases hc : q7.1 = 0
  · rw [if_pos hc] at h
    rw [brI_eq_p hc]
    show Ex (d + 9) kX10_load 32 [some (vR (10, 0, 0)), some (vI x1)] [] q7.2 _
    refine Ex.go 4 (pc' := 38) (ls' := [some (vR (10, 0, 0)), some (vI x1)]) (st' := [vR (10, 0, 0)]) (hp' := (up q7.2 (10, 0, 0) 11 0)) (fun _ => rfl) ?_
    obtain ⟨hp10, hv, h⟩ := Option.bind_eq_some_iff.mp h
    refine Ex.call (args := [vR (10, 0, 0)]) (rest := []) rfl rfl rfl (exX10_holds (d := d + 8) hv) ?_
    show Ex (d + 9) kX10_load 41 [some (vR (10, 0, 0)), some (vI x1)] [] hp10 _
    refine Ex.go 2 (pc' := 43) (ls' := [some (vR (10, 0, 0)), some (vI x1)]) (st' := [vI x1, vR (10, 0, 0)]) (hp' := hp10) (fun _ => rfl) ?_
    obtain ⟨hp13, hv, h⟩ := Option.bind_eq_some_iff.mp h
    refine Ex.call (args := [vR (10, 0, 0), vI x1]) (rest := []) rfl rfl rfl (exX10_reads (d := d + 0) hv) ?_
    show Ex (d + 9) kX10_load 46 [some (vR (10, 0, 0)), some (vI x1)] [] hp13 _
    refine Ex.go 4 (pc' := 54) (ls' := [some (vR (10, 0, 0)), some (vI x1)]) (st' := []) (hp' := (up hp13 (10, 0, 0) 12 (hp13 (10, 0, 0) 19))) (fun _ => rfl) ?_
    exact exX10_load_54 h
  · rw [if_neg hc] at h
    rw [brI_eq_n hc]
    show Ex (d + 9) kX10_load 30 [some (vR (10, 0, 0)), some (vI x1)] [] q7.2 _
    refine Ex.go 1 (pc' := 31) (ls' := [some (vR (10, 0, 0)), some (vI x1)]) (st' := [vI 0]) (hp' := q7.2) (fun _ => rfl) ?_
    cases h
    exact Ex.ret rfl rfl rfl
def fX10_load_5 (x1 : Int32) (hp : HP) : Option (Int32 × HP) := (fX10_in x1 0 (hp (10, 0, 0) 11) hp).bind fun v14 => if v14 = 0 then (fX10_load_23 x1 1 hp) else (fX10_load_23 x1 0 hp)
theorem exX10_load_5 {d : Nat} {x1 : Int32} {hp : HP} {v : (Int32 × HP)} (h : fX10_load_5 x1 hp = some v) : Ex (d + 9) kX10_load 5 [some (vR (10, 0, 0)), some (vI x1)] [] hp (rsI v.1 v.2) := by
  replace h : ((fX10_in x1 0 (hp (10, 0, 0) 11) hp).bind fun v14 => if v14 = 0 then (fX10_load_23 x1 1 hp) else (fX10_load_23 x1 0 hp)) = some v := h
  refine Ex.go 5 (pc' := 12) (ls' := [some (vR (10, 0, 0)), some (vI x1)]) (st' := [vI (hp (10, 0, 0) 11), vI 0, vI x1, vR (10, 0, 0)]) (hp' := hp) (fun _ => rfl) ?_
  obtain ⟨v14, hv, h⟩ := Option.bind_eq_some_iff.mp h
  refine Ex.call (args := [vI x1, vI 0, vI (hp (10, 0, 0) 11)]) (rest := [vR (10, 0, 0)]) rfl rfl rfl (exX10_in (d := d + 8) hv) ?_
  show Ex (d + 9) kX10_load 15 [some (vR (10, 0, 0)), some (vI x1)] [vI v14, vR (10, 0, 0)] hp _
  refine Ex.ifc rfl ?_
  by_cases hc : v14 = 0
  · rw [if_pos hc] at h
    rw [brI_ne_p hc]
    show Ex (d + 9) kX10_load 18 [some (vR (10, 0, 0)), some (vI x1)] [vR (10, 0, 0)] hp _
    refine Ex.go 2 (pc' := 23) (ls' := [some (vR (10, 0, 0)), some (vI x1)]) (st' := [vI 1, vR (10, 0, 0)]) (hp' := hp) (fun _ => rfl) ?_
    exact exX10_load_23 h
  · rw [if_neg hc] at h
    rw [brI_ne_n hc]
    show Ex (d + 9) kX10_load 22 [some (vR (10, 0, 0)), some (vI x1)] [vR (10, 0, 0)] hp _
    refine Ex.go 1 (pc' := 23) (ls' := [some (vR (10, 0, 0)), some (vI x1)]) (st' := [vI 0, vR (10, 0, 0)]) (hp' := hp) (fun _ => rfl) ?_
    exact exX10_load_23 h
def fX10_load (a0 : Int32) (hp : HP) : Option (Int32 × HP) := fX10_load_5 a0 (up hp (10, 0, 0) 0 0)
theorem exX10_load {d : Nat} {a0 : Int32} {hp : HP} {v : (Int32 × HP)} (h : fX10_load a0 hp = some v) : Calls (d + 9) 190 [vR (10, 0, 0), vI a0] hp (rsI v.1 v.2) := by
  replace h : (fX10_load_5 a0 (up hp (10, 0, 0) 0 0)) = some v := h
  show Ex (d + 9) kX10_load 0 [some (vR (10, 0, 0)), some (vI a0)] [] hp _
  refine Ex.go 3 (pc' := 5) (ls' := [some (vR (10, 0, 0)), some (vI a0)]) (st' := []) (hp' := (up hp (10, 0, 0) 0 0)) (fun _ => rfl) ?_
  exact exX10_load_5 h
def fX10_struckAt (a0 : Int32) (hp : HP) : Option Int32 := if inb ((38 + (2 * a0)) + 0) (alen (11, 22, 0)) = true then (some (hp (11, 22, 0) ((38 + (2 * a0)) + 0).toNatClampNeg)) else none
theorem exX10_struckAt {d : Nat} {a0 : Int32} {hp : HP} {v : Int32} (h : fX10_struckAt a0 hp = some v) : Calls (d + 0) 191 [vR (10, 0, 0), vI a0] hp (rsI v hp) := by
  replace h : (if inb ((38 + (2 * a0)) + 0) (alen (11, 22, 0)) = true then (some (hp (11, 22, 0) ((38 + (2 * a0)) + 0).toNatClampNeg)) else none) = some v := h
  show Ex (d + 0) kX10_struckAt 0 [some (vR (10, 0, 0)), some (vI a0)] [] hp _
  refine Ex.go 9 (pc' := 12) (ls' := [some (vR (10, 0, 0)), some (vI a0)]) (st' := [vI ((38 + (2 * a0)) + 0), vR (11, 22, 0)]) (hp' := hp) (fun _ => rfl) ?_
  by_cases hc : inb ((38 + (2 * a0)) + 0) (alen (11, 22, 0)) = true
  · rw [if_pos hc] at h
    refine Ex.iald rfl rfl hc rfl ?_
    show Ex (d + 0) kX10_struckAt 13 [some (vR (10, 0, 0)), some (vI a0)] [vI (hp (11, 22, 0) ((38 + (2 * a0)) + 0).toNatClampNeg)] hp _
    cases h
    exact Ex.ret rfl rfl rfl
  · rw [if_neg hc] at h
    cases h
def fX10_rise (a0 : Int32) (hp : HP) : Option Int32 := (fX10_its 6 hp).bind fun v1 => if inb a0 (alen (11, 21, 0)) = true then (some (v1 + (idv (iabs ((hp (11, 21, 0) a0.toNatClampNeg) - 90)) 10))) else none
theorem exX10_rise {d : Nat} {a0 : Int32} {hp : HP} {v : Int32} (h : fX10_rise a0 hp = some v) : Calls (d + 1) 192 [vR (10, 0, 0), vI a0] hp (rsI v hp) := by
  replace h : ((fX10_its 6 hp).bind fun v1 => if inb a0 (alen (11, 21, 0)) = true then (some (v1 + (idv (iabs ((hp (11, 21, 0) a0.toNatClampNeg) - 90)) 10))) else none) = some v := h
  show Ex (d + 1) kX10_rise 0 [some (vR (10, 0, 0)), some (vI a0)] [] hp _
  refine Ex.go 2 (pc' := 3) (ls' := [some (vR (10, 0, 0)), some (vI a0)]) (st' := [vI 6, vR (10, 0, 0)]) (hp' := hp) (fun _ => rfl) ?_
  obtain ⟨v1, hv, h⟩ := Option.bind_eq_some_iff.mp h
  refine Ex.call (args := [vR (10, 0, 0), vI 6]) (rest := []) rfl rfl rfl (exX10_its (d := d + 0) hv) ?_
  show Ex (d + 1) kX10_rise 6 [some (vR (10, 0, 0)), some (vI a0)] [vI v1] hp _
  refine Ex.go 3 (pc' := 11) (ls' := [some (vR (10, 0, 0)), some (vI a0)]) (st' := [vI a0, vR (11, 21, 0), vI v1]) (hp' := hp) (fun _ => rfl) ?_
  by_cases hc : inb a0 (alen (11, 21, 0)) = true
  · rw [if_pos hc] at h
    refine Ex.iald rfl rfl hc rfl ?_
    show Ex (d + 1) kX10_rise 12 [some (vR (10, 0, 0)), some (vI a0)] [vI (hp (11, 21, 0) a0.toNatClampNeg), vI v1] hp _
    refine Ex.go 4 (pc' := 20) (ls' := [some (vR (10, 0, 0)), some (vI a0)]) (st' := [vI 10, vI (iabs ((hp (11, 21, 0) a0.toNatClampNeg) - 90)), vI v1]) (hp' := hp) (fun _ => rfl) ?_
    refine Ex.idiv rfl (by decide) ?_
    show Ex (d + 1) kX10_rise 21 [some (vR (10, 0, 0)), some (vI a0)] [vI (idv (iabs ((hp (11, 21, 0) a0.toNatClampNeg) - 90)) 10), vI v1] hp _
    refine Ex.go 1 (pc' := 22) (ls' := [some (vR (10, 0, 0)), some (vI a0)]) (st' := [vI (v1 + (idv (iabs ((hp (11, 21, 0) a0.toNatClampNeg) - 90)) 10))]) (hp' := hp) (fun _ => rfl) ?_
    cases h
    exact Ex.ret rfl rfl rfl
  · rw [if_neg hc] at h
    cases h
def fX10_backIn (a0 : Int32) (a1 : Int32) (hp : HP) : Option Int32 := (fX10_struckAt a0 hp).bind fun v1 => if v1 = m1 then (some 0) else ((fX10_struckAt a0 hp).bind fun v2 => (fX10_rise a0 hp).bind fun v3 => some (imax 0 ((v2 + (2 * v3)) - a1)))
theorem exX10_backIn {d : Nat} {a0 : Int32} {a1 : Int32} {hp : HP} {v : Int32} (h : fX10_backIn a0 a1 hp = some v) : Calls (d + 2) 193 [vR (10, 0, 0), vI a0, vI a1] hp (rsI v hp) := by
  replace h : ((fX10_struckAt a0 hp).bind fun v1 => if v1 = m1 then (some 0) else ((fX10_struckAt a0 hp).bind fun v2 => (fX10_rise a0 hp).bind fun v3 => some (imax 0 ((v2 + (2 * v3)) - a1)))) = some v := h
  show Ex (d + 2) kX10_backIn 0 [some (vR (10, 0, 0)), some (vI a0), some (vI a1)] [] hp _
  refine Ex.go 2 (pc' := 2) (ls' := [some (vR (10, 0, 0)), some (vI a0), some (vI a1)]) (st' := [vI a0, vR (10, 0, 0)]) (hp' := hp) (fun _ => rfl) ?_
  obtain ⟨v1, hv, h⟩ := Option.bind_eq_some_iff.mp h
  refine Ex.call (args := [vR (10, 0, 0), vI a0]) (rest := []) rfl rfl rfl (exX10_struckAt (d := d + 1) hv) ?_
  show Ex (d + 2) kX10_backIn 5 [some (vR (10, 0, 0)), some (vI a0), some (vI a1)] [vI v1] hp _
  refine Ex.go 1 (pc' := 6) (ls' := [some (vR (10, 0, 0)), some (vI a0), some (vI a1)]) (st' := [vI m1, vI v1]) (hp' := hp) (fun _ => rfl) ?_
  refine Ex.icmp rfl ?_
  by_cases hc : v1 = m1
  · rw [if_pos hc] at h
    rw [brI_ne_p hc]
    show Ex (d + 2) kX10_backIn 9 [some (vR (10, 0, 0)), some (vI a0), some (vI a1)] [] hp _
    refine Ex.go 2 (pc' := 32) (ls' := [some (vR (10, 0, 0)), some (vI a0), some (vI a1)]) (st' := [vI 0]) (hp' := hp) (fun _ => rfl) ?_
    cases h
    exact Ex.ret rfl rfl rfl
  · rw [if_neg hc] at h
    rw [brI_ne_n hc]
    show Ex (d + 2) kX10_backIn 13 [some (vR (10, 0, 0)), some (vI a0), some (vI a1)] [] hp _
    refine Ex.go 3 (pc' := 16) (ls' := [some (vR (10, 0, 0)), some (vI a0), some (vI a1)]) (st' := [vI a0, vR (10, 0, 0), vI 0]) (hp' := hp) (fun _ => rfl) ?_
    obtain ⟨v2, hv, h⟩ := Option.bind_eq_some_iff.mp h
    refine Ex.call (args := [vR (10, 0, 0), vI a0]) (rest := [vI 0]) rfl rfl rfl (exX10_struckAt (d := d + 1) hv) ?_
    show Ex (d + 2) kX10_backIn 19 [some (vR (10, 0, 0)), some (vI a0), some (vI a1)] [vI v2, vI 0] hp _
    refine Ex.go 3 (pc' := 22) (ls' := [some (vR (10, 0, 0)), some (vI a0), some (vI a1)]) (st' := [vI a0, vR (10, 0, 0), vI 2, vI v2, vI 0]) (hp' := hp) (fun _ => rfl) ?_
    obtain ⟨v3, hv, h⟩ := Option.bind_eq_some_iff.mp h
    refine Ex.call (args := [vR (10, 0, 0), vI a0]) (rest := [vI 2, vI v2, vI 0]) rfl rfl rfl (exX10_rise (d := d + 0) hv) ?_
    show Ex (d + 2) kX10_backIn 25 [some (vR (10, 0, 0)), some (vI a0), some (vI a1)] [vI v3, vI 2, vI v2, vI 0] hp _
    refine Ex.go 5 (pc' := 32) (ls' := [some (vR (10, 0, 0)), some (vI a0), some (vI a1)]) (st' := [vI (imax 0 ((v2 + (2 * v3)) - a1))]) (hp' := hp) (fun _ => rfl) ?_
    cases h
    exact Ex.ret rfl rfl rfl
def fX10_clearance (a0 : Int32) (a1 : Int32) (hp : HP) : Option Int32 := (fX10_its 7 hp).bind fun v1 => (fX10_its 8 hp).bind fun v2 => if inb a0 (alen (11, 21, 0)) = true then (if inb a1 (alen (11, 21, 0)) = true then (some (v1 + (imax 0 (v2 - (iabs ((hp (11, 21, 0) a0.toNatClampNeg) - (hp (11, 21, 0) a1.toNatClampNeg))))))) else none) else none
theorem exX10_clearance {d : Nat} {a0 : Int32} {a1 : Int32} {hp : HP} {v : Int32} (h : fX10_clearance a0 a1 hp = some v) : Calls (d + 1) 194 [vR (10, 0, 0), vI a0, vI a1] hp (rsI v hp) := by
  replace h : ((fX10_its 7 hp).bind fun v1 => (fX10_its 8 hp).bind fun v2 => if inb a0 (alen (11, 21, 0)) = true then (if inb a1 (alen (11, 21, 0)) = true then (some (v1 + (imax 0 (v2 - (iabs ((hp (11, 21, 0) a0.toNatClampNeg) - (hp (11, 21, 0) a1.toNatClampNeg))))))) else none) else none) = some v := h
  show Ex (d + 1) kX10_clearance 0 [some (vR (10, 0, 0)), some (vI a0), some (vI a1)] [] hp _
  refine Ex.go 2 (pc' := 3) (ls' := [some (vR (10, 0, 0)), some (vI a0), some (vI a1)]) (st' := [vI 7, vR (10, 0, 0)]) (hp' := hp) (fun _ => rfl) ?_
  obtain ⟨v1, hv, h⟩ := Option.bind_eq_some_iff.mp h
  refine Ex.call (args := [vR (10, 0, 0), vI 7]) (rest := []) rfl rfl rfl (exX10_its (d := d + 0) hv) ?_
  show Ex (d + 1) kX10_clearance 6 [some (vR (10, 0, 0)), some (vI a0), some (vI a1)] [vI v1] hp _
  refine Ex.go 3 (pc' := 10) (ls' := [some (vR (10, 0, 0)), some (vI a0), some (vI a1)]) (st' := [vI 8, vR (10, 0, 0), vI 0, vI v1]) (hp' := hp) (fun _ => rfl) ?_
  obtain ⟨v2, hv, h⟩ := Option.bind_eq_some_iff.mp h
  refine Ex.call (args := [vR (10, 0, 0), vI 8]) (rest := [vI 0, vI v1]) rfl rfl rfl (exX10_its (d := d + 0) hv) ?_
  show Ex (d + 1) kX10_clearance 13 [some (vR (10, 0, 0)), some (vI a0), some (vI a1)] [vI v2, vI 0, vI v1] hp _
  refine Ex.go 3 (pc' := 18) (ls' := [some (vR (10, 0, 0)), some (vI a0), some (vI a1)]) (st' := [vI a0, vR (11, 21, 0), vI v2, vI 0, vI v1]) (hp' := hp) (fun _ => rfl) ?_
  by_cases hc : inb a0 (alen (11, 21, 0)) = true
  · rw [if_pos hc] at h
    refine Ex.iald rfl rfl hc rfl ?_
    show Ex (d + 1) kX10_clearance 19 [some (vR (10, 0, 0)), some (vI a0), some (vI a1)] [vI (hp (11, 21, 0) a0.toNatClampNeg), vI v2, vI 0, vI v1] hp _
    refine Ex.go 3 (pc' := 24) (ls' := [some (vR (10, 0, 0)), some (vI a0), some (vI a1)]) (st' := [vI a1, vR (11, 21, 0), vI (hp (11, 21, 0) a0.toNatClampNeg), vI v2, vI 0, vI v1]) (hp' := hp) (fun _ => rfl) ?_
    by_cases hc : inb a1 (alen (11, 21, 0)) = true
    · rw [if_pos hc] at h
      refine Ex.iald rfl rfl hc rfl ?_
      show Ex (d + 1) kX10_clearance 25 [some (vR (10, 0, 0)), some (vI a0), some (vI a1)] [vI (hp (11, 21, 0) a1.toNatClampNeg), vI (hp (11, 21, 0) a0.toNatClampNeg), vI v2, vI 0, vI v1] hp _
      refine Ex.go 5 (pc' := 34) (ls' := [some (vR (10, 0, 0)), some (vI a0), some (vI a1)]) (st' := [vI (v1 + (imax 0 (v2 - (iabs ((hp (11, 21, 0) a0.toNatClampNeg) - (hp (11, 21, 0) a1.toNatClampNeg))))))]) (hp' := hp) (fun _ => rfl) ?_
      cases h
      exact Ex.ret rfl rfl rfl
    · rw [if_neg hc] at h
      cases h
  · rw [if_neg hc] at h
    cases h
def fX10_wouldJam (a0 : Int32) (a1 : Int32) (hp : HP) : Option Int32 := if (hp (11, 22, 0) 4) = m1 then (some 0) else (if (hp (11, 22, 0) 4) = a0 then (some 0) else ((fX10_backIn (hp (11, 22, 0) 4) a1 hp).bind fun v1 => if v1 = 0 then (some 0) else ((fX10_struckAt (hp (11, 22, 0) 4) hp).bind fun v2 => (fX10_rise (hp (11, 22, 0) 4) hp).bind fun v3 => (fX10_rise a0 hp).bind fun v4 => (fX10_clearance a0 (hp (11, 22, 0) 4) hp).bind fun v5 => if (iabs (((v2 + v3) - a1) - v4)) < v5 then (some 1) else (some 0))))
theorem exX10_wouldJam {d : Nat} {a0 : Int32} {a1 : Int32} {hp : HP} {v : Int32} (h : fX10_wouldJam a0 a1 hp = some v) : Calls (d + 3) 195 [vR (10, 0, 0), vI a0, vI a1] hp (rsI v hp) := by
  replace h : (if (hp (11, 22, 0) 4) = m1 then (some 0) else (if (hp (11, 22, 0) 4) = a0 then (some 0) else ((fX10_backIn (hp (11, 22, 0) 4) a1 hp).bind fun v1 => if v1 = 0 then (some 0) else ((fX10_struckAt (hp (11, 22, 0) 4) hp).bind fun v2 => (fX10_rise (hp (11, 22, 0) 4) hp).bind fun v3 => (fX10_rise a0 hp).bind fun v4 => (fX10_clearance a0 (hp (11, 22, 0) 4) hp).bind fun v5 => if (iabs (((v2 + v3) - a1) - v4)) < v5 then (some 1) else (some 0))))) = some v := h
  show Ex (d + 3) kX10_wouldJam 0 [some (vR (10, 0, 0)), some (vI a0), some (vI a1), none] [] hp _
  refine Ex.go 3 (pc' := 5) (ls' := [some (vR (10, 0, 0)), some (vI a0), some (vI a1), none]) (st' := [vI 4, vR (11, 22, 0)]) (hp' := hp) (fun _ => rfl) ?_
  refine Ex.iald (k := 4) rfl rfl (by decide) (by decide) ?_
  show Ex (d + 3) kX10_wouldJam 6 [some (vR (10, 0, 0)), some (vI a0), some (vI a1), none] [vI (hp (11, 22, 0) 4)] hp _
  refine Ex.go 3 (pc' := 9) (ls' := [some (vR (10, 0, 0)), some (vI a0), some (vI a1), some (vI (hp (11, 22, 0) 4))]) (st' := [vI m1, vI (hp (11, 22, 0) 4)]) (hp' := hp) (fun _ => rfl) ?_
  refine Ex.icmp rfl ?_
  by_cases hc : (hp (11, 22, 0) 4) = m1
  · rw [if_pos hc] at h
    rw [brI_eq_p hc]
    show Ex (d + 3) kX10_wouldJam 26 [some (vR (10, 0, 0)), some (vI a0), some (vI a1), some (vI (hp (11, 22, 0) 4))] [] hp _
    refine Ex.go 1 (pc' := 27) (ls' := [some (vR (10, 0, 0)), some (vI a0), some (vI a1), some (vI (hp (11, 22, 0) 4))]) (st' := [vI 0]) (hp' := hp) (fun _ => rfl) ?_
    cases h
    exact Ex.ret rfl rfl rfl
  · rw [if_neg hc] at h
    rw [brI_eq_n hc]
    show Ex (d + 3) kX10_wouldJam 12 [some (vR (10, 0, 0)), some (vI a0), some (vI a1), some (vI (hp (11, 22, 0) 4))] [] hp _
    refine Ex.go 2 (pc' := 14) (ls' := [some (vR (10, 0, 0)), some (vI a0), some (vI a1), some (vI (hp (11, 22, 0) 4))]) (st' := [vI a0, vI (hp (11, 22, 0) 4)]) (hp' := hp) (fun _ => rfl) ?_
    refine Ex.icmp rfl ?_
    by_cases hc : (hp (11, 22, 0) 4) = a0
    · rw [if_pos hc] at h
      rw [brI_eq_p hc]
      show Ex (d + 3) kX10_wouldJam 26 [some (vR (10, 0, 0)), some (vI a0), some (vI a1), some (vI (hp (11, 22, 0) 4))] [] hp _
      refine Ex.go 1 (pc' := 27) (ls' := [some (vR (10, 0, 0)), some (vI a0), some (vI a1), some (vI (hp (11, 22, 0) 4))]) (st' := [vI 0]) (hp' := hp) (fun _ => rfl) ?_
      cases h
      exact Ex.ret rfl rfl rfl
    · rw [if_neg hc] at h
      rw [brI_eq_n hc]
      show Ex (d + 3) kX10_wouldJam 17 [some (vR (10, 0, 0)), some (vI a0), some (vI a1), some (vI (hp (11, 22, 0) 4))] [] hp _
      refine Ex.go 3 (pc' := 20) (ls' := [some (vR (10, 0, 0)), some (vI a0), some (vI a1), some (vI (hp (11, 22, 0) 4))]) (st' := [vI a1, vI (hp (11, 22, 0) 4), vR (10, 0, 0)]) (hp' := hp) (fun _ => rfl) ?_
      obtain ⟨v1, hv, h⟩ := Option.bind_eq_some_iff.mp h
      refine Ex.call (args := [vR (10, 0, 0), vI (hp (11, 22, 0) 4), vI a1]) (rest := []) rfl rfl rfl (exX10_backIn (d := d + 0) hv) ?_
      show Ex (d + 3) kX10_wouldJam 23 [some (vR (10, 0, 0)), some (vI a0), some (vI a1), some (vI (hp (11, 22, 0) 4))] [vI v1] hp _
      refine Ex.ifc rfl ?_
      by_cases hc : v1 = 0
      · rw [if_pos hc] at h
        rw [brI_ne_p hc]
        show Ex (d + 3) kX10_wouldJam 26 [some (vR (10, 0, 0)), some (vI a0), some (vI a1), some (vI (hp (11, 22, 0) 4))] [] hp _
        refine Ex.go 1 (pc' := 27) (ls' := [some (vR (10, 0, 0)), some (vI a0), some (vI a1), some (vI (hp (11, 22, 0) 4))]) (st' := [vI 0]) (hp' := hp) (fun _ => rfl) ?_
        cases h
        exact Ex.ret rfl rfl rfl
      · rw [if_neg hc] at h
        rw [brI_ne_n hc]
        show Ex (d + 3) kX10_wouldJam 28 [some (vR (10, 0, 0)), some (vI a0), some (vI a1), some (vI (hp (11, 22, 0) 4))] [] hp _
        refine Ex.go 2 (pc' := 30) (ls' := [some (vR (10, 0, 0)), some (vI a0), some (vI a1), some (vI (hp (11, 22, 0) 4))]) (st' := [vI (hp (11, 22, 0) 4), vR (10, 0, 0)]) (hp' := hp) (fun _ => rfl) ?_
        obtain ⟨v2, hv, h⟩ := Option.bind_eq_some_iff.mp h
        refine Ex.call (args := [vR (10, 0, 0), vI (hp (11, 22, 0) 4)]) (rest := []) rfl rfl rfl (exX10_struckAt (d := d + 2) hv) ?_
        show Ex (d + 3) kX10_wouldJam 33 [some (vR (10, 0, 0)), some (vI a0), some (vI a1), some (vI (hp (11, 22, 0) 4))] [vI v2] hp _
        refine Ex.go 2 (pc' := 35) (ls' := [some (vR (10, 0, 0)), some (vI a0), some (vI a1), some (vI (hp (11, 22, 0) 4))]) (st' := [vI (hp (11, 22, 0) 4), vR (10, 0, 0), vI v2]) (hp' := hp) (fun _ => rfl) ?_
        obtain ⟨v3, hv, h⟩ := Option.bind_eq_some_iff.mp h
        refine Ex.call (args := [vR (10, 0, 0), vI (hp (11, 22, 0) 4)]) (rest := [vI v2]) rfl rfl rfl (exX10_rise (d := d + 1) hv) ?_
        show Ex (d + 3) kX10_wouldJam 38 [some (vR (10, 0, 0)), some (vI a0), some (vI a1), some (vI (hp (11, 22, 0) 4))] [vI v3, vI v2] hp _
        refine Ex.go 5 (pc' := 43) (ls' := [some (vR (10, 0, 0)), some (vI a0), some (vI a1), some (vI (hp (11, 22, 0) 4))]) (st' := [vI a0, vR (10, 0, 0), vI ((v2 + v3) - a1)]) (hp' := hp) (fun _ => rfl) ?_
        obtain ⟨v4, hv, h⟩ := Option.bind_eq_some_iff.mp h
        refine Ex.call (args := [vR (10, 0, 0), vI a0]) (rest := [vI ((v2 + v3) - a1)]) rfl rfl rfl (exX10_rise (d := d + 1) hv) ?_
        show Ex (d + 3) kX10_wouldJam 46 [some (vR (10, 0, 0)), some (vI a0), some (vI a1), some (vI (hp (11, 22, 0) 4))] [vI v4, vI ((v2 + v3) - a1)] hp _
        refine Ex.go 5 (pc' := 53) (ls' := [some (vR (10, 0, 0)), some (vI a0), some (vI a1), some (vI (hp (11, 22, 0) 4))]) (st' := [vI (hp (11, 22, 0) 4), vI a0, vR (10, 0, 0), vI (iabs (((v2 + v3) - a1) - v4))]) (hp' := hp) (fun _ => rfl) ?_
        obtain ⟨v5, hv, h⟩ := Option.bind_eq_some_iff.mp h
        refine Ex.call (args := [vR (10, 0, 0), vI a0, vI (hp (11, 22, 0) 4)]) (rest := [vI (iabs (((v2 + v3) - a1) - v4))]) rfl rfl rfl (exX10_clearance (d := d + 1) hv) ?_
        show Ex (d + 3) kX10_wouldJam 56 [some (vR (10, 0, 0)), some (vI a0), some (vI a1), some (vI (hp (11, 22, 0) 4))] [vI v5, vI (iabs (((v2 + v3) - a1) - v4))] hp _
        refine Ex.icmp rfl ?_
        by_cases hc : (iabs (((v2 + v3) - a1) - v4)) < v5
        · rw [if_pos hc] at h
          rw [brI_ge_p hc]
          show Ex (d + 3) kX10_wouldJam 59 [some (vR (10, 0, 0)), some (vI a0), some (vI a1), some (vI (hp (11, 22, 0) 4))] [] hp _
          refine Ex.go 2 (pc' := 64) (ls' := [some (vR (10, 0, 0)), some (vI a0), some (vI a1), some (vI (hp (11, 22, 0) 4))]) (st' := [vI 1]) (hp' := hp) (fun _ => rfl) ?_
          cases h
          exact Ex.ret rfl rfl rfl
        · rw [if_neg hc] at h
          rw [brI_ge_n hc]
          show Ex (d + 3) kX10_wouldJam 63 [some (vR (10, 0, 0)), some (vI a0), some (vI a1), some (vI (hp (11, 22, 0) 4))] [] hp _
          refine Ex.go 1 (pc' := 64) (ls' := [some (vR (10, 0, 0)), some (vI a0), some (vI a1), some (vI (hp (11, 22, 0) 4))]) (st' := [vI 0]) (hp' := hp) (fun _ => rfl) ?_
          cases h
          exact Ex.ret rfl rfl rfl
def fX10_isLocked (a0 : Int32) (hp : HP) : Option Int32 := (fX10_its 0 hp).bind fun v1 => if a0 = v1 then (some 1) else ((fX10_its 3 hp).bind fun v2 => if v2 < a0 then (if (hp (11, 22, 0) 2) = 0 then (some 1) else (some 0)) else (some 0))
theorem exX10_isLocked {d : Nat} {a0 : Int32} {hp : HP} {v : Int32} (h : fX10_isLocked a0 hp = some v) : Calls (d + 1) 196 [vR (10, 0, 0), vI a0] hp (rsI v hp) := by
  replace h : ((fX10_its 0 hp).bind fun v1 => if a0 = v1 then (some 1) else ((fX10_its 3 hp).bind fun v2 => if v2 < a0 then (if (hp (11, 22, 0) 2) = 0 then (some 1) else (some 0)) else (some 0))) = some v := h
  show Ex (d + 1) kX10_isLocked 0 [some (vR (10, 0, 0)), some (vI a0)] [] hp _
  refine Ex.go 3 (pc' := 3) (ls' := [some (vR (10, 0, 0)), some (vI a0)]) (st' := [vI 0, vR (10, 0, 0), vI a0]) (hp' := hp) (fun _ => rfl) ?_
  obtain ⟨v1, hv, h⟩ := Option.bind_eq_some_iff.mp h
  refine Ex.call (args := [vR (10, 0, 0), vI 0]) (rest := [vI a0]) rfl rfl rfl (exX10_its (d := d + 0) hv) ?_
  show Ex (d + 1) kX10_isLocked 6 [some (vR (10, 0, 0)), some (vI a0)] [vI v1, vI a0] hp _
  refine Ex.icmp rfl ?_
  by_cases hc : a0 = v1
  · rw [if_pos hc] at h
    rw [brI_eq_p hc]
    show Ex (d + 1) kX10_isLocked 27 [some (vR (10, 0, 0)), some (vI a0)] [] hp _
    refine Ex.go 2 (pc' := 32) (ls' := [some (vR (10, 0, 0)), some (vI a0)]) (st' := [vI 1]) (hp' := hp) (fun _ => rfl) ?_
    cases h
    exact Ex.ret rfl rfl rfl
  · rw [if_neg hc] at h
    rw [brI_eq_n hc]
    show Ex (d + 1) kX10_isLocked 9 [some (vR (10, 0, 0)), some (vI a0)] [] hp _
    refine Ex.go 3 (pc' := 12) (ls' := [some (vR (10, 0, 0)), some (vI a0)]) (st' := [vI 3, vR (10, 0, 0), vI a0]) (hp' := hp) (fun _ => rfl) ?_
    obtain ⟨v2, hv, h⟩ := Option.bind_eq_some_iff.mp h
    refine Ex.call (args := [vR (10, 0, 0), vI 3]) (rest := [vI a0]) rfl rfl rfl (exX10_its (d := d + 0) hv) ?_
    show Ex (d + 1) kX10_isLocked 15 [some (vR (10, 0, 0)), some (vI a0)] [vI v2, vI a0] hp _
    refine Ex.icmp rfl ?_
    by_cases hc : v2 < a0
    · rw [if_pos hc] at h
      rw [brI_le_p hc]
      show Ex (d + 1) kX10_isLocked 18 [some (vR (10, 0, 0)), some (vI a0)] [] hp _
      refine Ex.go 3 (pc' := 23) (ls' := [some (vR (10, 0, 0)), some (vI a0)]) (st' := [vI 2, vR (11, 22, 0)]) (hp' := hp) (fun _ => rfl) ?_
      refine Ex.iald (k := 2) rfl rfl (by decide) (by decide) ?_
      show Ex (d + 1) kX10_isLocked 24 [some (vR (10, 0, 0)), some (vI a0)] [vI (hp (11, 22, 0) 2)] hp _
      refine Ex.ifc rfl ?_
      by_cases hc : (hp (11, 22, 0) 2) = 0
      · rw [if_pos hc] at h
        rw [brI_ne_p hc]
        show Ex (d + 1) kX10_isLocked 27 [some (vR (10, 0, 0)), some (vI a0)] [] hp _
        refine Ex.go 2 (pc' := 32) (ls' := [some (vR (10, 0, 0)), some (vI a0)]) (st' := [vI 1]) (hp' := hp) (fun _ => rfl) ?_
        cases h
        exact Ex.ret rfl rfl rfl
      · rw [if_neg hc] at h
        rw [brI_ne_n hc]
        show Ex (d + 1) kX10_isLocked 31 [some (vR (10, 0, 0)), some (vI a0)] [] hp _
        refine Ex.go 1 (pc' := 32) (ls' := [some (vR (10, 0, 0)), some (vI a0)]) (st' := [vI 0]) (hp' := hp) (fun _ => rfl) ?_
        cases h
        exact Ex.ret rfl rfl rfl
    · rw [if_neg hc] at h
      rw [brI_le_n hc]
      show Ex (d + 1) kX10_isLocked 31 [some (vR (10, 0, 0)), some (vI a0)] [] hp _
      refine Ex.go 1 (pc' := 32) (ls' := [some (vR (10, 0, 0)), some (vI a0)]) (st' := [vI 0]) (hp' := hp) (fun _ => rfl) ?_
      cases h
      exact Ex.ret rfl rfl rfl
def fX10_reasonOf (a0 : Int32) (a1 : Int32) (hp : HP) : Option Int32 := if (hp (11, 22, 0) 5) = m1 then ((fX10_isLocked (hp (11, 22, 0) 1) hp).bind fun v1 => if v1 = 0 then ((fX10_backIn a0 a1 hp).bind fun v2 => if 0 < v2 then (some 4) else ((fX10_wouldJam a0 a1 hp).bind fun v3 => if v3 = 0 then (some 0) else (some 5))) else (some 2)) else (some 1)
theorem exX10_reasonOf {d : Nat} {a0 : Int32} {a1 : Int32} {hp : HP} {v : Int32} (h : fX10_reasonOf a0 a1 hp = some v) : Calls (d + 4) 197 [vR (10, 0, 0), vI a0, vI a1] hp (rsI v hp) := by
  replace h : (if (hp (11, 22, 0) 5) = m1 then ((fX10_isLocked (hp (11, 22, 0) 1) hp).bind fun v1 => if v1 = 0 then ((fX10_backIn a0 a1 hp).bind fun v2 => if 0 < v2 then (some 4) else ((fX10_wouldJam a0 a1 hp).bind fun v3 => if v3 = 0 then (some 0) else (some 5))) else (some 2)) else (some 1)) = some v := h
  show Ex (d + 4) kX10_reasonOf 0 [some (vR (10, 0, 0)), some (vI a0), some (vI a1)] [] hp _
  refine Ex.go 3 (pc' := 5) (ls' := [some (vR (10, 0, 0)), some (vI a0), some (vI a1)]) (st' := [vI 5, vR (11, 22, 0)]) (hp' := hp) (fun _ => rfl) ?_
  refine Ex.iald (k := 5) rfl rfl (by decide) (by decide) ?_
  show Ex (d + 4) kX10_reasonOf 6 [some (vR (10, 0, 0)), some (vI a0), some (vI a1)] [vI (hp (11, 22, 0) 5)] hp _
  refine Ex.go 1 (pc' := 7) (ls' := [some (vR (10, 0, 0)), some (vI a0), some (vI a1)]) (st' := [vI m1, vI (hp (11, 22, 0) 5)]) (hp' := hp) (fun _ => rfl) ?_
  refine Ex.icmp rfl ?_
  by_cases hc : (hp (11, 22, 0) 5) = m1
  · rw [if_pos hc] at h
    rw [brI_eq_p hc]
    show Ex (d + 4) kX10_reasonOf 12 [some (vR (10, 0, 0)), some (vI a0), some (vI a1)] [] hp _
    refine Ex.go 4 (pc' := 18) (ls' := [some (vR (10, 0, 0)), some (vI a0), some (vI a1)]) (st' := [vI 1, vR (11, 22, 0), vR (10, 0, 0)]) (hp' := hp) (fun _ => rfl) ?_
    refine Ex.iald (k := 1) rfl rfl (by decide) (by decide) ?_
    show Ex (d + 4) kX10_reasonOf 19 [some (vR (10, 0, 0)), some (vI a0), some (vI a1)] [vI (hp (11, 22, 0) 1), vR (10, 0, 0)] hp _
    obtain ⟨v1, hv, h⟩ := Option.bind_eq_some_iff.mp h
    refine Ex.call (args := [vR (10, 0, 0), vI (hp (11, 22, 0) 1)]) (rest := []) rfl rfl rfl (exX10_isLocked (d := d + 2) hv) ?_
    show Ex (d + 4) kX10_reasonOf 22 [some (vR (10, 0, 0)), some (vI a0), some (vI a1)] [vI v1] hp _
    refine Ex.ifc rfl ?_
    by_cases hc : v1 = 0
    · rw [if_pos hc] at h
      rw [brI_eq_p hc]
      show Ex (d + 4) kX10_reasonOf 27 [some (vR (10, 0, 0)), some (vI a0), some (vI a1)] [] hp _
      refine Ex.go 3 (pc' := 30) (ls' := [some (vR (10, 0, 0)), some (vI a0), some (vI a1)]) (st' := [vI a1, vI a0, vR (10, 0, 0)]) (hp' := hp) (fun _ => rfl) ?_
      obtain ⟨v2, hv, h⟩ := Option.bind_eq_some_iff.mp h
      refine Ex.call (args := [vR (10, 0, 0), vI a0, vI a1]) (rest := []) rfl rfl rfl (exX10_backIn (d := d + 1) hv) ?_
      show Ex (d + 4) kX10_reasonOf 33 [some (vR (10, 0, 0)), some (vI a0), some (vI a1)] [vI v2] hp _
      refine Ex.ifc rfl ?_
      by_cases hc : 0 < v2
      · rw [if_pos hc] at h
        rw [brI_le_p hc]
        show Ex (d + 4) kX10_reasonOf 36 [some (vR (10, 0, 0)), some (vI a0), some (vI a1)] [] hp _
        refine Ex.go 1 (pc' := 37) (ls' := [some (vR (10, 0, 0)), some (vI a0), some (vI a1)]) (st' := [vI 4]) (hp' := hp) (fun _ => rfl) ?_
        cases h
        exact Ex.ret rfl rfl rfl
      · rw [if_neg hc] at h
        rw [brI_le_n hc]
        show Ex (d + 4) kX10_reasonOf 38 [some (vR (10, 0, 0)), some (vI a0), some (vI a1)] [] hp _
        refine Ex.go 3 (pc' := 41) (ls' := [some (vR (10, 0, 0)), some (vI a0), some (vI a1)]) (st' := [vI a1, vI a0, vR (10, 0, 0)]) (hp' := hp) (fun _ => rfl) ?_
        obtain ⟨v3, hv, h⟩ := Option.bind_eq_some_iff.mp h
        refine Ex.call (args := [vR (10, 0, 0), vI a0, vI a1]) (rest := []) rfl rfl rfl (exX10_wouldJam (d := d + 0) hv) ?_
        show Ex (d + 4) kX10_reasonOf 44 [some (vR (10, 0, 0)), some (vI a0), some (vI a1)] [vI v3] hp _
        refine Ex.ifc rfl ?_
        by_cases hc : v3 = 0
        · rw [if_pos hc] at h
          rw [brI_eq_p hc]
          show Ex (d + 4) kX10_reasonOf 51 [some (vR (10, 0, 0)), some (vI a0), some (vI a1)] [] hp _
          refine Ex.go 1 (pc' := 52) (ls' := [some (vR (10, 0, 0)), some (vI a0), some (vI a1)]) (st' := [vI 0]) (hp' := hp) (fun _ => rfl) ?_
          cases h
          exact Ex.ret rfl rfl rfl
        · rw [if_neg hc] at h
          rw [brI_eq_n hc]
          show Ex (d + 4) kX10_reasonOf 47 [some (vR (10, 0, 0)), some (vI a0), some (vI a1)] [] hp _
          refine Ex.go 2 (pc' := 52) (ls' := [some (vR (10, 0, 0)), some (vI a0), some (vI a1)]) (st' := [vI 5]) (hp' := hp) (fun _ => rfl) ?_
          cases h
          exact Ex.ret rfl rfl rfl
    · rw [if_neg hc] at h
      rw [brI_eq_n hc]
      show Ex (d + 4) kX10_reasonOf 25 [some (vR (10, 0, 0)), some (vI a0), some (vI a1)] [] hp _
      refine Ex.go 1 (pc' := 26) (ls' := [some (vR (10, 0, 0)), some (vI a0), some (vI a1)]) (st' := [vI 2]) (hp' := hp) (fun _ => rfl) ?_
      cases h
      exact Ex.ret rfl rfl rfl
  · rw [if_neg hc] at h
    rw [brI_eq_n hc]
    show Ex (d + 4) kX10_reasonOf 10 [some (vR (10, 0, 0)), some (vI a0), some (vI a1)] [] hp _
    refine Ex.go 1 (pc' := 11) (ls' := [some (vR (10, 0, 0)), some (vI a0), some (vI a1)]) (st' := [vI 1]) (hp' := hp) (fun _ => rfl) ?_
    cases h
    exact Ex.ret rfl rfl rfl
def fX10_counts (a0 : Int32) (hp : HP) : Option HP := if inb (22 + a0) (alen (11, 22, 0)) = true then (if inb (22 + a0) (alen (11, 22, 0)) = true then (some (up hp (11, 22, 0) ((22 + a0).toNatClampNeg) ((hp (11, 22, 0) (22 + a0).toNatClampNeg) + 1))) else none) else none
theorem exX10_counts {d : Nat} {a0 : Int32} {hp : HP} {v : HP} (h : fX10_counts a0 hp = some v) : Calls (d + 0) 198 [vR (10, 0, 0), vI a0] hp (rsV () v) := by
  replace h : (if inb (22 + a0) (alen (11, 22, 0)) = true then (if inb (22 + a0) (alen (11, 22, 0)) = true then (some (up hp (11, 22, 0) ((22 + a0).toNatClampNeg) ((hp (11, 22, 0) (22 + a0).toNatClampNeg) + 1))) else none) else none) = some v := h
  show Ex (d + 0) kX10_counts 0 [some (vR (10, 0, 0)), some (vI a0)] [] hp _
  refine Ex.go 6 (pc' := 9) (ls' := [some (vR (10, 0, 0)), some (vI a0)]) (st' := [vI (22 + a0), vR (11, 22, 0), vI (22 + a0), vR (11, 22, 0)]) (hp' := hp) (fun _ => rfl) ?_
  by_cases hc : inb (22 + a0) (alen (11, 22, 0)) = true
  · rw [if_pos hc] at h
    refine Ex.iald rfl rfl hc rfl ?_
    show Ex (d + 0) kX10_counts 10 [some (vR (10, 0, 0)), some (vI a0)] [vI (hp (11, 22, 0) (22 + a0).toNatClampNeg), vI (22 + a0), vR (11, 22, 0)] hp _
    refine Ex.go 2 (pc' := 12) (ls' := [some (vR (10, 0, 0)), some (vI a0)]) (st' := [vI ((hp (11, 22, 0) (22 + a0).toNatClampNeg) + 1), vI (22 + a0), vR (11, 22, 0)]) (hp' := hp) (fun _ => rfl) ?_
    by_cases hc : inb (22 + a0) (alen (11, 22, 0)) = true
    · rw [if_pos hc] at h
      refine Ex.iast rfl rfl hc rfl ?_
      show Ex (d + 0) kX10_counts 13 [some (vR (10, 0, 0)), some (vI a0)] [] (up hp (11, 22, 0) ((22 + a0).toNatClampNeg) ((hp (11, 22, 0) (22 + a0).toNatClampNeg) + 1)) _
      cases h
      exact Ex.ret rfl rfl rfl
    · rw [if_neg hc] at h
      cases h
  · rw [if_neg hc] at h
    cases h
def fX10_advances_10 (hp : HP) : Option HP := (fX10_its 3 hp).bind fun v1 => (fX10_its 4 hp).bind fun v2 => if (hp (11, 22, 0) 1) = (v1 - v2) then ((fX10_counts 10 hp).bind fun hp5 => some hp5) else (some hp)
theorem exX10_advances_10 {d : Nat} {hp : HP} {v : HP} (h : fX10_advances_10 hp = some v) : Ex (d + 1) kX10_advances 10 [some (vR (10, 0, 0))] [] hp (rsV () v) := by
  replace h : ((fX10_its 3 hp).bind fun v1 => (fX10_its 4 hp).bind fun v2 => if (hp (11, 22, 0) 1) = (v1 - v2) then ((fX10_counts 10 hp).bind fun hp5 => some hp5) else (some hp)) = some v := h
  refine Ex.go 3 (pc' := 15) (ls' := [some (vR (10, 0, 0))]) (st' := [vI 1, vR (11, 22, 0)]) (hp' := hp) (fun _ => rfl) ?_
  refine Ex.iald (k := 1) rfl rfl (by decide) (by decide) ?_
  show Ex (d + 1) kX10_advances 16 [some (vR (10, 0, 0))] [vI (hp (11, 22, 0) 1)] hp _
  refine Ex.go 2 (pc' := 18) (ls' := [some (vR (10, 0, 0))]) (st' := [vI 3, vR (10, 0, 0), vI (hp (11, 22, 0) 1)]) (hp' := hp) (fun _ => rfl) ?_
  obtain ⟨v1, hv, h⟩ := Option.bind_eq_some_iff.mp h
  refine Ex.call (args := [vR (10, 0, 0), vI 3]) (rest := [vI (hp (11, 22, 0) 1)]) rfl rfl rfl (exX10_its (d := d + 0) hv) ?_
  show Ex (d + 1) kX10_advances 21 [some (vR (10, 0, 0))] [vI v1, vI (hp (11, 22, 0) 1)] hp _
  refine Ex.go 2 (pc' := 23) (ls' := [some (vR (10, 0, 0))]) (st' := [vI 4, vR (10, 0, 0), vI v1, vI (hp (11, 22, 0) 1)]) (hp' := hp) (fun _ => rfl) ?_
  obtain ⟨v2, hv, h⟩ := Option.bind_eq_some_iff.mp h
  refine Ex.call (args := [vR (10, 0, 0), vI 4]) (rest := [vI v1, vI (hp (11, 22, 0) 1)]) rfl rfl rfl (exX10_its (d := d + 0) hv) ?_
  show Ex (d + 1) kX10_advances 26 [some (vR (10, 0, 0))] [vI v2, vI v1, vI (hp (11, 22, 0) 1)] hp _
  refine Ex.go 1 (pc' := 27) (ls' := [some (vR (10, 0, 0))]) (st' := [vI (v1 - v2), vI (hp (11, 22, 0) 1)]) (hp' := hp) (fun _ => rfl) ?_
  refine Ex.icmp rfl ?_
  by_cases hc : (hp (11, 22, 0) 1) = (v1 - v2)
  · rw [if_pos hc] at h
    rw [brI_ne_p hc]
    show Ex (d + 1) kX10_advances 30 [some (vR (10, 0, 0))] [] hp _
    refine Ex.go 2 (pc' := 33) (ls' := [some (vR (10, 0, 0))]) (st' := [vI 10, vR (10, 0, 0)]) (hp' := hp) (fun _ => rfl) ?_
    obtain ⟨hp5, hv, h⟩ := Option.bind_eq_some_iff.mp h
    refine Ex.call (args := [vR (10, 0, 0), vI 10]) (rest := []) rfl rfl rfl (exX10_counts (d := d + 0) hv) ?_
    show Ex (d + 1) kX10_advances 36 [some (vR (10, 0, 0))] [] hp5 _
    cases h
    exact Ex.ret rfl rfl rfl
  · rw [if_neg hc] at h
    rw [brI_ne_n hc]
    show Ex (d + 1) kX10_advances 36 [some (vR (10, 0, 0))] [] hp _
    cases h
    exact Ex.ret rfl rfl rfl
def fX10_advances (hp : HP) : Option HP := fX10_advances_10 (up hp (11, 22, 0) 1 ((hp (11, 22, 0) 1) + 1))
theorem exX10_advances {d : Nat} {hp : HP} {v : HP} (h : fX10_advances hp = some v) : Calls (d + 1) 199 [vR (10, 0, 0)] hp (rsV () v) := by
  replace h : (fX10_advances_10 (up hp (11, 22, 0) 1 ((hp (11, 22, 0) 1) + 1))) = some v := h
  show Ex (d + 1) kX10_advances 0 [some (vR (10, 0, 0))] [] hp _
  refine Ex.go 4 (pc' := 6) (ls' := [some (vR (10, 0, 0))]) (st' := [vI 1, vR (11, 22, 0), vI 1, vR (11, 22, 0)]) (hp' := hp) (fun _ => rfl) ?_
  refine Ex.iald (k := 1) rfl rfl (by decide) (by decide) ?_
  show Ex (d + 1) kX10_advances 7 [some (vR (10, 0, 0))] [vI (hp (11, 22, 0) 1), vI 1, vR (11, 22, 0)] hp _
  refine Ex.go 2 (pc' := 9) (ls' := [some (vR (10, 0, 0))]) (st' := [vI ((hp (11, 22, 0) 1) + 1), vI 1, vR (11, 22, 0)]) (hp' := hp) (fun _ => rfl) ?_
  refine Ex.iast (k := 1) rfl rfl (by decide) (by decide) ?_
  show Ex (d + 1) kX10_advances 10 [some (vR (10, 0, 0))] [] (up hp (11, 22, 0) 1 ((hp (11, 22, 0) 1) + 1)) _
  exact exX10_advances_10 h
def fX10_runsOn_23 (y0 : Int32) (y1 : Int32) (hp : HP) : Option HP := (fX10_its 9 hp).bind fun v1 => (fX10_in (y0 + y1) 0 (v1 - 1) hp).bind fun v2 => if v2 = 0 then ((fX10_counts 11 (up hp (11, 22, 0) 8 (1 - (hp (11, 22, 0) 8)))).bind fun hp5 => some hp5) else (some (up hp (11, 22, 0) 7 (y0 + y1)))
theorem exX10_runsOn_23 {d : Nat} {y0 : Int32} {y1 : Int32} {j1 : Option VL} {hp : HP} {v : HP} (h : fX10_runsOn_23 y0 y1 hp = some v) : Ex (d + 1) kX10_runsOn 23 [some (vR (10, 0, 0)), j1] [vI y1, vI y0] hp (rsV () v) := by
  replace h : ((fX10_its 9 hp).bind fun v1 => (fX10_in (y0 + y1) 0 (v1 - 1) hp).bind fun v2 => if v2 = 0 then ((fX10_counts 11 (up hp (11, 22, 0) 8 (1 - (hp (11, 22, 0) 8)))).bind fun hp5 => some hp5) else (some (up hp (11, 22, 0) 7 (y0 + y1)))) = some v := h
  refine Ex.go 6 (pc' := 30) (ls' := [some (vR (10, 0, 0)), some (vI (y0 + y1))]) (st' := [vI 9, vR (10, 0, 0), vI 0, vI (y0 + y1)]) (hp' := hp) (fun _ => rfl) ?_
  obtain ⟨v1, hv, h⟩ := Option.bind_eq_some_iff.mp h
  refine Ex.call (args := [vR (10, 0, 0), vI 9]) (rest := [vI 0, vI (y0 + y1)]) rfl rfl rfl (exX10_its (d := d + 0) hv) ?_
  show Ex (d + 1) kX10_runsOn 33 [some (vR (10, 0, 0)), some (vI (y0 + y1))] [vI v1, vI 0, vI (y0 + y1)] hp _
  refine Ex.go 2 (pc' := 35) (ls' := [some (vR (10, 0, 0)), some (vI (y0 + y1))]) (st' := [vI (v1 - 1), vI 0, vI (y0 + y1)]) (hp' := hp) (fun _ => rfl) ?_
  obtain ⟨v2, hv, h⟩ := Option.bind_eq_some_iff.mp h
  refine Ex.call (args := [vI (y0 + y1), vI 0, vI (v1 - 1)]) (rest := []) rfl rfl rfl (exX10_in (d := d + 0) hv) ?_
  show Ex (d + 1) kX10_runsOn 38 [some (vR (10, 0, 0)), some (vI (y0 + y1))] [vI v2] hp _
  refine Ex.ifc rfl ?_
  by_cases hc : v2 = 0
  · rw [if_pos hc] at h
    rw [brI_eq_p hc]
    show Ex (d + 1) kX10_runsOn 52 [some (vR (10, 0, 0)), some (vI (y0 + y1))] [] hp _
    refine Ex.go 7 (pc' := 65) (ls' := [some (vR (10, 0, 0)), some (vI (y0 + y1))]) (st' := [vI 8, vR (11, 22, 0), vI 1, vI 8, vR (11, 22, 0)]) (hp' := hp) (fun _ => rfl) ?_
    refine Ex.iald (k := 8) rfl rfl (by decide) (by decide) ?_
    show Ex (d + 1) kX10_runsOn 66 [some (vR (10, 0, 0)), some (vI (y0 + y1))] [vI (hp (11, 22, 0) 8), vI 1, vI 8, vR (11, 22, 0)] hp _
    refine Ex.go 1 (pc' := 67) (ls' := [some (vR (10, 0, 0)), some (vI (y0 + y1))]) (st' := [vI (1 - (hp (11, 22, 0) 8)), vI 8, vR (11, 22, 0)]) (hp' := hp) (fun _ => rfl) ?_
    refine Ex.iast (k := 8) rfl rfl (by decide) (by decide) ?_
    show Ex (d + 1) kX10_runsOn 68 [some (vR (10, 0, 0)), some (vI (y0 + y1))] [] (up hp (11, 22, 0) 8 (1 - (hp (11, 22, 0) 8))) _
    refine Ex.go 2 (pc' := 71) (ls' := [some (vR (10, 0, 0)), some (vI (y0 + y1))]) (st' := [vI 11, vR (10, 0, 0)]) (hp' := (up hp (11, 22, 0) 8 (1 - (hp (11, 22, 0) 8)))) (fun _ => rfl) ?_
    obtain ⟨hp5, hv, h⟩ := Option.bind_eq_some_iff.mp h
    refine Ex.call (args := [vR (10, 0, 0), vI 11]) (rest := []) rfl rfl rfl (exX10_counts (d := d + 0) hv) ?_
    show Ex (d + 1) kX10_runsOn 74 [some (vR (10, 0, 0)), some (vI (y0 + y1))] [] hp5 _
    cases h
    exact Ex.ret rfl rfl rfl
  · rw [if_neg hc] at h
    rw [brI_eq_n hc]
    show Ex (d + 1) kX10_runsOn 41 [some (vR (10, 0, 0)), some (vI (y0 + y1))] [] hp _
    refine Ex.go 4 (pc' := 48) (ls' := [some (vR (10, 0, 0)), some (vI (y0 + y1))]) (st' := [vI (y0 + y1), vI 7, vR (11, 22, 0)]) (hp' := hp) (fun _ => rfl) ?_
    refine Ex.iast (k := 7) rfl rfl (by decide) (by decide) ?_
    show Ex (d + 1) kX10_runsOn 49 [some (vR (10, 0, 0)), some (vI (y0 + y1))] [] (up hp (11, 22, 0) 7 (y0 + y1)) _
    refine Ex.go 1 (pc' := 74) (ls' := [some (vR (10, 0, 0)), some (vI (y0 + y1))]) (st' := []) (hp' := (up hp (11, 22, 0) 7 (y0 + y1))) (fun _ => rfl) ?_
    cases h
    exact Ex.ret rfl rfl rfl
def fX10_runsOn (hp : HP) : Option HP := if (hp (11, 22, 0) 8) = 1 then (fX10_runsOn_23 (hp (11, 22, 0) 7) 1 hp) else (fX10_runsOn_23 (hp (11, 22, 0) 7) m1 hp)
theorem exX10_runsOn {d : Nat} {hp : HP} {v : HP} (h : fX10_runsOn hp = some v) : Calls (d + 1) 200 [vR (10, 0, 0)] hp (rsV () v) := by
  replace h : (if (hp (11, 22, 0) 8) = 1 then (fX10_runsOn_23 (hp (11, 22, 0) 7) 1 hp) else (fX10_runsOn_23 (hp (11, 22, 0) 7) m1 hp)) = some v := h
  show Ex (d + 1) kX10_runsOn 0 [some (vR (10, 0, 0)), none] [] hp _
  refine Ex.go 3 (pc' := 6) (ls' := [some (vR (10, 0, 0)), none]) (st' := [vI 7, vR (11, 22, 0)]) (hp' := hp) (fun _ => rfl) ?_
  refine Ex.iald (k := 7) rfl rfl (by decide) (by decide) ?_
  show Ex (d + 1) kX10_runsOn 7 [some (vR (10, 0, 0)), none] [vI (hp (11, 22, 0) 7)] hp _
  refine Ex.go 3 (pc' := 13) (ls' := [some (vR (10, 0, 0)), none]) (st' := [vI 8, vR (11, 22, 0), vI (hp (11, 22, 0) 7)]) (hp' := hp) (fun _ => rfl) ?_
  refine Ex.iald (k := 8) rfl rfl (by decide) (by decide) ?_
  show Ex (d + 1) kX10_runsOn 14 [some (vR (10, 0, 0)), none] [vI (hp (11, 22, 0) 8), vI (hp (11, 22, 0) 7)] hp _
  refine Ex.go 1 (pc' := 15) (ls' := [some (vR (10, 0, 0)), none]) (st' := [vI 1, vI (hp (11, 22, 0) 8), vI (hp (11, 22, 0) 7)]) (hp' := hp) (fun _ => rfl) ?_
  refine Ex.icmp rfl ?_
  by_cases hc : (hp (11, 22, 0) 8) = 1
  · rw [if_pos hc] at h
    rw [brI_ne_p hc]
    show Ex (d + 1) kX10_runsOn 18 [some (vR (10, 0, 0)), none] [vI (hp (11, 22, 0) 7)] hp _
    refine Ex.go 2 (pc' := 23) (ls' := [some (vR (10, 0, 0)), none]) (st' := [vI 1, vI (hp (11, 22, 0) 7)]) (hp' := hp) (fun _ => rfl) ?_
    exact exX10_runsOn_23 h
  · rw [if_neg hc] at h
    rw [brI_ne_n hc]
    show Ex (d + 1) kX10_runsOn 22 [some (vR (10, 0, 0)), none] [vI (hp (11, 22, 0) 7)] hp _
    refine Ex.go 1 (pc' := 23) (ls' := [some (vR (10, 0, 0)), none]) (st' := [vI m1, vI (hp (11, 22, 0) 7)]) (hp' := hp) (fun _ => rfl) ?_
    exact exX10_runsOn_23 h
def fX10_prints_91 (x3 : Int32) (hp : HP) : Option HP := (fX10_its 11 hp).bind fun v1 => if inb (130 + (hp (11, 22, 0) 7)) (alen (11, 22, 0)) = true then ((fX10_counts 3 (up (up hp (11, 22, 0) ((130 + (hp (11, 22, 0) 7)).toNatClampNeg) (imax 0 (x3 - v1))) (10, 0, 0) 25 x3)).bind fun hp4 => (fX10_runsOn hp4).bind fun hp7 => some hp7) else none
theorem exX10_prints_91 {d : Nat} {x3 : Int32} {j1 : Option VL} {j2 : Option VL} {hp : HP} {v : HP} (h : fX10_prints_91 x3 hp = some v) : Ex (d + 2) kX10_prints 91 [some (vR (10, 0, 0)), j1, j2, some (vI x3)] [] hp (rsV () v) := by
  replace h : ((fX10_its 11 hp).bind fun v1 => if inb (130 + (hp (11, 22, 0) 7)) (alen (11, 22, 0)) = true then ((fX10_counts 3 (up (up hp (11, 22, 0) ((130 + (hp (11, 22, 0) 7)).toNatClampNeg) (imax 0 (x3 - v1))) (10, 0, 0) 25 x3)).bind fun hp4 => (fX10_runsOn hp4).bind fun hp7 => some hp7) else none) = some v := h
  refine Ex.go 6 (pc' := 104) (ls' := [some (vR (10, 0, 0)), j1, j2, some (vI x3)]) (st' := [vI 7, vR (11, 22, 0), vI 130, vR (11, 22, 0)]) (hp' := hp) (fun _ => rfl) ?_
  refine Ex.iald (k := 7) rfl rfl (by decide) (by decide) ?_
  show Ex (d + 2) kX10_prints 105 [some (vR (10, 0, 0)), j1, j2, some (vI x3)] [vI (hp (11, 22, 0) 7), vI 130, vR (11, 22, 0)] hp _
  refine Ex.go 5 (pc' := 111) (ls' := [some (vR (10, 0, 0)), j1, j2, some (vI x3)]) (st' := [vI 11, vR (10, 0, 0), vI x3, vI 0, vI (130 + (hp (11, 22, 0) 7)), vR (11, 22, 0)]) (hp' := hp) (fun _ => rfl) ?_
  obtain ⟨v1, hv, h⟩ := Option.bind_eq_some_iff.mp h
  refine Ex.call (args := [vR (10, 0, 0), vI 11]) (rest := [vI x3, vI 0, vI (130 + (hp (11, 22, 0) 7)), vR (11, 22, 0)]) rfl rfl rfl (exX10_its (d := d + 1) hv) ?_
  show Ex (d + 2) kX10_prints 114 [some (vR (10, 0, 0)), j1, j2, some (vI x3)] [vI v1, vI x3, vI 0, vI (130 + (hp (11, 22, 0) 7)), vR (11, 22, 0)] hp _
  refine Ex.go 2 (pc' := 118) (ls' := [some (vR (10, 0, 0)), j1, j2, some (vI x3)]) (st' := [vI (imax 0 (x3 - v1)), vI (130 + (hp (11, 22, 0) 7)), vR (11, 22, 0)]) (hp' := hp) (fun _ => rfl) ?_
  by_cases hc : inb (130 + (hp (11, 22, 0) 7)) (alen (11, 22, 0)) = true
  · rw [if_pos hc] at h
    refine Ex.iast rfl rfl hc rfl ?_
    show Ex (d + 2) kX10_prints 119 [some (vR (10, 0, 0)), j1, j2, some (vI x3)] [] (up hp (11, 22, 0) ((130 + (hp (11, 22, 0) 7)).toNatClampNeg) (imax 0 (x3 - v1))) _
    refine Ex.go 5 (pc' := 126) (ls' := [some (vR (10, 0, 0)), j1, j2, some (vI x3)]) (st' := [vI 3, vR (10, 0, 0)]) (hp' := (up (up hp (11, 22, 0) ((130 + (hp (11, 22, 0) 7)).toNatClampNeg) (imax 0 (x3 - v1))) (10, 0, 0) 25 x3)) (fun _ => rfl) ?_
    obtain ⟨hp4, hv, h⟩ := Option.bind_eq_some_iff.mp h
    refine Ex.call (args := [vR (10, 0, 0), vI 3]) (rest := []) rfl rfl rfl (exX10_counts (d := d + 1) hv) ?_
    show Ex (d + 2) kX10_prints 129 [some (vR (10, 0, 0)), j1, j2, some (vI x3)] [] hp4 _
    refine Ex.go 1 (pc' := 130) (ls' := [some (vR (10, 0, 0)), j1, j2, some (vI x3)]) (st' := [vR (10, 0, 0)]) (hp' := hp4) (fun _ => rfl) ?_
    obtain ⟨hp7, hv, h⟩ := Option.bind_eq_some_iff.mp h
    refine Ex.call (args := [vR (10, 0, 0)]) (rest := []) rfl rfl rfl (exX10_runsOn (d := d + 0) hv) ?_
    show Ex (d + 2) kX10_prints 133 [some (vR (10, 0, 0)), j1, j2, some (vI x3)] [] hp7 _
    cases h
    exact Ex.ret rfl rfl rfl
  · rw [if_neg hc] at h
    cases h
def fX10_prints_64 (x2 : Int32) (x3 : Int32) (hp : HP) : Option HP := if inb (670 + x2) (alen (11, 22, 0)) = true then (if inb (670 + x2) (alen (11, 22, 0)) = true then (fX10_prints_91 x3 (up hp (11, 22, 0) ((670 + x2).toNatClampNeg) (imin 9 ((hp (11, 22, 0) (670 + x2).toNatClampNeg) + x3)))) else none) else none
theorem exX10_prints_64 {d : Nat} {x2 : Int32} {x3 : Int32} {j1 : Option VL} {hp : HP} {v : HP} (h : fX10_prints_64 x2 x3 hp = some v) : Ex (d + 2) kX10_prints 64 [some (vR (10, 0, 0)), j1, some (vI x2), some (vI x3)] [] hp (rsV () v) := by
  replace h : (if inb (670 + x2) (alen (11, 22, 0)) = true then (if inb (670 + x2) (alen (11, 22, 0)) = true then (fX10_prints_91 x3 (up hp (11, 22, 0) ((670 + x2).toNatClampNeg) (imin 9 ((hp (11, 22, 0) (670 + x2).toNatClampNeg) + x3)))) else none) else none) = some v := h
  refine Ex.go 11 (pc' := 84) (ls' := [some (vR (10, 0, 0)), j1, some (vI x2), some (vI x3)]) (st' := [vI (670 + x2), vR (11, 22, 0), vI 9, vI (670 + x2), vR (11, 22, 0)]) (hp' := hp) (fun _ => rfl) ?_
  by_cases hc : inb (670 + x2) (alen (11, 22, 0)) = true
  · rw [if_pos hc] at h
    refine Ex.iald rfl rfl hc rfl ?_
    show Ex (d + 2) kX10_prints 85 [some (vR (10, 0, 0)), j1, some (vI x2), some (vI x3)] [vI (hp (11, 22, 0) (670 + x2).toNatClampNeg), vI 9, vI (670 + x2), vR (11, 22, 0)] hp _
    refine Ex.go 3 (pc' := 90) (ls' := [some (vR (10, 0, 0)), j1, some (vI x2), some (vI x3)]) (st' := [vI (imin 9 ((hp (11, 22, 0) (670 + x2).toNatClampNeg) + x3)), vI (670 + x2), vR (11, 22, 0)]) (hp' := hp) (fun _ => rfl) ?_
    by_cases hc : inb (670 + x2) (alen (11, 22, 0)) = true
    · rw [if_pos hc] at h
      refine Ex.iast rfl rfl hc rfl ?_
      show Ex (d + 2) kX10_prints 91 [some (vR (10, 0, 0)), j1, some (vI x2), some (vI x3)] [] (up hp (11, 22, 0) ((670 + x2).toNatClampNeg) (imin 9 ((hp (11, 22, 0) (670 + x2).toNatClampNeg) + x3))) _
      exact exX10_prints_91 h
    · rw [if_neg hc] at h
      cases h
  · rw [if_neg hc] at h
    cases h
def fX10_prints_53 (x1 : Int32) (x2 : Int32) (x3 : Int32) (hp : HP) : Option HP := if inb (190 + x2) (alen (11, 22, 0)) = true then (fX10_prints_64 x2 x3 (up hp (11, 22, 0) ((190 + x2).toNatClampNeg) x1)) else none
theorem exX10_prints_53 {d : Nat} {x1 : Int32} {x2 : Int32} {x3 : Int32} {hp : HP} {v : HP} (h : fX10_prints_53 x1 x2 x3 hp = some v) : Ex (d + 2) kX10_prints 53 [some (vR (10, 0, 0)), some (vI x1), some (vI x2), some (vI x3)] [] hp (rsV () v) := by
  replace h : (if inb (190 + x2) (alen (11, 22, 0)) = true then (fX10_prints_64 x2 x3 (up hp (11, 22, 0) ((190 + x2).toNatClampNeg) x1)) else none) = some v := h
  refine Ex.go 6 (pc' := 63) (ls' := [some (vR (10, 0, 0)), some (vI x1), some (vI x2), some (vI x3)]) (st' := [vI x1, vI (190 + x2), vR (11, 22, 0)]) (hp' := hp) (fun _ => rfl) ?_
  by_cases hc : inb (190 + x2) (alen (11, 22, 0)) = true
  · rw [if_pos hc] at h
    refine Ex.iast rfl rfl hc rfl ?_
    show Ex (d + 2) kX10_prints 64 [some (vR (10, 0, 0)), some (vI x1), some (vI x2), some (vI x3)] [] (up hp (11, 22, 0) ((190 + x2).toNatClampNeg) x1) _
    exact exX10_prints_64 h
  · rw [if_neg hc] at h
    cases h
def fX10_prints (a0 : Int32) (hp : HP) : Option HP := if inb (130 + (hp (11, 22, 0) 7)) (alen (11, 22, 0)) = true then (if inb (190 + ((40 * (hp (11, 22, 0) 0)) + (hp (11, 22, 0) 1))) (alen (11, 22, 0)) = true then (if (hp (11, 22, 0) (190 + ((40 * (hp (11, 22, 0) 0)) + (hp (11, 22, 0) 1))).toNatClampNeg) = 0 then (fX10_prints_53 a0 ((40 * (hp (11, 22, 0) 0)) + (hp (11, 22, 0) 1)) (hp (11, 22, 0) (130 + (hp (11, 22, 0) 7)).toNatClampNeg) hp) else ((fX10_counts 12 hp).bind fun hp10 => fX10_prints_53 a0 ((40 * (hp (11, 22, 0) 0)) + (hp (11, 22, 0) 1)) (hp (11, 22, 0) (130 + (hp (11, 22, 0) 7)).toNatClampNeg) hp10)) else none) else none
theorem exX10_prints {d : Nat} {a0 : Int32} {hp : HP} {v : HP} (h : fX10_prints a0 hp = some v) : Calls (d + 2) 201 [vR (10, 0, 0), vI a0] hp (rsV () v) := by
  replace h : (if inb (130 + (hp (11, 22, 0) 7)) (alen (11, 22, 0)) = true then (if inb (190 + ((40 * (hp (11, 22, 0) 0)) + (hp (11, 22, 0) 1))) (alen (11, 22, 0)) = true then (if (hp (11, 22, 0) (190 + ((40 * (hp (11, 22, 0) 0)) + (hp (11, 22, 0) 1))).toNatClampNeg) = 0 then (fX10_prints_53 a0 ((40 * (hp (11, 22, 0) 0)) + (hp (11, 22, 0) 1)) (hp (11, 22, 0) (130 + (hp (11, 22, 0) 7)).toNatClampNeg) hp) else ((fX10_counts 12 hp).bind fun hp10 => fX10_prints_53 a0 ((40 * (hp (11, 22, 0) 0)) + (hp (11, 22, 0) 1)) (hp (11, 22, 0) (130 + (hp (11, 22, 0) 7)).toNatClampNeg) hp10)) else none) else none) = some v := h
  show Ex (d + 2) kX10_prints 0 [some (vR (10, 0, 0)), some (vI a0), none, none] [] hp _
  refine Ex.go 4 (pc' := 7) (ls' := [some (vR (10, 0, 0)), some (vI a0), none, none]) (st' := [vI 0, vR (11, 22, 0), vI 40]) (hp' := hp) (fun _ => rfl) ?_
  refine Ex.iald (k := 0) rfl rfl (by decide) (by decide) ?_
  show Ex (d + 2) kX10_prints 8 [some (vR (10, 0, 0)), some (vI a0), none, none] [vI (hp (11, 22, 0) 0), vI 40] hp _
  refine Ex.go 4 (pc' := 14) (ls' := [some (vR (10, 0, 0)), some (vI a0), none, none]) (st' := [vI 1, vR (11, 22, 0), vI (40 * (hp (11, 22, 0) 0))]) (hp' := hp) (fun _ => rfl) ?_
  refine Ex.iald (k := 1) rfl rfl (by decide) (by decide) ?_
  show Ex (d + 2) kX10_prints 15 [some (vR (10, 0, 0)), some (vI a0), none, none] [vI (hp (11, 22, 0) 1), vI (40 * (hp (11, 22, 0) 0))] hp _
  refine Ex.go 8 (pc' := 30) (ls' := [some (vR (10, 0, 0)), some (vI a0), some (vI ((40 * (hp (11, 22, 0) 0)) + (hp (11, 22, 0) 1))), none]) (st' := [vI 7, vR (11, 22, 0), vI 130, vR (11, 22, 0)]) (hp' := hp) (fun _ => rfl) ?_
  refine Ex.iald (k := 7) rfl rfl (by decide) (by decide) ?_
  show Ex (d + 2) kX10_prints 31 [some (vR (10, 0, 0)), some (vI a0), some (vI ((40 * (hp (11, 22, 0) 0)) + (hp (11, 22, 0) 1))), none] [vI (hp (11, 22, 0) 7), vI 130, vR (11, 22, 0)] hp _
  refine Ex.go 1 (pc' := 32) (ls' := [some (vR (10, 0, 0)), some (vI a0), some (vI ((40 * (hp (11, 22, 0) 0)) + (hp (11, 22, 0) 1))), none]) (st' := [vI (130 + (hp (11, 22, 0) 7)), vR (11, 22, 0)]) (hp' := hp) (fun _ => rfl) ?_
  by_cases hc : inb (130 + (hp (11, 22, 0) 7)) (alen (11, 22, 0)) = true
  · rw [if_pos hc] at h
    refine Ex.iald rfl rfl hc rfl ?_
    show Ex (d + 2) kX10_prints 33 [some (vR (10, 0, 0)), some (vI a0), some (vI ((40 * (hp (11, 22, 0) 0)) + (hp (11, 22, 0) 1))), none] [vI (hp (11, 22, 0) (130 + (hp (11, 22, 0) 7)).toNatClampNeg)] hp _
    refine Ex.go 6 (pc' := 43) (ls' := [some (vR (10, 0, 0)), some (vI a0), some (vI ((40 * (hp (11, 22, 0) 0)) + (hp (11, 22, 0) 1))), some (vI (hp (11, 22, 0) (130 + (hp (11, 22, 0) 7)).toNatClampNeg))]) (st' := [vI (190 + ((40 * (hp (11, 22, 0) 0)) + (hp (11, 22, 0) 1))), vR (11, 22, 0)]) (hp' := hp) (fun _ => rfl) ?_
    by_cases hc : inb (190 + ((40 * (hp (11, 22, 0) 0)) + (hp (11, 22, 0) 1))) (alen (11, 22, 0)) = true
    · rw [if_pos hc] at h
      refine Ex.iald rfl rfl hc rfl ?_
      show Ex (d + 2) kX10_prints 44 [some (vR (10, 0, 0)), some (vI a0), some (vI ((40 * (hp (11, 22, 0) 0)) + (hp (11, 22, 0) 1))), some (vI (hp (11, 22, 0) (130 + (hp (11, 22, 0) 7)).toNatClampNeg))] [vI (hp (11, 22, 0) (190 + ((40 * (hp (11, 22, 0) 0)) + (hp (11, 22, 0) 1))).toNatClampNeg)] hp _
      refine Ex.ifc rfl ?_
      by_cases hc : (hp (11, 22, 0) (190 + ((40 * (hp (11, 22, 0) 0)) + (hp (11, 22, 0) 1))).toNatClampNeg) = 0
      · rw [if_pos hc] at h
        rw [brI_eq_p hc]
        show Ex (d + 2) kX10_prints 53 [some (vR (10, 0, 0)), some (vI a0), some (vI ((40 * (hp (11, 22, 0) 0)) + (hp (11, 22, 0) 1))), some (vI (hp (11, 22, 0) (130 + (hp (11, 22, 0) 7)).toNatClampNeg))] [] hp _
        exact exX10_prints_53 h
      · rw [if_neg hc] at h
        rw [brI_eq_n hc]
        show Ex (d + 2) kX10_prints 47 [some (vR (10, 0, 0)), some (vI a0), some (vI ((40 * (hp (11, 22, 0) 0)) + (hp (11, 22, 0) 1))), some (vI (hp (11, 22, 0) (130 + (hp (11, 22, 0) 7)).toNatClampNeg))] [] hp _
        refine Ex.go 2 (pc' := 50) (ls' := [some (vR (10, 0, 0)), some (vI a0), some (vI ((40 * (hp (11, 22, 0) 0)) + (hp (11, 22, 0) 1))), some (vI (hp (11, 22, 0) (130 + (hp (11, 22, 0) 7)).toNatClampNeg))]) (st' := [vI 12, vR (10, 0, 0)]) (hp' := hp) (fun _ => rfl) ?_
        obtain ⟨hp10, hv, h⟩ := Option.bind_eq_some_iff.mp h
        refine Ex.call (args := [vR (10, 0, 0), vI 12]) (rest := []) rfl rfl rfl (exX10_counts (d := d + 1) hv) ?_
        show Ex (d + 2) kX10_prints 53 [some (vR (10, 0, 0)), some (vI a0), some (vI ((40 * (hp (11, 22, 0) 0)) + (hp (11, 22, 0) 1))), some (vI (hp (11, 22, 0) (130 + (hp (11, 22, 0) 7)).toNatClampNeg))] [] hp10 _
        exact exX10_prints_53 h
    · rw [if_neg hc] at h
      cases h
  · rw [if_neg hc] at h
    cases h
def fX10_strikes_66 (y1 : Int32) (hp : HP) : Option HP := (fX10_prints y1 hp).bind fun hp3 => (fX10_advances hp3).bind fun hp6 => some hp6
theorem exX10_strikes_66 {d : Nat} {y1 : Int32} {j1 : Option VL} {j2 : Option VL} {hp : HP} {v : HP} (h : fX10_strikes_66 y1 hp = some v) : Ex (d + 3) kX10_strikes 66 [some (vR (10, 0, 0)), j1, j2] [vI y1, vR (10, 0, 0)] hp (rsV () v) := by
  replace h : ((fX10_prints y1 hp).bind fun hp3 => (fX10_advances hp3).bind fun hp6 => some hp6) = some v := h
  obtain ⟨hp3, hv, h⟩ := Option.bind_eq_some_iff.mp h
  refine Ex.call (args := [vR (10, 0, 0), vI y1]) (rest := []) rfl rfl rfl (exX10_prints (d := d + 0) hv) ?_
  show Ex (d + 3) kX10_strikes 69 [some (vR (10, 0, 0)), j1, j2] [] hp3 _
  refine Ex.go 1 (pc' := 70) (ls' := [some (vR (10, 0, 0)), j1, j2]) (st' := [vR (10, 0, 0)]) (hp' := hp3) (fun _ => rfl) ?_
  obtain ⟨hp6, hv, h⟩ := Option.bind_eq_some_iff.mp h
  refine Ex.call (args := [vR (10, 0, 0)]) (rest := []) rfl rfl rfl (exX10_advances (d := d + 1) hv) ?_
  show Ex (d + 3) kX10_strikes 73 [some (vR (10, 0, 0)), j1, j2] [] hp6 _
  cases h
  exact Ex.ret rfl rfl rfl
def fX10_strikes_43 (x1 : Int32) (x2 : Int32) (hp : HP) : Option HP := if x2 = 0 then (if inb x1 (alen (11, 20, 0)) = true then (fX10_strikes_66 (hp (11, 20, 0) x1.toNatClampNeg) hp) else none) else (if inb x1 (alen (11, 20, 0)) = true then (fX10_strikes_66 ((hp (11, 20, 0) x1.toNatClampNeg) - 32) hp) else none)
theorem exX10_strikes_43 {d : Nat} {x1 : Int32} {x2 : Int32} {hp : HP} {v : HP} (h : fX10_strikes_43 x1 x2 hp = some v) : Ex (d + 3) kX10_strikes 43 [some (vR (10, 0, 0)), some (vI x1), some (vI x2)] [] hp (rsV () v) := by
  replace h : (if x2 = 0 then (if inb x1 (alen (11, 20, 0)) = true then (fX10_strikes_66 (hp (11, 20, 0) x1.toNatClampNeg) hp) else none) else (if inb x1 (alen (11, 20, 0)) = true then (fX10_strikes_66 ((hp (11, 20, 0) x1.toNatClampNeg) - 32) hp) else none)) = some v := h
  refine Ex.go 2 (pc' := 45) (ls' := [some (vR (10, 0, 0)), some (vI x1), some (vI x2)]) (st' := [vI x2, vR (10, 0, 0)]) (hp' := hp) (fun _ => rfl) ?_
  refine Ex.ifc rfl ?_
  by_cases hc : x2 = 0
  · rw [if_pos hc] at h
    rw [brI_eq_p hc]
    show Ex (d + 3) kX10_strikes 60 [some (vR (10, 0, 0)), some (vI x1), some (vI x2)] [vR (10, 0, 0)] hp _
    refine Ex.go 3 (pc' := 65) (ls' := [some (vR (10, 0, 0)), some (vI x1), some (vI x2)]) (st' := [vI x1, vR (11, 20, 0), vR (10, 0, 0)]) (hp' := hp) (fun _ => rfl) ?_
    by_cases hc : inb x1 (alen (11, 20, 0)) = true
    · rw [if_pos hc] at h
      refine Ex.iald rfl rfl hc rfl ?_
      show Ex (d + 3) kX10_strikes 66 [some (vR (10, 0, 0)), some (vI x1), some (vI x2)] [vI (hp (11, 20, 0) x1.toNatClampNeg), vR (10, 0, 0)] hp _
      exact exX10_strikes_66 h
    · rw [if_neg hc] at h
      cases h
  · rw [if_neg hc] at h
    rw [brI_eq_n hc]
    show Ex (d + 3) kX10_strikes 48 [some (vR (10, 0, 0)), some (vI x1), some (vI x2)] [vR (10, 0, 0)] hp _
    refine Ex.go 3 (pc' := 53) (ls' := [some (vR (10, 0, 0)), some (vI x1), some (vI x2)]) (st' := [vI x1, vR (11, 20, 0), vR (10, 0, 0)]) (hp' := hp) (fun _ => rfl) ?_
    by_cases hc : inb x1 (alen (11, 20, 0)) = true
    · rw [if_pos hc] at h
      refine Ex.iald rfl rfl hc rfl ?_
      show Ex (d + 3) kX10_strikes 54 [some (vR (10, 0, 0)), some (vI x1), some (vI x2)] [vI (hp (11, 20, 0) x1.toNatClampNeg), vR (10, 0, 0)] hp _
      refine Ex.go 3 (pc' := 66) (ls' := [some (vR (10, 0, 0)), some (vI x1), some (vI x2)]) (st' := [vI ((hp (11, 20, 0) x1.toNatClampNeg) - 32), vR (10, 0, 0)]) (hp' := hp) (fun _ => rfl) ?_
      exact exX10_strikes_66 h
    · rw [if_neg hc] at h
      cases h
def fX10_strikes_36 (x1 : Int32) (x2 : Int32) (hp : HP) : Option HP := fX10_strikes_43 x1 x2 (up hp (11, 22, 0) 4 x1)
theorem exX10_strikes_36 {d : Nat} {x1 : Int32} {x2 : Int32} {hp : HP} {v : HP} (h : fX10_strikes_36 x1 x2 hp = some v) : Ex (d + 3) kX10_strikes 36 [some (vR (10, 0, 0)), some (vI x1), some (vI x2)] [] hp (rsV () v) := by
  replace h : (fX10_strikes_43 x1 x2 (up hp (11, 22, 0) 4 x1)) = some v := h
  refine Ex.go 4 (pc' := 42) (ls' := [some (vR (10, 0, 0)), some (vI x1), some (vI x2)]) (st' := [vI x1, vI 4, vR (11, 22, 0)]) (hp' := hp) (fun _ => rfl) ?_
  refine Ex.iast (k := 4) rfl rfl (by decide) (by decide) ?_
  show Ex (d + 3) kX10_strikes 43 [some (vR (10, 0, 0)), some (vI x1), some (vI x2)] [] (up hp (11, 22, 0) 4 x1) _
  exact exX10_strikes_43 h
def fX10_strikes_19 (x1 : Int32) (x2 : Int32) (hp : HP) : Option HP := if inb ((38 + (2 * x1)) + 1) (alen (11, 22, 0)) = true then (if inb ((38 + (2 * x1)) + 1) (alen (11, 22, 0)) = true then (fX10_strikes_36 x1 x2 (up hp (11, 22, 0) (((38 + (2 * x1)) + 1).toNatClampNeg) ((hp (11, 22, 0) ((38 + (2 * x1)) + 1).toNatClampNeg) + 1))) else none) else none
theorem exX10_strikes_19 {d : Nat} {x1 : Int32} {x2 : Int32} {hp : HP} {v : HP} (h : fX10_strikes_19 x1 x2 hp = some v) : Ex (d + 3) kX10_strikes 19 [some (vR (10, 0, 0)), some (vI x1), some (vI x2)] [] hp (rsV () v) := by
  replace h : (if inb ((38 + (2 * x1)) + 1) (alen (11, 22, 0)) = true then (if inb ((38 + (2 * x1)) + 1) (alen (11, 22, 0)) = true then (fX10_strikes_36 x1 x2 (up hp (11, 22, 0) (((38 + (2 * x1)) + 1).toNatClampNeg) ((hp (11, 22, 0) ((38 + (2 * x1)) + 1).toNatClampNeg) + 1))) else none) else none) = some v := h
  refine Ex.go 10 (pc' := 32) (ls' := [some (vR (10, 0, 0)), some (vI x1), some (vI x2)]) (st' := [vI ((38 + (2 * x1)) + 1), vR (11, 22, 0), vI ((38 + (2 * x1)) + 1), vR (11, 22, 0)]) (hp' := hp) (fun _ => rfl) ?_
  by_cases hc : inb ((38 + (2 * x1)) + 1) (alen (11, 22, 0)) = true
  · rw [if_pos hc] at h
    refine Ex.iald rfl rfl hc rfl ?_
    show Ex (d + 3) kX10_strikes 33 [some (vR (10, 0, 0)), some (vI x1), some (vI x2)] [vI (hp (11, 22, 0) ((38 + (2 * x1)) + 1).toNatClampNeg), vI ((38 + (2 * x1)) + 1), vR (11, 22, 0)] hp _
    refine Ex.go 2 (pc' := 35) (ls' := [some (vR (10, 0, 0)), some (vI x1), some (vI x2)]) (st' := [vI ((hp (11, 22, 0) ((38 + (2 * x1)) + 1).toNatClampNeg) + 1), vI ((38 + (2 * x1)) + 1), vR (11, 22, 0)]) (hp' := hp) (fun _ => rfl) ?_
    by_cases hc : inb ((38 + (2 * x1)) + 1) (alen (11, 22, 0)) = true
    · rw [if_pos hc] at h
      refine Ex.iast rfl rfl hc rfl ?_
      show Ex (d + 3) kX10_strikes 36 [some (vR (10, 0, 0)), some (vI x1), some (vI x2)] [] (up hp (11, 22, 0) (((38 + (2 * x1)) + 1).toNatClampNeg) ((hp (11, 22, 0) ((38 + (2 * x1)) + 1).toNatClampNeg) + 1)) _
      exact exX10_strikes_36 h
    · rw [if_neg hc] at h
      cases h
  · rw [if_neg hc] at h
    cases h
def fX10_strikes (a0 : Int32) (a1 : Int32) (hp : HP) : Option HP := if inb ((38 + (2 * a0)) + 0) (alen (11, 22, 0)) = true then (fX10_strikes_19 a0 a1 (up hp (11, 22, 0) (((38 + (2 * a0)) + 0).toNatClampNeg) (hp (11, 22, 0) 3))) else none
theorem exX10_strikes {d : Nat} {a0 : Int32} {a1 : Int32} {hp : HP} {v : HP} (h : fX10_strikes a0 a1 hp = some v) : Calls (d + 3) 202 [vR (10, 0, 0), vI a0, vI a1] hp (rsV () v) := by
  replace h : (if inb ((38 + (2 * a0)) + 0) (alen (11, 22, 0)) = true then (fX10_strikes_19 a0 a1 (up hp (11, 22, 0) (((38 + (2 * a0)) + 0).toNatClampNeg) (hp (11, 22, 0) 3))) else none) = some v := h
  show Ex (d + 3) kX10_strikes 0 [some (vR (10, 0, 0)), some (vI a0), some (vI a1)] [] hp _
  refine Ex.go 12 (pc' := 17) (ls' := [some (vR (10, 0, 0)), some (vI a0), some (vI a1)]) (st' := [vI 3, vR (11, 22, 0), vI ((38 + (2 * a0)) + 0), vR (11, 22, 0)]) (hp' := hp) (fun _ => rfl) ?_
  refine Ex.iald (k := 3) rfl rfl (by decide) (by decide) ?_
  show Ex (d + 3) kX10_strikes 18 [some (vR (10, 0, 0)), some (vI a0), some (vI a1)] [vI (hp (11, 22, 0) 3), vI ((38 + (2 * a0)) + 0), vR (11, 22, 0)] hp _
  by_cases hc : inb ((38 + (2 * a0)) + 0) (alen (11, 22, 0)) = true
  · rw [if_pos hc] at h
    refine Ex.iast rfl rfl hc rfl ?_
    show Ex (d + 3) kX10_strikes 19 [some (vR (10, 0, 0)), some (vI a0), some (vI a1)] [] (up hp (11, 22, 0) (((38 + (2 * a0)) + 0).toNatClampNeg) (hp (11, 22, 0) 3)) _
    exact exX10_strikes_19 h
  · rw [if_neg hc] at h
    cases h
def fX10_ends_10 (x1 : Int32) (hp : HP) : Option (Int32 × HP) := some (x1, (up (up hp (11, 22, 0) 36 x1) (11, 22, 0) 37 m1))
theorem exX10_ends_10 {d : Nat} {x1 : Int32} {hp : HP} {v : (Int32 × HP)} (h : fX10_ends_10 x1 hp = some v) : Ex (d + 1) kX10_ends 10 [some (vR (10, 0, 0)), some (vI x1)] [] hp (rsI v.1 v.2) := by
  replace h : (some (x1, (up (up hp (11, 22, 0) 36 x1) (11, 22, 0) 37 m1))) = some v := h
  refine Ex.go 4 (pc' := 17) (ls' := [some (vR (10, 0, 0)), some (vI x1)]) (st' := [vI x1, vI 36, vR (11, 22, 0)]) (hp' := hp) (fun _ => rfl) ?_
  refine Ex.iast (k := 36) rfl rfl (by decide) (by decide) ?_
  show Ex (d + 1) kX10_ends 18 [some (vR (10, 0, 0)), some (vI x1)] [] (up hp (11, 22, 0) 36 x1) _
  refine Ex.go 4 (pc' := 25) (ls' := [some (vR (10, 0, 0)), some (vI x1)]) (st' := [vI m1, vI 37, vR (11, 22, 0)]) (hp' := (up hp (11, 22, 0) 36 x1)) (fun _ => rfl) ?_
  refine Ex.iast (k := 37) rfl rfl (by decide) (by decide) ?_
  show Ex (d + 1) kX10_ends 26 [some (vR (10, 0, 0)), some (vI x1)] [] (up (up hp (11, 22, 0) 36 x1) (11, 22, 0) 37 m1) _
  refine Ex.go 1 (pc' := 27) (ls' := [some (vR (10, 0, 0)), some (vI x1)]) (st' := [vI x1]) (hp' := (up (up hp (11, 22, 0) 36 x1) (11, 22, 0) 37 m1)) (fun _ => rfl) ?_
  cases h
  exact Ex.ret rfl rfl rfl
def fX10_ends (a0 : Int32) (hp : HP) : Option (Int32 × HP) := if a0 = 0 then (fX10_ends_10 a0 hp) else ((fX10_counts 9 hp).bind fun hp3 => fX10_ends_10 a0 hp3)
theorem exX10_ends {d : Nat} {a0 : Int32} {hp : HP} {v : (Int32 × HP)} (h : fX10_ends a0 hp = some v) : Calls (d + 1) 203 [vR (10, 0, 0), vI a0] hp (rsI v.1 v.2) := by
  replace h : (if a0 = 0 then (fX10_ends_10 a0 hp) else ((fX10_counts 9 hp).bind fun hp3 => fX10_ends_10 a0 hp3)) = some v := h
  show Ex (d + 1) kX10_ends 0 [some (vR (10, 0, 0)), some (vI a0)] [] hp _
  refine Ex.go 1 (pc' := 1) (ls' := [some (vR (10, 0, 0)), some (vI a0)]) (st' := [vI a0]) (hp' := hp) (fun _ => rfl) ?_
  refine Ex.ifc rfl ?_
  by_cases hc : a0 = 0
  · rw [if_pos hc] at h
    rw [brI_eq_p hc]
    show Ex (d + 1) kX10_ends 10 [some (vR (10, 0, 0)), some (vI a0)] [] hp _
    exact exX10_ends_10 h
  · rw [if_neg hc] at h
    rw [brI_eq_n hc]
    show Ex (d + 1) kX10_ends 4 [some (vR (10, 0, 0)), some (vI a0)] [] hp _
    refine Ex.go 2 (pc' := 7) (ls' := [some (vR (10, 0, 0)), some (vI a0)]) (st' := [vI 9, vR (10, 0, 0)]) (hp' := hp) (fun _ => rfl) ?_
    obtain ⟨hp3, hv, h⟩ := Option.bind_eq_some_iff.mp h
    refine Ex.call (args := [vR (10, 0, 0), vI 9]) (rest := []) rfl rfl rfl (exX10_counts (d := d + 0) hv) ?_
    show Ex (d + 1) kX10_ends 10 [some (vR (10, 0, 0)), some (vI a0)] [] hp3 _
    exact exX10_ends_10 h
def fX10_begins (hp : HP) : Option HP := (fX10_counts 13 hp).bind fun hp3 => (fX10_its 5 hp3).bind fun v4 => some (up hp3 (11, 22, 0) 3 ((hp3 (11, 22, 0) 3) + v4))
theorem exX10_begins {d : Nat} {hp : HP} {v : HP} (h : fX10_begins hp = some v) : Calls (d + 1) 204 [vR (10, 0, 0)] hp (rsV () v) := by
  replace h : ((fX10_counts 13 hp).bind fun hp3 => (fX10_its 5 hp3).bind fun v4 => some (up hp3 (11, 22, 0) 3 ((hp3 (11, 22, 0) 3) + v4))) = some v := h
  show Ex (d + 1) kX10_begins 0 [some (vR (10, 0, 0))] [] hp _
  refine Ex.go 2 (pc' := 3) (ls' := [some (vR (10, 0, 0))]) (st' := [vI 13, vR (10, 0, 0)]) (hp' := hp) (fun _ => rfl) ?_
  obtain ⟨hp3, hv, h⟩ := Option.bind_eq_some_iff.mp h
  refine Ex.call (args := [vR (10, 0, 0), vI 13]) (rest := []) rfl rfl rfl (exX10_counts (d := d + 0) hv) ?_
  show Ex (d + 1) kX10_begins 6 [some (vR (10, 0, 0))] [] hp3 _
  refine Ex.go 4 (pc' := 12) (ls' := [some (vR (10, 0, 0))]) (st' := [vI 3, vR (11, 22, 0), vI 3, vR (11, 22, 0)]) (hp' := hp3) (fun _ => rfl) ?_
  refine Ex.iald (k := 3) rfl rfl (by decide) (by decide) ?_
  show Ex (d + 1) kX10_begins 13 [some (vR (10, 0, 0))] [vI (hp3 (11, 22, 0) 3), vI 3, vR (11, 22, 0)] hp3 _
  refine Ex.go 2 (pc' := 15) (ls' := [some (vR (10, 0, 0))]) (st' := [vI 5, vR (10, 0, 0), vI (hp3 (11, 22, 0) 3), vI 3, vR (11, 22, 0)]) (hp' := hp3) (fun _ => rfl) ?_
  obtain ⟨v4, hv, h⟩ := Option.bind_eq_some_iff.mp h
  refine Ex.call (args := [vR (10, 0, 0), vI 5]) (rest := [vI (hp3 (11, 22, 0) 3), vI 3, vR (11, 22, 0)]) rfl rfl rfl (exX10_its (d := d + 0) hv) ?_
  show Ex (d + 1) kX10_begins 18 [some (vR (10, 0, 0))] [vI v4, vI (hp3 (11, 22, 0) 3), vI 3, vR (11, 22, 0)] hp3 _
  refine Ex.go 1 (pc' := 19) (ls' := [some (vR (10, 0, 0))]) (st' := [vI ((hp3 (11, 22, 0) 3) + v4), vI 3, vR (11, 22, 0)]) (hp' := hp3) (fun _ => rfl) ?_
  refine Ex.iast (k := 3) rfl rfl (by decide) (by decide) ?_
  show Ex (d + 1) kX10_begins 20 [some (vR (10, 0, 0))] [] (up hp3 (11, 22, 0) 3 ((hp3 (11, 22, 0) 3) + v4)) _
  cases h
  exact Ex.ret rfl rfl rfl
def fX10_letterKey_60 (x3 : Int32) (hp : HP) : Option (Int32 × HP) := (fX10_ends x3 hp).bind fun q2 => some (q2.1, q2.2)
theorem exX10_letterKey_60 {d : Nat} {x3 : Int32} {j1 : Option VL} {j2 : Option VL} {hp : HP} {v : (Int32 × HP)} (h : fX10_letterKey_60 x3 hp = some v) : Ex (d + 5) kX10_letterKey 60 [some (vR (10, 0, 0)), j1, j2, some (vI x3)] [] hp (rsI v.1 v.2) := by
  replace h : ((fX10_ends x3 hp).bind fun q2 => some (q2.1, q2.2)) = some v := h
  refine Ex.go 2 (pc' := 62) (ls' := [some (vR (10, 0, 0)), j1, j2, some (vI x3)]) (st' := [vI x3, vR (10, 0, 0)]) (hp' := hp) (fun _ => rfl) ?_
  obtain ⟨q2, hv, h⟩ := Option.bind_eq_some_iff.mp h
  refine Ex.call (args := [vR (10, 0, 0), vI x3]) (rest := []) rfl rfl rfl (exX10_ends (d := d + 3) hv) ?_
  show Ex (d + 5) kX10_letterKey 65 [some (vR (10, 0, 0)), j1, j2, some (vI x3)] [vI q2.1] q2.2 _
  cases h
  exact Ex.ret rfl rfl rfl
def fX10_letterKey_28 (x3 : Int32) (hp : HP) : Option (Int32 × HP) := (fX10_counts 8 (up hp (11, 22, 0) 6 (hp (11, 22, 0) 4))).bind fun hp5 => fX10_letterKey_60 x3 hp5
theorem exX10_letterKey_28 {d : Nat} {x3 : Int32} {j1 : Option VL} {j2 : Option VL} {hp : HP} {v : (Int32 × HP)} (h : fX10_letterKey_28 x3 hp = some v) : Ex (d + 5) kX10_letterKey 28 [some (vR (10, 0, 0)), j1, j2, some (vI x3)] [] hp (rsI v.1 v.2) := by
  replace h : ((fX10_counts 8 (up hp (11, 22, 0) 6 (hp (11, 22, 0) 4))).bind fun hp5 => fX10_letterKey_60 x3 hp5) = some v := h
  refine Ex.go 6 (pc' := 39) (ls' := [some (vR (10, 0, 0)), j1, j2, some (vI x3)]) (st' := [vI 4, vR (11, 22, 0), vI 6, vR (11, 22, 0)]) (hp' := hp) (fun _ => rfl) ?_
  refine Ex.iald (k := 4) rfl rfl (by decide) (by decide) ?_
  show Ex (d + 5) kX10_letterKey 40 [some (vR (10, 0, 0)), j1, j2, some (vI x3)] [vI (hp (11, 22, 0) 4), vI 6, vR (11, 22, 0)] hp _
  refine Ex.iast (k := 6) rfl rfl (by decide) (by decide) ?_
  show Ex (d + 5) kX10_letterKey 41 [some (vR (10, 0, 0)), j1, j2, some (vI x3)] [] (up hp (11, 22, 0) 6 (hp (11, 22, 0) 4)) _
  refine Ex.go 2 (pc' := 44) (ls' := [some (vR (10, 0, 0)), j1, j2, some (vI x3)]) (st' := [vI 8, vR (10, 0, 0)]) (hp' := (up hp (11, 22, 0) 6 (hp (11, 22, 0) 4))) (fun _ => rfl) ?_
  obtain ⟨hp5, hv, h⟩ := Option.bind_eq_some_iff.mp h
  refine Ex.call (args := [vR (10, 0, 0), vI 8]) (rest := []) rfl rfl rfl (exX10_counts (d := d + 4) hv) ?_
  show Ex (d + 5) kX10_letterKey 47 [some (vR (10, 0, 0)), j1, j2, some (vI x3)] [] hp5 _
  refine Ex.go 1 (pc' := 60) (ls' := [some (vR (10, 0, 0)), j1, j2, some (vI x3)]) (st' := []) (hp' := hp5) (fun _ => rfl) ?_
  exact exX10_letterKey_60 h
def fX10_letterKey (a0 : Int32) (a1 : Int32) (hp : HP) : Option (Int32 × HP) := (fX10_begins hp).bind fun hp8 => (fX10_reasonOf a0 (hp8 (11, 22, 0) 3) hp8).bind fun v9 => if v9 = 5 then (fX10_letterKey_28 v9 (up hp8 (11, 22, 0) 5 a0)) else (if v9 = 0 then ((fX10_strikes a0 a1 hp8).bind fun hp12 => fX10_letterKey_60 v9 hp12) else (fX10_letterKey_60 v9 hp8))
theorem exX10_letterKey {d : Nat} {a0 : Int32} {a1 : Int32} {hp : HP} {v : (Int32 × HP)} (h : fX10_letterKey a0 a1 hp = some v) : Calls (d + 5) 205 [vR (10, 0, 0), vI a0, vI a1] hp (rsI v.1 v.2) := by
  replace h : ((fX10_begins hp).bind fun hp8 => (fX10_reasonOf a0 (hp8 (11, 22, 0) 3) hp8).bind fun v9 => if v9 = 5 then (fX10_letterKey_28 v9 (up hp8 (11, 22, 0) 5 a0)) else (if v9 = 0 then ((fX10_strikes a0 a1 hp8).bind fun hp12 => fX10_letterKey_60 v9 hp12) else (fX10_letterKey_60 v9 hp8))) = some v := h
  show Ex (d + 5) kX10_letterKey 0 [some (vR (10, 0, 0)), some (vI a0), some (vI a1), none] [] hp _
  refine Ex.go 1 (pc' := 1) (ls' := [some (vR (10, 0, 0)), some (vI a0), some (vI a1), none]) (st' := [vR (10, 0, 0)]) (hp' := hp) (fun _ => rfl) ?_
  obtain ⟨hp8, hv, h⟩ := Option.bind_eq_some_iff.mp h
  refine Ex.call (args := [vR (10, 0, 0)]) (rest := []) rfl rfl rfl (exX10_begins (d := d + 3) hv) ?_
  show Ex (d + 5) kX10_letterKey 4 [some (vR (10, 0, 0)), some (vI a0), some (vI a1), none] [] hp8 _
  refine Ex.go 5 (pc' := 11) (ls' := [some (vR (10, 0, 0)), some (vI a0), some (vI a1), none]) (st' := [vI 3, vR (11, 22, 0), vI a0, vR (10, 0, 0)]) (hp' := hp8) (fun _ => rfl) ?_
  refine Ex.iald (k := 3) rfl rfl (by decide) (by decide) ?_
  show Ex (d + 5) kX10_letterKey 12 [some (vR (10, 0, 0)), some (vI a0), some (vI a1), none] [vI (hp8 (11, 22, 0) 3), vI a0, vR (10, 0, 0)] hp8 _
  obtain ⟨v9, hv, h⟩ := Option.bind_eq_some_iff.mp h
  refine Ex.call (args := [vR (10, 0, 0), vI a0, vI (hp8 (11, 22, 0) 3)]) (rest := []) rfl rfl rfl (exX10_reasonOf (d := d + 0) hv) ?_
  show Ex (d + 5) kX10_letterKey 15 [some (vR (10, 0, 0)), some (vI a0), some (vI a1), none] [vI v9] hp8 _
  refine Ex.go 3 (pc' := 18) (ls' := [some (vR (10, 0, 0)), some (vI a0), some (vI a1), some (vI v9)]) (st' := [vI 5, vI v9]) (hp' := hp8) (fun _ => rfl) ?_
  refine Ex.icmp rfl ?_
  by_cases hc : v9 = 5
  · rw [if_pos hc] at h
    rw [brI_ne_p hc]
    show Ex (d + 5) kX10_letterKey 21 [some (vR (10, 0, 0)), some (vI a0), some (vI a1), some (vI v9)] [] hp8 _
    refine Ex.go 4 (pc' := 27) (ls' := [some (vR (10, 0, 0)), some (vI a0), some (vI a1), some (vI v9)]) (st' := [vI a0, vI 5, vR (11, 22, 0)]) (hp' := hp8) (fun _ => rfl) ?_
    refine Ex.iast (k := 5) rfl rfl (by decide) (by decide) ?_
    show Ex (d + 5) kX10_letterKey 28 [some (vR (10, 0, 0)), some (vI a0), some (vI a1), some (vI v9)] [] (up hp8 (11, 22, 0) 5 a0) _
    exact exX10_letterKey_28 h
  · rw [if_neg hc] at h
    rw [brI_ne_n hc]
    show Ex (d + 5) kX10_letterKey 50 [some (vR (10, 0, 0)), some (vI a0), some (vI a1), some (vI v9)] [] hp8 _
    refine Ex.go 1 (pc' := 51) (ls' := [some (vR (10, 0, 0)), some (vI a0), some (vI a1), some (vI v9)]) (st' := [vI v9]) (hp' := hp8) (fun _ => rfl) ?_
    refine Ex.ifc rfl ?_
    by_cases hc : v9 = 0
    · rw [if_pos hc] at h
      rw [brI_ne_p hc]
      show Ex (d + 5) kX10_letterKey 54 [some (vR (10, 0, 0)), some (vI a0), some (vI a1), some (vI v9)] [] hp8 _
      refine Ex.go 3 (pc' := 57) (ls' := [some (vR (10, 0, 0)), some (vI a0), some (vI a1), some (vI v9)]) (st' := [vI a1, vI a0, vR (10, 0, 0)]) (hp' := hp8) (fun _ => rfl) ?_
      obtain ⟨hp12, hv, h⟩ := Option.bind_eq_some_iff.mp h
      refine Ex.call (args := [vR (10, 0, 0), vI a0, vI a1]) (rest := []) rfl rfl rfl (exX10_strikes (d := d + 1) hv) ?_
      show Ex (d + 5) kX10_letterKey 60 [some (vR (10, 0, 0)), some (vI a0), some (vI a1), some (vI v9)] [] hp12 _
      exact exX10_letterKey_60 h
    · rw [if_neg hc] at h
      rw [brI_ne_n hc]
      show Ex (d + 5) kX10_letterKey 60 [some (vR (10, 0, 0)), some (vI a0), some (vI a1), some (vI v9)] [] hp8 _
      exact exX10_letterKey_60 h
def fX10_spaceKey_46 (x1 : Int32) (hp : HP) : Option (Int32 × HP) := some (x1, hp)
theorem exX10_spaceKey_46 {d : Nat} {x1 : Int32} {hp : HP} {v : (Int32 × HP)} (h : fX10_spaceKey_46 x1 hp = some v) : Ex (d + 2) kX10_spaceKey 46 [some (vR (10, 0, 0)), some (vI x1)] [] hp (rsI v.1 v.2) := by
  replace h : (some (x1, hp)) = some v := h
  refine Ex.go 1 (pc' := 47) (ls' := [some (vR (10, 0, 0)), some (vI x1)]) (st' := [vI x1]) (hp' := hp) (fun _ => rfl) ?_
  cases h
  exact Ex.ret rfl rfl rfl
def fX10_spaceKey_32 (y0 : Int32) (hp : HP) : Option (Int32 × HP) := if y0 = 0 then ((fX10_counts 4 hp).bind fun hp3 => (fX10_advances hp3).bind fun hp6 => fX10_spaceKey_46 y0 hp6) else (fX10_spaceKey_46 y0 hp)
theorem exX10_spaceKey_32 {d : Nat} {y0 : Int32} {j1 : Option VL} {hp : HP} {v : (Int32 × HP)} (h : fX10_spaceKey_32 y0 hp = some v) : Ex (d + 2) kX10_spaceKey 32 [some (vR (10, 0, 0)), j1] [vI y0] hp (rsI v.1 v.2) := by
  replace h : (if y0 = 0 then ((fX10_counts 4 hp).bind fun hp3 => (fX10_advances hp3).bind fun hp6 => fX10_spaceKey_46 y0 hp6) else (fX10_spaceKey_46 y0 hp)) = some v := h
  refine Ex.go 2 (pc' := 34) (ls' := [some (vR (10, 0, 0)), some (vI y0)]) (st' := [vI y0]) (hp' := hp) (fun _ => rfl) ?_
  refine Ex.ifc rfl ?_
  by_cases hc : y0 = 0
  · rw [if_pos hc] at h
    rw [brI_ne_p hc]
    show Ex (d + 2) kX10_spaceKey 37 [some (vR (10, 0, 0)), some (vI y0)] [] hp _
    refine Ex.go 2 (pc' := 39) (ls' := [some (vR (10, 0, 0)), some (vI y0)]) (st' := [vI 4, vR (10, 0, 0)]) (hp' := hp) (fun _ => rfl) ?_
    obtain ⟨hp3, hv, h⟩ := Option.bind_eq_some_iff.mp h
    refine Ex.call (args := [vR (10, 0, 0), vI 4]) (rest := []) rfl rfl rfl (exX10_counts (d := d + 1) hv) ?_
    show Ex (d + 2) kX10_spaceKey 42 [some (vR (10, 0, 0)), some (vI y0)] [] hp3 _
    refine Ex.go 1 (pc' := 43) (ls' := [some (vR (10, 0, 0)), some (vI y0)]) (st' := [vR (10, 0, 0)]) (hp' := hp3) (fun _ => rfl) ?_
    obtain ⟨hp6, hv, h⟩ := Option.bind_eq_some_iff.mp h
    refine Ex.call (args := [vR (10, 0, 0)]) (rest := []) rfl rfl rfl (exX10_advances (d := d + 0) hv) ?_
    show Ex (d + 2) kX10_spaceKey 46 [some (vR (10, 0, 0)), some (vI y0)] [] hp6 _
    exact exX10_spaceKey_46 h
  · rw [if_neg hc] at h
    rw [brI_ne_n hc]
    show Ex (d + 2) kX10_spaceKey 46 [some (vR (10, 0, 0)), some (vI y0)] [] hp _
    exact exX10_spaceKey_46 h
def fX10_spaceKey (hp : HP) : Option (Int32 × HP) := if (hp (11, 22, 0) 5) = m1 then ((fX10_isLocked (hp (11, 22, 0) 1) hp).bind fun v7 => if v7 = 0 then (fX10_spaceKey_32 0 hp) else (fX10_spaceKey_32 2 hp)) else (fX10_spaceKey_32 1 hp)
theorem exX10_spaceKey {d : Nat} {hp : HP} {v : (Int32 × HP)} (h : fX10_spaceKey hp = some v) : Calls (d + 2) 206 [vR (10, 0, 0)] hp (rsI v.1 v.2) := by
  replace h : (if (hp (11, 22, 0) 5) = m1 then ((fX10_isLocked (hp (11, 22, 0) 1) hp).bind fun v7 => if v7 = 0 then (fX10_spaceKey_32 0 hp) else (fX10_spaceKey_32 2 hp)) else (fX10_spaceKey_32 1 hp)) = some v := h
  show Ex (d + 2) kX10_spaceKey 0 [some (vR (10, 0, 0)), none] [] hp _
  refine Ex.go 3 (pc' := 5) (ls' := [some (vR (10, 0, 0)), none]) (st' := [vI 5, vR (11, 22, 0)]) (hp' := hp) (fun _ => rfl) ?_
  refine Ex.iald (k := 5) rfl rfl (by decide) (by decide) ?_
  show Ex (d + 2) kX10_spaceKey 6 [some (vR (10, 0, 0)), none] [vI (hp (11, 22, 0) 5)] hp _
  refine Ex.go 1 (pc' := 7) (ls' := [some (vR (10, 0, 0)), none]) (st' := [vI m1, vI (hp (11, 22, 0) 5)]) (hp' := hp) (fun _ => rfl) ?_
  refine Ex.icmp rfl ?_
  by_cases hc : (hp (11, 22, 0) 5) = m1
  · rw [if_pos hc] at h
    rw [brI_eq_p hc]
    show Ex (d + 2) kX10_spaceKey 14 [some (vR (10, 0, 0)), none] [] hp _
    refine Ex.go 4 (pc' := 20) (ls' := [some (vR (10, 0, 0)), none]) (st' := [vI 1, vR (11, 22, 0), vR (10, 0, 0)]) (hp' := hp) (fun _ => rfl) ?_
    refine Ex.iald (k := 1) rfl rfl (by decide) (by decide) ?_
    show Ex (d + 2) kX10_spaceKey 21 [some (vR (10, 0, 0)), none] [vI (hp (11, 22, 0) 1), vR (10, 0, 0)] hp _
    obtain ⟨v7, hv, h⟩ := Option.bind_eq_some_iff.mp h
    refine Ex.call (args := [vR (10, 0, 0), vI (hp (11, 22, 0) 1)]) (rest := []) rfl rfl rfl (exX10_isLocked (d := d + 0) hv) ?_
    show Ex (d + 2) kX10_spaceKey 24 [some (vR (10, 0, 0)), none] [vI v7] hp _
    refine Ex.ifc rfl ?_
    by_cases hc : v7 = 0
    · rw [if_pos hc] at h
      rw [brI_eq_p hc]
      show Ex (d + 2) kX10_spaceKey 31 [some (vR (10, 0, 0)), none] [] hp _
      refine Ex.go 1 (pc' := 32) (ls' := [some (vR (10, 0, 0)), none]) (st' := [vI 0]) (hp' := hp) (fun _ => rfl) ?_
      exact exX10_spaceKey_32 h
    · rw [if_neg hc] at h
      rw [brI_eq_n hc]
      show Ex (d + 2) kX10_spaceKey 27 [some (vR (10, 0, 0)), none] [] hp _
      refine Ex.go 2 (pc' := 32) (ls' := [some (vR (10, 0, 0)), none]) (st' := [vI 2]) (hp' := hp) (fun _ => rfl) ?_
      exact exX10_spaceKey_32 h
  · rw [if_neg hc] at h
    rw [brI_eq_n hc]
    show Ex (d + 2) kX10_spaceKey 10 [some (vR (10, 0, 0)), none] [] hp _
    refine Ex.go 2 (pc' := 32) (ls' := [some (vR (10, 0, 0)), none]) (st' := [vI 1]) (hp' := hp) (fun _ => rfl) ?_
    exact exX10_spaceKey_32 h
def fX10_stopFrom_4 (n : Nat) (x1 : Int32) (x2 : Int32) (hp : HP) : Option Int32 := match n with
  | 0 => none
  | n + 1 => (fX10_its 0 hp).bind fun v1 => if x2 < v1 then (if inb (90 + x2) (alen (11, 22, 0)) = true then (if (hp (11, 22, 0) (90 + x2).toNatClampNeg) = 1 then (some x2) else (fX10_stopFrom_4 n x1 (x2 + 1) hp)) else none) else ((fX10_its 3 hp).bind fun v2 => some (imax x1 v2))
theorem exX10_stopFrom_4 {d : Nat} : ∀ (n : Nat) (x1 : Int32) (x2 : Int32) (hp : HP) (v : Int32), fX10_stopFrom_4 n x1 x2 hp = some v → Ex (d + 1) kX10_stopFrom 4 [some (vR (10, 0, 0)), some (vI x1), some (vI x2)] [] hp (rsI v hp) := by
  intro n
  induction n with
  | zero =>
    intro x1 x2 hp v h
    cases h
  | succ n ih =>
    intro x1 x2 hp v h
    replace h : ((fX10_its 0 hp).bind fun v1 => if x2 < v1 then (if inb (90 + x2) (alen (11, 22, 0)) = true then (if (hp (11, 22, 0) (90 + x2).toNatClampNeg) = 1 then (some x2) else (fX10_stopFrom_4 n x1 (x2 + 1) hp)) else none) else ((fX10_its 3 hp).bind fun v2 => some (imax x1 v2))) = some v := h
    refine Ex.go 3 (pc' := 7) (ls' := [some (vR (10, 0, 0)), some (vI x1), some (vI x2)]) (st' := [vI 0, vR (10, 0, 0), vI x2]) (hp' := hp) (fun _ => rfl) ?_
    obtain ⟨v1, hv, h⟩ := Option.bind_eq_some_iff.mp h
    refine Ex.call (args := [vR (10, 0, 0), vI 0]) (rest := [vI x2]) rfl rfl rfl (exX10_its (d := d + 0) hv) ?_
    show Ex (d + 1) kX10_stopFrom 10 [some (vR (10, 0, 0)), some (vI x1), some (vI x2)] [vI v1, vI x2] hp _
    refine Ex.icmp rfl ?_
    by_cases hc : x2 < v1
    · rw [if_pos hc] at h
      rw [brI_ge_p hc]
      show Ex (d + 1) kX10_stopFrom 13 [some (vR (10, 0, 0)), some (vI x1), some (vI x2)] [] hp _
      refine Ex.go 5 (pc' := 21) (ls' := [some (vR (10, 0, 0)), some (vI x1), some (vI x2)]) (st' := [vI (90 + x2), vR (11, 22, 0)]) (hp' := hp) (fun _ => rfl) ?_
      by_cases hc : inb (90 + x2) (alen (11, 22, 0)) = true
      · rw [if_pos hc] at h
        refine Ex.iald rfl rfl hc rfl ?_
        show Ex (d + 1) kX10_stopFrom 22 [some (vR (10, 0, 0)), some (vI x1), some (vI x2)] [vI (hp (11, 22, 0) (90 + x2).toNatClampNeg)] hp _
        refine Ex.go 1 (pc' := 23) (ls' := [some (vR (10, 0, 0)), some (vI x1), some (vI x2)]) (st' := [vI 1, vI (hp (11, 22, 0) (90 + x2).toNatClampNeg)]) (hp' := hp) (fun _ => rfl) ?_
        refine Ex.icmp rfl ?_
        by_cases hc : (hp (11, 22, 0) (90 + x2).toNatClampNeg) = 1
        · rw [if_pos hc] at h
          rw [brI_ne_p hc]
          show Ex (d + 1) kX10_stopFrom 26 [some (vR (10, 0, 0)), some (vI x1), some (vI x2)] [] hp _
          refine Ex.go 1 (pc' := 27) (ls' := [some (vR (10, 0, 0)), some (vI x1), some (vI x2)]) (st' := [vI x2]) (hp' := hp) (fun _ => rfl) ?_
          cases h
          exact Ex.ret rfl rfl rfl
        · rw [if_neg hc] at h
          rw [brI_ne_n hc]
          show Ex (d + 1) kX10_stopFrom 28 [some (vR (10, 0, 0)), some (vI x1), some (vI x2)] [] hp _
          refine Ex.go 2 (pc' := 4) (ls' := [some (vR (10, 0, 0)), some (vI x1), some (vI (x2 + 1))]) (st' := []) (hp' := hp) (fun _ => rfl) ?_
          exact ih _ _ _ _ h
      · rw [if_neg hc] at h
        cases h
    · rw [if_neg hc] at h
      rw [brI_ge_n hc]
      show Ex (d + 1) kX10_stopFrom 34 [some (vR (10, 0, 0)), some (vI x1), some (vI x2)] [] hp _
      refine Ex.go 3 (pc' := 37) (ls' := [some (vR (10, 0, 0)), some (vI x1), some (vI x2)]) (st' := [vI 3, vR (10, 0, 0), vI x1]) (hp' := hp) (fun _ => rfl) ?_
      obtain ⟨v2, hv, h⟩ := Option.bind_eq_some_iff.mp h
      refine Ex.call (args := [vR (10, 0, 0), vI 3]) (rest := [vI x1]) rfl rfl rfl (exX10_its (d := d + 0) hv) ?_
      show Ex (d + 1) kX10_stopFrom 40 [some (vR (10, 0, 0)), some (vI x1), some (vI x2)] [vI v2, vI x1] hp _
      refine Ex.go 1 (pc' := 43) (ls' := [some (vR (10, 0, 0)), some (vI x1), some (vI x2)]) (st' := [vI (imax x1 v2)]) (hp' := hp) (fun _ => rfl) ?_
      cases h
      exact Ex.ret rfl rfl rfl
def fX10_stopFrom (a0 : Int32) (hp : HP) : Option Int32 := fX10_stopFrom_4 FU a0 (a0 + 1) hp
theorem exX10_stopFrom {d : Nat} {a0 : Int32} {hp : HP} {v : Int32} (h : fX10_stopFrom a0 hp = some v) : Calls (d + 1) 207 [vR (10, 0, 0), vI a0] hp (rsI v hp) := by
  replace h : (fX10_stopFrom_4 FU a0 (a0 + 1) hp) = some v := h
  show Ex (d + 1) kX10_stopFrom 0 [some (vR (10, 0, 0)), some (vI a0), none] [] hp _
  refine Ex.go 4 (pc' := 4) (ls' := [some (vR (10, 0, 0)), some (vI a0), some (vI (a0 + 1))]) (st' := []) (hp' := hp) (fun _ => rfl) ?_
  exact exX10_stopFrom_4 FU _ _ _ _ h
def fX10_backFrom_27 (x1 : Int32) (y0 : Int32) (hp : HP) : Option Int32 := if y0 = 0 then (some (x1 - 1)) else (some x1)
theorem exX10_backFrom_27 {d : Nat} {x1 : Int32} {y0 : Int32} {j2 : Option VL} {hp : HP} {v : Int32} (h : fX10_backFrom_27 x1 y0 hp = some v) : Ex (d + 1) kX10_backFrom 27 [some (vR (10, 0, 0)), some (vI x1), j2] [vI y0] hp (rsI v hp) := by
  replace h : (if y0 = 0 then (some (x1 - 1)) else (some x1)) = some v := h
  refine Ex.go 2 (pc' := 29) (ls' := [some (vR (10, 0, 0)), some (vI x1), some (vI y0)]) (st' := [vI y0]) (hp' := hp) (fun _ => rfl) ?_
  refine Ex.ifc rfl ?_
  by_cases hc : y0 = 0
  · rw [if_pos hc] at h
    rw [brI_eq_p hc]
    show Ex (d + 1) kX10_backFrom 36 [some (vR (10, 0, 0)), some (vI x1), some (vI y0)] [] hp _
    refine Ex.go 3 (pc' := 39) (ls' := [some (vR (10, 0, 0)), some (vI x1), some (vI y0)]) (st' := [vI (x1 - 1)]) (hp' := hp) (fun _ => rfl) ?_
    cases h
    exact Ex.ret rfl rfl rfl
  · rw [if_neg hc] at h
    rw [brI_eq_n hc]
    show Ex (d + 1) kX10_backFrom 32 [some (vR (10, 0, 0)), some (vI x1), some (vI y0)] [] hp _
    refine Ex.go 2 (pc' := 39) (ls' := [some (vR (10, 0, 0)), some (vI x1), some (vI y0)]) (st' := [vI x1]) (hp' := hp) (fun _ => rfl) ?_
    cases h
    exact Ex.ret rfl rfl rfl
def fX10_backFrom_26 (x1 : Int32) (hp : HP) : Option Int32 := fX10_backFrom_27 x1 0 hp
theorem exX10_backFrom_26 {d : Nat} {x1 : Int32} {j2 : Option VL} {hp : HP} {v : Int32} (h : fX10_backFrom_26 x1 hp = some v) : Ex (d + 1) kX10_backFrom 26 [some (vR (10, 0, 0)), some (vI x1), j2] [] hp (rsI v hp) := by
  replace h : (fX10_backFrom_27 x1 0 hp) = some v := h
  refine Ex.go 1 (pc' := 27) (ls' := [some (vR (10, 0, 0)), some (vI x1), j2]) (st' := [vI 0]) (hp' := hp) (fun _ => rfl) ?_
  exact exX10_backFrom_27 h
def fX10_backFrom (a0 : Int32) (hp : HP) : Option Int32 := if a0 = 0 then (fX10_backFrom_27 a0 1 hp) else ((fX10_its 2 hp).bind fun v1 => if a0 = v1 then (if (hp (11, 22, 0) 2) = 0 then (fX10_backFrom_27 a0 1 hp) else (fX10_backFrom_26 a0 hp)) else (fX10_backFrom_26 a0 hp))
theorem exX10_backFrom {d : Nat} {a0 : Int32} {hp : HP} {v : Int32} (h : fX10_backFrom a0 hp = some v) : Calls (d + 1) 208 [vR (10, 0, 0), vI a0] hp (rsI v hp) := by
  replace h : (if a0 = 0 then (fX10_backFrom_27 a0 1 hp) else ((fX10_its 2 hp).bind fun v1 => if a0 = v1 then (if (hp (11, 22, 0) 2) = 0 then (fX10_backFrom_27 a0 1 hp) else (fX10_backFrom_26 a0 hp)) else (fX10_backFrom_26 a0 hp))) = some v := h
  show Ex (d + 1) kX10_backFrom 0 [some (vR (10, 0, 0)), some (vI a0), none] [] hp _
  refine Ex.go 1 (pc' := 1) (ls' := [some (vR (10, 0, 0)), some (vI a0), none]) (st' := [vI a0]) (hp' := hp) (fun _ => rfl) ?_
  refine Ex.ifc rfl ?_
  by_cases hc : a0 = 0
  · rw [if_pos hc] at h
    rw [brI_eq_p hc]
    show Ex (d + 1) kX10_backFrom 22 [some (vR (10, 0, 0)), some (vI a0), none] [] hp _
    refine Ex.go 2 (pc' := 27) (ls' := [some (vR (10, 0, 0)), some (vI a0), none]) (st' := [vI 1]) (hp' := hp) (fun _ => rfl) ?_
    exact exX10_backFrom_27 h
  · rw [if_neg hc] at h
    rw [brI_eq_n hc]
    show Ex (d + 1) kX10_backFrom 4 [some (vR (10, 0, 0)), some (vI a0), none] [] hp _
    refine Ex.go 3 (pc' := 7) (ls' := [some (vR (10, 0, 0)), some (vI a0), none]) (st' := [vI 2, vR (10, 0, 0), vI a0]) (hp' := hp) (fun _ => rfl) ?_
    obtain ⟨v1, hv, h⟩ := Option.bind_eq_some_iff.mp h
    refine Ex.call (args := [vR (10, 0, 0), vI 2]) (rest := [vI a0]) rfl rfl rfl (exX10_its (d := d + 0) hv) ?_
    show Ex (d + 1) kX10_backFrom 10 [some (vR (10, 0, 0)), some (vI a0), none] [vI v1, vI a0] hp _
    refine Ex.icmp rfl ?_
    by_cases hc : a0 = v1
    · rw [if_pos hc] at h
      rw [brI_ne_p hc]
      show Ex (d + 1) kX10_backFrom 13 [some (vR (10, 0, 0)), some (vI a0), none] [] hp _
      refine Ex.go 3 (pc' := 18) (ls' := [some (vR (10, 0, 0)), some (vI a0), none]) (st' := [vI 2, vR (11, 22, 0)]) (hp' := hp) (fun _ => rfl) ?_
      refine Ex.iald (k := 2) rfl rfl (by decide) (by decide) ?_
      show Ex (d + 1) kX10_backFrom 19 [some (vR (10, 0, 0)), some (vI a0), none] [vI (hp (11, 22, 0) 2)] hp _
      refine Ex.ifc rfl ?_
      by_cases hc : (hp (11, 22, 0) 2) = 0
      · rw [if_pos hc] at h
        rw [brI_ne_p hc]
        show Ex (d + 1) kX10_backFrom 22 [some (vR (10, 0, 0)), some (vI a0), none] [] hp _
        refine Ex.go 2 (pc' := 27) (ls' := [some (vR (10, 0, 0)), some (vI a0), none]) (st' := [vI 1]) (hp' := hp) (fun _ => rfl) ?_
        exact exX10_backFrom_27 h
      · rw [if_neg hc] at h
        rw [brI_ne_n hc]
        show Ex (d + 1) kX10_backFrom 26 [some (vR (10, 0, 0)), some (vI a0), none] [] hp _
        exact exX10_backFrom_26 h
    · rw [if_neg hc] at h
      rw [brI_ne_n hc]
      show Ex (d + 1) kX10_backFrom 26 [some (vR (10, 0, 0)), some (vI a0), none] [] hp _
      exact exX10_backFrom_26 h
def fX10_returnKey (hp : HP) : Option (Int32 × HP) := (fX10_its 12 hp).bind fun v1 => (fX10_its 1 hp).bind fun v2 => if ((hp (11, 22, 0) 0) + v1) < v2 then ((fX10_counts 7 hp).bind fun hp5 => (fX10_its 12 hp5).bind fun v6 => (fX10_its 2 (up hp5 (11, 22, 0) 0 ((hp5 (11, 22, 0) 0) + v6))).bind fun v7 => some (0, (up (up (up hp5 (11, 22, 0) 0 ((hp5 (11, 22, 0) 0) + v6)) (11, 22, 0) 1 v7) (11, 22, 0) 2 0))) else (some (6, hp))
theorem exX10_returnKey {d : Nat} {hp : HP} {v : (Int32 × HP)} (h : fX10_returnKey hp = some v) : Calls (d + 1) 209 [vR (10, 0, 0)] hp (rsI v.1 v.2) := by
  replace h : ((fX10_its 12 hp).bind fun v1 => (fX10_its 1 hp).bind fun v2 => if ((hp (11, 22, 0) 0) + v1) < v2 then ((fX10_counts 7 hp).bind fun hp5 => (fX10_its 12 hp5).bind fun v6 => (fX10_its 2 (up hp5 (11, 22, 0) 0 ((hp5 (11, 22, 0) 0) + v6))).bind fun v7 => some (0, (up (up (up hp5 (11, 22, 0) 0 ((hp5 (11, 22, 0) 0) + v6)) (11, 22, 0) 1 v7) (11, 22, 0) 2 0))) else (some (6, hp))) = some v := h
  show Ex (d + 1) kX10_returnKey 0 [some (vR (10, 0, 0))] [] hp _
  refine Ex.go 3 (pc' := 5) (ls' := [some (vR (10, 0, 0))]) (st' := [vI 0, vR (11, 22, 0)]) (hp' := hp) (fun _ => rfl) ?_
  refine Ex.iald (k := 0) rfl rfl (by decide) (by decide) ?_
  show Ex (d + 1) kX10_returnKey 6 [some (vR (10, 0, 0))] [vI (hp (11, 22, 0) 0)] hp _
  refine Ex.go 2 (pc' := 9) (ls' := [some (vR (10, 0, 0))]) (st' := [vI 12, vR (10, 0, 0), vI (hp (11, 22, 0) 0)]) (hp' := hp) (fun _ => rfl) ?_
  obtain ⟨v1, hv, h⟩ := Option.bind_eq_some_iff.mp h
  refine Ex.call (args := [vR (10, 0, 0), vI 12]) (rest := [vI (hp (11, 22, 0) 0)]) rfl rfl rfl (exX10_its (d := d + 0) hv) ?_
  show Ex (d + 1) kX10_returnKey 12 [some (vR (10, 0, 0))] [vI v1, vI (hp (11, 22, 0) 0)] hp _
  refine Ex.go 3 (pc' := 15) (ls' := [some (vR (10, 0, 0))]) (st' := [vI 1, vR (10, 0, 0), vI ((hp (11, 22, 0) 0) + v1)]) (hp' := hp) (fun _ => rfl) ?_
  obtain ⟨v2, hv, h⟩ := Option.bind_eq_some_iff.mp h
  refine Ex.call (args := [vR (10, 0, 0), vI 1]) (rest := [vI ((hp (11, 22, 0) 0) + v1)]) rfl rfl rfl (exX10_its (d := d + 0) hv) ?_
  show Ex (d + 1) kX10_returnKey 18 [some (vR (10, 0, 0))] [vI v2, vI ((hp (11, 22, 0) 0) + v1)] hp _
  refine Ex.icmp rfl ?_
  by_cases hc : ((hp (11, 22, 0) 0) + v1) < v2
  · rw [if_pos hc] at h
    rw [brI_lt_p hc]
    show Ex (d + 1) kX10_returnKey 24 [some (vR (10, 0, 0))] [] hp _
    refine Ex.go 2 (pc' := 27) (ls' := [some (vR (10, 0, 0))]) (st' := [vI 7, vR (10, 0, 0)]) (hp' := hp) (fun _ => rfl) ?_
    obtain ⟨hp5, hv, h⟩ := Option.bind_eq_some_iff.mp h
    refine Ex.call (args := [vR (10, 0, 0), vI 7]) (rest := []) rfl rfl rfl (exX10_counts (d := d + 0) hv) ?_
    show Ex (d + 1) kX10_returnKey 30 [some (vR (10, 0, 0))] [] hp5 _
    refine Ex.go 4 (pc' := 36) (ls' := [some (vR (10, 0, 0))]) (st' := [vI 0, vR (11, 22, 0), vI 0, vR (11, 22, 0)]) (hp' := hp5) (fun _ => rfl) ?_
    refine Ex.iald (k := 0) rfl rfl (by decide) (by decide) ?_
    show Ex (d + 1) kX10_returnKey 37 [some (vR (10, 0, 0))] [vI (hp5 (11, 22, 0) 0), vI 0, vR (11, 22, 0)] hp5 _
    refine Ex.go 2 (pc' := 40) (ls' := [some (vR (10, 0, 0))]) (st' := [vI 12, vR (10, 0, 0), vI (hp5 (11, 22, 0) 0), vI 0, vR (11, 22, 0)]) (hp' := hp5) (fun _ => rfl) ?_
    obtain ⟨v6, hv, h⟩ := Option.bind_eq_some_iff.mp h
    refine Ex.call (args := [vR (10, 0, 0), vI 12]) (rest := [vI (hp5 (11, 22, 0) 0), vI 0, vR (11, 22, 0)]) rfl rfl rfl (exX10_its (d := d + 0) hv) ?_
    show Ex (d + 1) kX10_returnKey 43 [some (vR (10, 0, 0))] [vI v6, vI (hp5 (11, 22, 0) 0), vI 0, vR (11, 22, 0)] hp5 _
    refine Ex.go 1 (pc' := 44) (ls' := [some (vR (10, 0, 0))]) (st' := [vI ((hp5 (11, 22, 0) 0) + v6), vI 0, vR (11, 22, 0)]) (hp' := hp5) (fun _ => rfl) ?_
    refine Ex.iast (k := 0) rfl rfl (by decide) (by decide) ?_
    show Ex (d + 1) kX10_returnKey 45 [some (vR (10, 0, 0))] [] (up hp5 (11, 22, 0) 0 ((hp5 (11, 22, 0) 0) + v6)) _
    refine Ex.go 5 (pc' := 52) (ls' := [some (vR (10, 0, 0))]) (st' := [vI 2, vR (10, 0, 0), vI 1, vR (11, 22, 0)]) (hp' := (up hp5 (11, 22, 0) 0 ((hp5 (11, 22, 0) 0) + v6))) (fun _ => rfl) ?_
    obtain ⟨v7, hv, h⟩ := Option.bind_eq_some_iff.mp h
    refine Ex.call (args := [vR (10, 0, 0), vI 2]) (rest := [vI 1, vR (11, 22, 0)]) rfl rfl rfl (exX10_its (d := d + 0) hv) ?_
    show Ex (d + 1) kX10_returnKey 55 [some (vR (10, 0, 0))] [vI v7, vI 1, vR (11, 22, 0)] (up hp5 (11, 22, 0) 0 ((hp5 (11, 22, 0) 0) + v6)) _
    refine Ex.iast (k := 1) rfl rfl (by decide) (by decide) ?_
    show Ex (d + 1) kX10_returnKey 56 [some (vR (10, 0, 0))] [] (up (up hp5 (11, 22, 0) 0 ((hp5 (11, 22, 0) 0) + v6)) (11, 22, 0) 1 v7) _
    refine Ex.go 4 (pc' := 62) (ls' := [some (vR (10, 0, 0))]) (st' := [vI 0, vI 2, vR (11, 22, 0)]) (hp' := (up (up hp5 (11, 22, 0) 0 ((hp5 (11, 22, 0) 0) + v6)) (11, 22, 0) 1 v7)) (fun _ => rfl) ?_
    refine Ex.iast (k := 2) rfl rfl (by decide) (by decide) ?_
    show Ex (d + 1) kX10_returnKey 63 [some (vR (10, 0, 0))] [] (up (up (up hp5 (11, 22, 0) 0 ((hp5 (11, 22, 0) 0) + v6)) (11, 22, 0) 1 v7) (11, 22, 0) 2 0) _
    refine Ex.go 1 (pc' := 64) (ls' := [some (vR (10, 0, 0))]) (st' := [vI 0]) (hp' := (up (up (up hp5 (11, 22, 0) 0 ((hp5 (11, 22, 0) 0) + v6)) (11, 22, 0) 1 v7) (11, 22, 0) 2 0)) (fun _ => rfl) ?_
    cases h
    exact Ex.ret rfl rfl rfl
  · rw [if_neg hc] at h
    rw [brI_lt_n hc]
    show Ex (d + 1) kX10_returnKey 21 [some (vR (10, 0, 0))] [] hp _
    refine Ex.go 1 (pc' := 23) (ls' := [some (vR (10, 0, 0))]) (st' := [vI 6]) (hp' := hp) (fun _ => rfl) ?_
    cases h
    exact Ex.ret rfl rfl rfl
def fX10_frees_44 (x1 : Int32) (k2 : Int32 → HP → Option HP) (hp : HP) : Option HP := k2 (x1 + 1) hp
theorem exX10_frees_44 {d : Nat} {x1 : Int32} {hp : HP} {v : HP} {k2 : Int32 → HP → Option HP} (hk2 : ∀ (x1 : Int32) (hp : HP) (v : HP), k2 x1 hp = some v → Ex (d + 0) kX10_frees 2 [some (vR (10, 0, 0)), some (vI x1)] [] hp (rsV () v)) (h : fX10_frees_44 x1 k2 hp = some v) : Ex (d + 0) kX10_frees 44 [some (vR (10, 0, 0)), some (vI x1)] [] hp (rsV () v) := by
  replace h : (k2 (x1 + 1) hp) = some v := h
  refine Ex.go 2 (pc' := 2) (ls' := [some (vR (10, 0, 0)), some (vI (x1 + 1))]) (st' := []) (hp' := hp) (fun _ => rfl) ?_
  exact hk2 _ _ _ h
def fX10_frees_2 (n : Nat) (x1 : Int32) (hp : HP) : Option HP := match n with
  | 0 => none
  | n + 1 => if x1 < 7 then (if inb x1 (alen (11, 22, 0)) = true then (if (hp (11, 22, 0) x1.toNatClampNeg) = m1 then (fX10_frees_44 x1 (fun x1 hq => fX10_frees_2 n x1 hq) hp) else (if inb x1 (alen (11, 22, 0)) = true then (if inb ((38 + (2 * (hp (11, 22, 0) x1.toNatClampNeg))) + 0) (alen (11, 22, 0)) = true then (if inb x1 (alen (11, 22, 0)) = true then (fX10_frees_44 x1 (fun x1 hq => fX10_frees_2 n x1 hq) (up (up hp (11, 22, 0) (((38 + (2 * (hp (11, 22, 0) x1.toNatClampNeg))) + 0).toNatClampNeg) m1) (11, 22, 0) (x1.toNatClampNeg) m1)) else none) else none) else none)) else none) else (some (up hp (11, 22, 0) 3 ((hp (11, 22, 0) 3) + 100)))
theorem exX10_frees_2 {d : Nat} : ∀ (n : Nat) (x1 : Int32) (hp : HP) (v : HP), fX10_frees_2 n x1 hp = some v → Ex (d + 0) kX10_frees 2 [some (vR (10, 0, 0)), some (vI x1)] [] hp (rsV () v) := by
  intro n
  induction n with
  | zero =>
    intro x1 hp v h
    cases h
  | succ n ih =>
    intro x1 hp v h
    replace h : (if x1 < 7 then (if inb x1 (alen (11, 22, 0)) = true then (if (hp (11, 22, 0) x1.toNatClampNeg) = m1 then (fX10_frees_44 x1 (fun x1 hq => fX10_frees_2 n x1 hq) hp) else (if inb x1 (alen (11, 22, 0)) = true then (if inb ((38 + (2 * (hp (11, 22, 0) x1.toNatClampNeg))) + 0) (alen (11, 22, 0)) = true then (if inb x1 (alen (11, 22, 0)) = true then (fX10_frees_44 x1 (fun x1 hq => fX10_frees_2 n x1 hq) (up (up hp (11, 22, 0) (((38 + (2 * (hp (11, 22, 0) x1.toNatClampNeg))) + 0).toNatClampNeg) m1) (11, 22, 0) (x1.toNatClampNeg) m1)) else none) else none) else none)) else none) else (some (up hp (11, 22, 0) 3 ((hp (11, 22, 0) 3) + 100)))) = some v := h
    refine Ex.go 2 (pc' := 5) (ls' := [some (vR (10, 0, 0)), some (vI x1)]) (st' := [vI 7, vI x1]) (hp' := hp) (fun _ => rfl) ?_
    refine Ex.icmp rfl ?_
    by_cases hc : x1 < 7
    · rw [if_pos hc] at h
      rw [brI_ge_p hc]
      show Ex (d + 0) kX10_frees 8 [some (vR (10, 0, 0)), some (vI x1)] [] hp _
      refine Ex.go 3 (pc' := 13) (ls' := [some (vR (10, 0, 0)), some (vI x1)]) (st' := [vI x1, vR (11, 22, 0)]) (hp' := hp) (fun _ => rfl) ?_
      by_cases hc : inb x1 (alen (11, 22, 0)) = true
      · rw [if_pos hc] at h
        refine Ex.iald rfl rfl hc rfl ?_
        show Ex (d + 0) kX10_frees 14 [some (vR (10, 0, 0)), some (vI x1)] [vI (hp (11, 22, 0) x1.toNatClampNeg)] hp _
        refine Ex.go 1 (pc' := 15) (ls' := [some (vR (10, 0, 0)), some (vI x1)]) (st' := [vI m1, vI (hp (11, 22, 0) x1.toNatClampNeg)]) (hp' := hp) (fun _ => rfl) ?_
        refine Ex.icmp rfl ?_
        by_cases hc : (hp (11, 22, 0) x1.toNatClampNeg) = m1
        · rw [if_pos hc] at h
          rw [brI_eq_p hc]
          show Ex (d + 0) kX10_frees 44 [some (vR (10, 0, 0)), some (vI x1)] [] hp _
          exact exX10_frees_44 (fun q0 q1 q2 hv => ih q0 q1 q2 hv) h
        · rw [if_neg hc] at h
          rw [brI_eq_n hc]
          show Ex (d + 0) kX10_frees 18 [some (vR (10, 0, 0)), some (vI x1)] [] hp _
          refine Ex.go 7 (pc' := 30) (ls' := [some (vR (10, 0, 0)), some (vI x1)]) (st' := [vI x1, vR (11, 22, 0), vI 2, vI 38, vR (11, 22, 0)]) (hp' := hp) (fun _ => rfl) ?_
          by_cases hc : inb x1 (alen (11, 22, 0)) = true
          · rw [if_pos hc] at h
            refine Ex.iald rfl rfl hc rfl ?_
            show Ex (d + 0) kX10_frees 31 [some (vR (10, 0, 0)), some (vI x1)] [vI (hp (11, 22, 0) x1.toNatClampNeg), vI 2, vI 38, vR (11, 22, 0)] hp _
            refine Ex.go 5 (pc' := 36) (ls' := [some (vR (10, 0, 0)), some (vI x1)]) (st' := [vI m1, vI ((38 + (2 * (hp (11, 22, 0) x1.toNatClampNeg))) + 0), vR (11, 22, 0)]) (hp' := hp) (fun _ => rfl) ?_
            by_cases hc : inb ((38 + (2 * (hp (11, 22, 0) x1.toNatClampNeg))) + 0) (alen (11, 22, 0)) = true
            · rw [if_pos hc] at h
              refine Ex.iast rfl rfl hc rfl ?_
              show Ex (d + 0) kX10_frees 37 [some (vR (10, 0, 0)), some (vI x1)] [] (up hp (11, 22, 0) (((38 + (2 * (hp (11, 22, 0) x1.toNatClampNeg))) + 0).toNatClampNeg) m1) _
              refine Ex.go 4 (pc' := 43) (ls' := [some (vR (10, 0, 0)), some (vI x1)]) (st' := [vI m1, vI x1, vR (11, 22, 0)]) (hp' := (up hp (11, 22, 0) (((38 + (2 * (hp (11, 22, 0) x1.toNatClampNeg))) + 0).toNatClampNeg) m1)) (fun _ => rfl) ?_
              by_cases hc : inb x1 (alen (11, 22, 0)) = true
              · rw [if_pos hc] at h
                refine Ex.iast rfl rfl hc rfl ?_
                show Ex (d + 0) kX10_frees 44 [some (vR (10, 0, 0)), some (vI x1)] [] (up (up hp (11, 22, 0) (((38 + (2 * (hp (11, 22, 0) x1.toNatClampNeg))) + 0).toNatClampNeg) m1) (11, 22, 0) (x1.toNatClampNeg) m1) _
                exact exX10_frees_44 (fun q0 q1 q2 hv => ih q0 q1 q2 hv) h
              · rw [if_neg hc] at h
                cases h
            · rw [if_neg hc] at h
              cases h
          · rw [if_neg hc] at h
            cases h
      · rw [if_neg hc] at h
        cases h
    · rw [if_neg hc] at h
      rw [brI_ge_n hc]
      show Ex (d + 0) kX10_frees 50 [some (vR (10, 0, 0)), some (vI x1)] [] hp _
      refine Ex.go 4 (pc' := 56) (ls' := [some (vR (10, 0, 0)), some (vI x1)]) (st' := [vI 3, vR (11, 22, 0), vI 3, vR (11, 22, 0)]) (hp' := hp) (fun _ => rfl) ?_
      refine Ex.iald (k := 3) rfl rfl (by decide) (by decide) ?_
      show Ex (d + 0) kX10_frees 57 [some (vR (10, 0, 0)), some (vI x1)] [vI (hp (11, 22, 0) 3), vI 3, vR (11, 22, 0)] hp _
      refine Ex.go 2 (pc' := 60) (ls' := [some (vR (10, 0, 0)), some (vI x1)]) (st' := [vI ((hp (11, 22, 0) 3) + 100), vI 3, vR (11, 22, 0)]) (hp' := hp) (fun _ => rfl) ?_
      refine Ex.iast (k := 3) rfl rfl (by decide) (by decide) ?_
      show Ex (d + 0) kX10_frees 61 [some (vR (10, 0, 0)), some (vI x1)] [] (up hp (11, 22, 0) 3 ((hp (11, 22, 0) 3) + 100)) _
      cases h
      exact Ex.ret rfl rfl rfl
def fX10_frees (hp : HP) : Option HP := fX10_frees_2 FU 5 hp
theorem exX10_frees {d : Nat} {hp : HP} {v : HP} (h : fX10_frees hp = some v) : Calls (d + 0) 210 [vR (10, 0, 0)] hp (rsV () v) := by
  replace h : (fX10_frees_2 FU 5 hp) = some v := h
  show Ex (d + 0) kX10_frees 0 [some (vR (10, 0, 0)), none] [] hp _
  refine Ex.go 2 (pc' := 2) (ls' := [some (vR (10, 0, 0)), some (vI 5)]) (st' := []) (hp' := hp) (fun _ => rfl) ?_
  exact exX10_frees_2 FU _ _ _ h
def fX10_goes_126 (ws0 : Nat) (ms0 : Nat) (y1 : Int32) (y2 : Int32) (hp : HP) : Option (Int32 × HP) := if inb y1 (alen (11, ws0, ms0)) = true then (some (0, (up hp (11, ws0, ms0) (y1.toNatClampNeg) y2))) else none
theorem exX10_goes_126 {d : Nat} {ws0 : Nat} {ms0 : Nat} {y1 : Int32} {y2 : Int32} {j1 : Option VL} {hp : HP} {v : (Int32 × HP)} (h : fX10_goes_126 ws0 ms0 y1 y2 hp = some v) : Ex (d + 3) kX10_goes 126 [some (vR (10, 0, 0)), j1] [vI y2, vI y1, vR (11, ws0, ms0)] hp (rsI v.1 v.2) := by
  replace h : (if inb y1 (alen (11, ws0, ms0)) = true then (some (0, (up hp (11, ws0, ms0) (y1.toNatClampNeg) y2))) else none) = some v := h
  by_cases hc : inb y1 (alen (11, ws0, ms0)) = true
  · rw [if_pos hc] at h
    refine Ex.iast rfl rfl hc rfl ?_
    show Ex (d + 3) kX10_goes 127 [some (vR (10, 0, 0)), j1] [] (up hp (11, ws0, ms0) (y1.toNatClampNeg) y2) _
    refine Ex.go 1 (pc' := 128) (ls' := [some (vR (10, 0, 0)), j1]) (st' := [vI 0]) (hp' := (up hp (11, ws0, ms0) (y1.toNatClampNeg) y2)) (fun _ => rfl) ?_
    cases h
    exact Ex.ret rfl rfl rfl
  · rw [if_neg hc] at h
    cases h
def fX10_goes_90 (x1 : Int32) (y1 : Int32) (hp : HP) : Option (Int32 × HP) := (fX10_counts y1 hp).bind fun hp3 => if x1 = 1 then ((fX10_stopFrom (hp3 (11, 22, 0) 1) hp3).bind fun v5 => fX10_goes_126 22 0 1 v5 hp3) else ((fX10_backFrom (hp3 (11, 22, 0) 1) hp3).bind fun v4 => fX10_goes_126 22 0 1 v4 hp3)
theorem exX10_goes_90 {d : Nat} {x1 : Int32} {y1 : Int32} {hp : HP} {v : (Int32 × HP)} (h : fX10_goes_90 x1 y1 hp = some v) : Ex (d + 3) kX10_goes 90 [some (vR (10, 0, 0)), some (vI x1)] [vI y1, vR (10, 0, 0)] hp (rsI v.1 v.2) := by
  replace h : ((fX10_counts y1 hp).bind fun hp3 => if x1 = 1 then ((fX10_stopFrom (hp3 (11, 22, 0) 1) hp3).bind fun v5 => fX10_goes_126 22 0 1 v5 hp3) else ((fX10_backFrom (hp3 (11, 22, 0) 1) hp3).bind fun v4 => fX10_goes_126 22 0 1 v4 hp3)) = some v := h
  obtain ⟨hp3, hv, h⟩ := Option.bind_eq_some_iff.mp h
  refine Ex.call (args := [vR (10, 0, 0), vI y1]) (rest := []) rfl rfl rfl (exX10_counts (d := d + 2) hv) ?_
  show Ex (d + 3) kX10_goes 93 [some (vR (10, 0, 0)), some (vI x1)] [] hp3 _
  refine Ex.go 5 (pc' := 100) (ls' := [some (vR (10, 0, 0)), some (vI x1)]) (st' := [vI 1, vI x1, vI 1, vR (11, 22, 0)]) (hp' := hp3) (fun _ => rfl) ?_
  refine Ex.icmp rfl ?_
  by_cases hc : x1 = 1
  · rw [if_pos hc] at h
    rw [brI_ne_p hc]
    show Ex (d + 3) kX10_goes 103 [some (vR (10, 0, 0)), some (vI x1)] [vI 1, vR (11, 22, 0)] hp3 _
    refine Ex.go 4 (pc' := 109) (ls' := [some (vR (10, 0, 0)), some (vI x1)]) (st' := [vI 1, vR (11, 22, 0), vR (10, 0, 0), vI 1, vR (11, 22, 0)]) (hp' := hp3) (fun _ => rfl) ?_
    refine Ex.iald (k := 1) rfl rfl (by decide) (by decide) ?_
    show Ex (d + 3) kX10_goes 110 [some (vR (10, 0, 0)), some (vI x1)] [vI (hp3 (11, 22, 0) 1), vR (10, 0, 0), vI 1, vR (11, 22, 0)] hp3 _
    obtain ⟨v5, hv, h⟩ := Option.bind_eq_some_iff.mp h
    refine Ex.call (args := [vR (10, 0, 0), vI (hp3 (11, 22, 0) 1)]) (rest := [vI 1, vR (11, 22, 0)]) rfl rfl rfl (exX10_stopFrom (d := d + 1) hv) ?_
    show Ex (d + 3) kX10_goes 113 [some (vR (10, 0, 0)), some (vI x1)] [vI v5, vI 1, vR (11, 22, 0)] hp3 _
    refine Ex.go 1 (pc' := 126) (ls' := [some (vR (10, 0, 0)), some (vI x1)]) (st' := [vI v5, vI 1, vR (11, 22, 0)]) (hp' := hp3) (fun _ => rfl) ?_
    exact exX10_goes_126 h
  · rw [if_neg hc] at h
    rw [brI_ne_n hc]
    show Ex (d + 3) kX10_goes 116 [some (vR (10, 0, 0)), some (vI x1)] [vI 1, vR (11, 22, 0)] hp3 _
    refine Ex.go 4 (pc' := 122) (ls' := [some (vR (10, 0, 0)), some (vI x1)]) (st' := [vI 1, vR (11, 22, 0), vR (10, 0, 0), vI 1, vR (11, 22, 0)]) (hp' := hp3) (fun _ => rfl) ?_
    refine Ex.iald (k := 1) rfl rfl (by decide) (by decide) ?_
    show Ex (d + 3) kX10_goes 123 [some (vR (10, 0, 0)), some (vI x1)] [vI (hp3 (11, 22, 0) 1), vR (10, 0, 0), vI 1, vR (11, 22, 0)] hp3 _
    obtain ⟨v4, hv, h⟩ := Option.bind_eq_some_iff.mp h
    refine Ex.call (args := [vR (10, 0, 0), vI (hp3 (11, 22, 0) 1)]) (rest := [vI 1, vR (11, 22, 0)]) rfl rfl rfl (exX10_backFrom (d := d + 1) hv) ?_
    show Ex (d + 3) kX10_goes 126 [some (vR (10, 0, 0)), some (vI x1)] [vI v4, vI 1, vR (11, 22, 0)] hp3 _
    exact exX10_goes_126 h
def fX10_goes (a0 : Int32) (hp : HP) : Option (Int32 × HP) := if a0 = 0 then ((fX10_spaceKey hp).bind fun q12 => some (q12.1, q12.2)) else (if a0 = 4 then (some (0, (up hp (11, 22, 0) 2 1))) else (if a0 = 5 then ((fX10_frees hp).bind fun hp10 => some (0, hp10)) else (if (hp (11, 22, 0) 5) = m1 then (if a0 = 3 then ((fX10_returnKey hp).bind fun q7 => some (q7.1, q7.2)) else (if a0 = 1 then (fX10_goes_90 a0 5 hp) else (fX10_goes_90 a0 6 hp))) else (some (1, hp)))))
theorem exX10_goes {d : Nat} {a0 : Int32} {hp : HP} {v : (Int32 × HP)} (h : fX10_goes a0 hp = some v) : Calls (d + 3) 211 [vR (10, 0, 0), vI a0] hp (rsI v.1 v.2) := by
  replace h : (if a0 = 0 then ((fX10_spaceKey hp).bind fun q12 => some (q12.1, q12.2)) else (if a0 = 4 then (some (0, (up hp (11, 22, 0) 2 1))) else (if a0 = 5 then ((fX10_frees hp).bind fun hp10 => some (0, hp10)) else (if (hp (11, 22, 0) 5) = m1 then (if a0 = 3 then ((fX10_returnKey hp).bind fun q7 => some (q7.1, q7.2)) else (if a0 = 1 then (fX10_goes_90 a0 5 hp) else (fX10_goes_90 a0 6 hp))) else (some (1, hp)))))) = some v := h
  show Ex (d + 3) kX10_goes 0 [some (vR (10, 0, 0)), some (vI a0)] [] hp _
  refine Ex.go 1 (pc' := 1) (ls' := [some (vR (10, 0, 0)), some (vI a0)]) (st' := [vI a0]) (hp' := hp) (fun _ => rfl) ?_
  refine Ex.lsw rfl ?_
  refine sw_c (k := 0) rfl (fun hc => ?_) (fun hc => ?_)
  · rw [if_pos hc] at h
    show Ex (d + 3) kX10_goes 36 [some (vR (10, 0, 0)), some (vI a0)] [] hp _
    refine Ex.go 1 (pc' := 37) (ls' := [some (vR (10, 0, 0)), some (vI a0)]) (st' := [vR (10, 0, 0)]) (hp' := hp) (fun _ => rfl) ?_
    obtain ⟨q14, hv, h⟩ := Option.bind_eq_some_iff.mp h
    refine Ex.call (args := [vR (10, 0, 0)]) (rest := []) rfl rfl rfl (exX10_spaceKey (d := d + 0) hv) ?_
    show Ex (d + 3) kX10_goes 40 [some (vR (10, 0, 0)), some (vI a0)] [vI q14.1] q14.2 _
    cases h
    exact Ex.ret rfl rfl rfl
  rw [if_neg hc] at h
  refine sw_c (k := 4) rfl (fun hc => ?_) (fun hc => ?_)
  · rw [if_pos hc] at h
    show Ex (d + 3) kX10_goes 41 [some (vR (10, 0, 0)), some (vI a0)] [] hp _
    refine Ex.go 4 (pc' := 47) (ls' := [some (vR (10, 0, 0)), some (vI a0)]) (st' := [vI 1, vI 2, vR (11, 22, 0)]) (hp' := hp) (fun _ => rfl) ?_
    refine Ex.iast (k := 2) rfl rfl (by decide) (by decide) ?_
    show Ex (d + 3) kX10_goes 48 [some (vR (10, 0, 0)), some (vI a0)] [] (up hp (11, 22, 0) 2 1) _
    refine Ex.go 1 (pc' := 49) (ls' := [some (vR (10, 0, 0)), some (vI a0)]) (st' := [vI 0]) (hp' := (up hp (11, 22, 0) 2 1)) (fun _ => rfl) ?_
    cases h
    exact Ex.ret rfl rfl rfl
  rw [if_neg hc] at h
  refine sw_c (k := 5) rfl (fun hc => ?_) (fun hc => ?_)
  · rw [if_pos hc] at h
    show Ex (d + 3) kX10_goes 50 [some (vR (10, 0, 0)), some (vI a0)] [] hp _
    refine Ex.go 1 (pc' := 51) (ls' := [some (vR (10, 0, 0)), some (vI a0)]) (st' := [vR (10, 0, 0)]) (hp' := hp) (fun _ => rfl) ?_
    obtain ⟨hp17, hv, h⟩ := Option.bind_eq_some_iff.mp h
    refine Ex.call (args := [vR (10, 0, 0)]) (rest := []) rfl rfl rfl (exX10_frees (d := d + 2) hv) ?_
    show Ex (d + 3) kX10_goes 54 [some (vR (10, 0, 0)), some (vI a0)] [] hp17 _
    refine Ex.go 1 (pc' := 55) (ls' := [some (vR (10, 0, 0)), some (vI a0)]) (st' := [vI 0]) (hp' := hp17) (fun _ => rfl) ?_
    cases h
    exact Ex.ret rfl rfl rfl
  rw [if_neg hc] at h
  show Ex (d + 3) kX10_goes 56 [some (vR (10, 0, 0)), some (vI a0)] [] hp _
  refine Ex.go 3 (pc' := 61) (ls' := [some (vR (10, 0, 0)), some (vI a0)]) (st' := [vI 5, vR (11, 22, 0)]) (hp' := hp) (fun _ => rfl) ?_
  refine Ex.iald (k := 5) rfl rfl (by decide) (by decide) ?_
  show Ex (d + 3) kX10_goes 62 [some (vR (10, 0, 0)), some (vI a0)] [vI (hp (11, 22, 0) 5)] hp _
  refine Ex.go 1 (pc' := 63) (ls' := [some (vR (10, 0, 0)), some (vI a0)]) (st' := [vI m1, vI (hp (11, 22, 0) 5)]) (hp' := hp) (fun _ => rfl) ?_
  refine Ex.icmp rfl ?_
  by_cases hc : (hp (11, 22, 0) 5) = m1
  · rw [if_pos hc] at h
    rw [brI_eq_p hc]
    show Ex (d + 3) kX10_goes 68 [some (vR (10, 0, 0)), some (vI a0)] [] hp _
    refine Ex.go 2 (pc' := 70) (ls' := [some (vR (10, 0, 0)), some (vI a0)]) (st' := [vI 3, vI a0]) (hp' := hp) (fun _ => rfl) ?_
    refine Ex.icmp rfl ?_
    by_cases hc : a0 = 3
    · rw [if_pos hc] at h
      rw [brI_ne_p hc]
      show Ex (d + 3) kX10_goes 73 [some (vR (10, 0, 0)), some (vI a0)] [] hp _
      refine Ex.go 1 (pc' := 74) (ls' := [some (vR (10, 0, 0)), some (vI a0)]) (st' := [vR (10, 0, 0)]) (hp' := hp) (fun _ => rfl) ?_
      obtain ⟨q7, hv, h⟩ := Option.bind_eq_some_iff.mp h
      refine Ex.call (args := [vR (10, 0, 0)]) (rest := []) rfl rfl rfl (exX10_returnKey (d := d + 1) hv) ?_
      show Ex (d + 3) kX10_goes 77 [some (vR (10, 0, 0)), some (vI a0)] [vI q7.1] q7.2 _
      cases h
      exact Ex.ret rfl rfl rfl
    · rw [if_neg hc] at h
      rw [brI_ne_n hc]
      show Ex (d + 3) kX10_goes 78 [some (vR (10, 0, 0)), some (vI a0)] [] hp _
      refine Ex.go 3 (pc' := 81) (ls' := [some (vR (10, 0, 0)), some (vI a0)]) (st' := [vI 1, vI a0, vR (10, 0, 0)]) (hp' := hp) (fun _ => rfl) ?_
      refine Ex.icmp rfl ?_
      by_cases hc : a0 = 1
      · rw [if_pos hc] at h
        rw [brI_ne_p hc]
        show Ex (d + 3) kX10_goes 84 [some (vR (10, 0, 0)), some (vI a0)] [vR (10, 0, 0)] hp _
        refine Ex.go 2 (pc' := 90) (ls' := [some (vR (10, 0, 0)), some (vI a0)]) (st' := [vI 5, vR (10, 0, 0)]) (hp' := hp) (fun _ => rfl) ?_
        exact exX10_goes_90 h
      · rw [if_neg hc] at h
        rw [brI_ne_n hc]
        show Ex (d + 3) kX10_goes 88 [some (vR (10, 0, 0)), some (vI a0)] [vR (10, 0, 0)] hp _
        refine Ex.go 1 (pc' := 90) (ls' := [some (vR (10, 0, 0)), some (vI a0)]) (st' := [vI 6, vR (10, 0, 0)]) (hp' := hp) (fun _ => rfl) ?_
        exact exX10_goes_90 h
  · rw [if_neg hc] at h
    rw [brI_eq_n hc]
    show Ex (d + 3) kX10_goes 66 [some (vR (10, 0, 0)), some (vI a0)] [] hp _
    refine Ex.go 1 (pc' := 67) (ls' := [some (vR (10, 0, 0)), some (vI a0)]) (st' := [vI 1]) (hp' := hp) (fun _ => rfl) ?_
    cases h
    exact Ex.ret rfl rfl rfl
end
