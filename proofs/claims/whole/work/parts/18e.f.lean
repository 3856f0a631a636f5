noncomputable section
def fX9_rest_48 (hp : HP) : Option ((Int32 ⊕ Nat) × HP) := (fX0_notBackAt 0 (hp (3, 0, 0) 6) hp).bind fun v1 => some ((.inl v1), hp)
theorem exX9_rest_48 {d : Nat} {j1 : Option VL} {hp : HP} {v : ((Int32 ⊕ Nat) × HP)} (h : fX9_rest_48 hp = some v) : Ex (d + 7) kX9_rest 48 [some (vR (9, 0, 0)), j1] [] hp (rsT rsI v.1 v.2) := by
  replace h : ((fX0_notBackAt 0 (hp (3, 0, 0) 6) hp).bind fun v1 => some ((.inl v1), hp)) = some v := h
  refine Ex.go 6 (pc' := 62) (ls' := [some (vR (9, 0, 0)), j1]) (st' := [vI (hp (3, 0, 0) 6), vR (0, 0, 0)]) (hp' := hp) (fun _ => rfl) ?_
  obtain ⟨v1, hv, h⟩ := Option.bind_eq_some_iff.mp h
  refine Ex.call (args := [vR (0, 0, 0), vI (hp (3, 0, 0) 6)]) (rest := []) rfl rfl rfl (exX0_notBackAt (d := d + 3) hv) ?_
  show Ex (d + 7) kX9_rest 65 [some (vR (9, 0, 0)), j1] [vI v1] hp _
  cases h
  exact Ex.ret rfl rfl rfl
def fX9_rest_21 (x1 : Int32) (y0 : Int32) (hp : HP) : Option ((Int32 ⊕ Nat) × HP) := (fX9_requireArgument y0 hp).bind fun q3 => Sum.elim (fun _ => (fX2_keep 0 hp).bind fun hp6 => fX9_rest_48 (up hp6 (3, 0, 0) 6 ((hp6 (3, 0, 0) 6) + x1))) (fun E => some (.inr E, hp)) q3
theorem exX9_rest_21 {d : Nat} {x1 : Int32} {y0 : Int32} {hp : HP} {v : ((Int32 ⊕ Nat) × HP)} (h : fX9_rest_21 x1 y0 hp = some v) : Ex (d + 7) kX9_rest 21 [some (vR (9, 0, 0)), some (vI x1)] [vI y0] hp (rsT rsI v.1 v.2) := by
  replace h : ((fX9_requireArgument y0 hp).bind fun q3 => Sum.elim (fun _ => (fX2_keep 0 hp).bind fun hp6 => fX9_rest_48 (up hp6 (3, 0, 0) 6 ((hp6 (3, 0, 0) 6) + x1))) (fun E => some (.inr E, hp)) q3) = some v := h
  obtain ⟨q3, hv, h⟩ := Option.bind_eq_some_iff.mp h
  rcases q3 with _ | E
  · replace h : ((fX2_keep 0 hp).bind fun hp6 => fX9_rest_48 (up hp6 (3, 0, 0) 6 ((hp6 (3, 0, 0) 6) + x1))) = some v := h
    refine Ex.call (args := [vI y0]) (rest := []) rfl rfl rfl (exX9_requireArgument (d := d + 0) hv) ?_
    show Ex (d + 7) kX9_rest 24 [some (vR (9, 0, 0)), some (vI x1)] [] hp _
    refine Ex.go 4 (pc' := 32) (ls' := [some (vR (9, 0, 0)), some (vI x1)]) (st' := [vR (3, 0, 0), vR (2, 0, 0)]) (hp' := hp) (fun _ => rfl) ?_
    obtain ⟨hp6, hv, h⟩ := Option.bind_eq_some_iff.mp h
    refine Ex.call (args := [vR (2, 0, 0), vR (3, 0, 0)]) (rest := []) rfl rfl rfl (exX2_keep (d := d + 0) hv) ?_
    show Ex (d + 7) kX9_rest 35 [some (vR (9, 0, 0)), some (vI x1)] [] hp6 _
    refine Ex.go 7 (pc' := 48) (ls' := [some (vR (9, 0, 0)), some (vI x1)]) (st' := []) (hp' := (up hp6 (3, 0, 0) 6 ((hp6 (3, 0, 0) 6) + x1))) (fun _ => rfl) ?_
    exact exX9_rest_48 h
  · cases h
    exact Ex.callT (args := [vI y0]) (rest := []) rfl rfl rfl (exX9_requireArgument (d := d + 0) hv) rfl
def fX9_rest_20 (x1 : Int32) (hp : HP) : Option ((Int32 ⊕ Nat) × HP) := fX9_rest_21 x1 0 hp
theorem exX9_rest_20 {d : Nat} {x1 : Int32} {hp : HP} {v : ((Int32 ⊕ Nat) × HP)} (h : fX9_rest_20 x1 hp = some v) : Ex (d + 7) kX9_rest 20 [some (vR (9, 0, 0)), some (vI x1)] [] hp (rsT rsI v.1 v.2) := by
  replace h : (fX9_rest_21 x1 0 hp) = some v := h
  refine Ex.go 1 (pc' := 21) (ls' := [some (vR (9, 0, 0)), some (vI x1)]) (st' := [vI 0]) (hp' := hp) (fun _ => rfl) ?_
  exact exX9_rest_21 h
def fX9_rest (a0 : Int32) (hp : HP) : Option ((Int32 ⊕ Nat) × HP) := (fX9_requireLoaded hp).bind fun q8 => Sum.elim (fun _ => if a0 < 1 then (fX9_rest_20 a0 hp) else (if 9999 < a0 then (fX9_rest_20 a0 hp) else (fX9_rest_21 a0 1 hp))) (fun E => some (.inr E, hp)) q8
theorem exX9_rest {d : Nat} {a0 : Int32} {hp : HP} {v : ((Int32 ⊕ Nat) × HP)} (h : fX9_rest a0 hp = some v) : Calls (d + 7) 133 [vR (9, 0, 0), vI a0] hp (rsT rsI v.1 v.2) := by
  replace h : ((fX9_requireLoaded hp).bind fun q8 => Sum.elim (fun _ => if a0 < 1 then (fX9_rest_20 a0 hp) else (if 9999 < a0 then (fX9_rest_20 a0 hp) else (fX9_rest_21 a0 1 hp))) (fun E => some (.inr E, hp)) q8) = some v := h
  show Ex (d + 7) kX9_rest 0 [some (vR (9, 0, 0)), some (vI a0)] [] hp _
  refine Ex.go 1 (pc' := 1) (ls' := [some (vR (9, 0, 0)), some (vI a0)]) (st' := [vR (9, 0, 0)]) (hp' := hp) (fun _ => rfl) ?_
  obtain ⟨q8, hv, h⟩ := Option.bind_eq_some_iff.mp h
  rcases q8 with _ | E
  · replace h : (if a0 < 1 then (fX9_rest_20 a0 hp) else (if 9999 < a0 then (fX9_rest_20 a0 hp) else (fX9_rest_21 a0 1 hp))) = some v := h
    refine Ex.call (args := [vR (9, 0, 0)]) (rest := []) rfl rfl rfl (exX9_requireLoaded (d := d + 0) hv) ?_
    show Ex (d + 7) kX9_rest 4 [some (vR (9, 0, 0)), some (vI a0)] [] hp _
    refine Ex.go 2 (pc' := 6) (ls' := [some (vR (9, 0, 0)), some (vI a0)]) (st' := [vI 1, vI a0]) (hp' := hp) (fun _ => rfl) ?_
    refine Ex.icmp rfl ?_
    by_cases hc : a0 < 1
    · rw [if_pos hc] at h
      rw [brI_lt_p hc]
      show Ex (d + 7) kX9_rest 20 [some (vR (9, 0, 0)), some (vI a0)] [] hp _
      exact exX9_rest_20 h
    · rw [if_neg hc] at h
      rw [brI_lt_n hc]
      show Ex (d + 7) kX9_rest 9 [some (vR (9, 0, 0)), some (vI a0)] [] hp _
      refine Ex.go 2 (pc' := 13) (ls' := [some (vR (9, 0, 0)), some (vI a0)]) (st' := [vI 9999, vI a0]) (hp' := hp) (fun _ => rfl) ?_
      refine Ex.icmp rfl ?_
      by_cases hc : 9999 < a0
      · rw [if_pos hc] at h
        rw [brI_gt_p hc]
        show Ex (d + 7) kX9_rest 20 [some (vR (9, 0, 0)), some (vI a0)] [] hp _
        exact exX9_rest_20 h
      · rw [if_neg hc] at h
        rw [brI_gt_n hc]
        show Ex (d + 7) kX9_rest 16 [some (vR (9, 0, 0)), some (vI a0)] [] hp _
        refine Ex.go 2 (pc' := 21) (ls' := [some (vR (9, 0, 0)), some (vI a0)]) (st' := [vI 1]) (hp' := hp) (fun _ => rfl) ?_
        exact exX9_rest_21 h
  · cases h
    exact Ex.callT (args := [vR (9, 0, 0)]) (rest := []) rfl rfl rfl (exX9_requireLoaded (d := d + 0) hv) rfl
def fX9_newRibbon (hp : HP) : Option ((Int32 ⊕ Nat) × HP) := (fX9_requireLoaded hp).bind fun q2 => Sum.elim (fun _ => (fX2_keep 0 hp).bind fun hp5 => (fX6_allInk 0 hp5).bind fun v6 => (fX6_renew 0 hp5).bind fun hp9 => some ((.inl v6), hp9)) (fun E => some (.inr E, hp)) q2
theorem exX9_newRibbon {d : Nat} {hp : HP} {v : ((Int32 ⊕ Nat) × HP)} (h : fX9_newRibbon hp = some v) : Calls (d + 7) 134 [vR (9, 0, 0)] hp (rsT rsI v.1 v.2) := by
  replace h : ((fX9_requireLoaded hp).bind fun q2 => Sum.elim (fun _ => (fX2_keep 0 hp).bind fun hp5 => (fX6_allInk 0 hp5).bind fun v6 => (fX6_renew 0 hp5).bind fun hp9 => some ((.inl v6), hp9)) (fun E => some (.inr E, hp)) q2) = some v := h
  show Ex (d + 7) kX9_newRibbon 0 [some (vR (9, 0, 0)), none] [] hp _
  refine Ex.go 1 (pc' := 1) (ls' := [some (vR (9, 0, 0)), none]) (st' := [vR (9, 0, 0)]) (hp' := hp) (fun _ => rfl) ?_
  obtain ⟨q2, hv, h⟩ := Option.bind_eq_some_iff.mp h
  rcases q2 with _ | E
  · replace h : ((fX2_keep 0 hp).bind fun hp5 => (fX6_allInk 0 hp5).bind fun v6 => (fX6_renew 0 hp5).bind fun hp9 => some ((.inl v6), hp9)) = some v := h
    refine Ex.call (args := [vR (9, 0, 0)]) (rest := []) rfl rfl rfl (exX9_requireLoaded (d := d + 0) hv) ?_
    show Ex (d + 7) kX9_newRibbon 4 [some (vR (9, 0, 0)), none] [] hp _
    refine Ex.go 4 (pc' := 12) (ls' := [some (vR (9, 0, 0)), none]) (st' := [vR (3, 0, 0), vR (2, 0, 0)]) (hp' := hp) (fun _ => rfl) ?_
    obtain ⟨hp5, hv, h⟩ := Option.bind_eq_some_iff.mp h
    refine Ex.call (args := [vR (2, 0, 0), vR (3, 0, 0)]) (rest := []) rfl rfl rfl (exX2_keep (d := d + 0) hv) ?_
    show Ex (d + 7) kX9_newRibbon 15 [some (vR (9, 0, 0)), none] [] hp5 _
    refine Ex.go 3 (pc' := 22) (ls' := [some (vR (9, 0, 0)), none]) (st' := [vR (6, 0, 0)]) (hp' := hp5) (fun _ => rfl) ?_
    obtain ⟨v6, hv, h⟩ := Option.bind_eq_some_iff.mp h
    refine Ex.call (args := [vR (6, 0, 0)]) (rest := []) rfl rfl rfl (exX6_allInk (d := d + 5) hv) ?_
    show Ex (d + 7) kX9_newRibbon 25 [some (vR (9, 0, 0)), none] [vI v6] hp5 _
    refine Ex.go 4 (pc' := 33) (ls' := [some (vR (9, 0, 0)), some (vI v6)]) (st' := [vR (6, 0, 0)]) (hp' := hp5) (fun _ => rfl) ?_
    obtain ⟨hp9, hv, h⟩ := Option.bind_eq_some_iff.mp h
    refine Ex.call (args := [vR (6, 0, 0)]) (rest := []) rfl rfl rfl (exX6_renew (d := d + 5) hv) ?_
    show Ex (d + 7) kX9_newRibbon 36 [some (vR (9, 0, 0)), some (vI v6)] [] hp9 _
    refine Ex.go 1 (pc' := 37) (ls' := [some (vR (9, 0, 0)), some (vI v6)]) (st' := [vI v6]) (hp' := hp9) (fun _ => rfl) ?_
    cases h
    exact Ex.ret rfl rfl rfl
  · cases h
    exact Ex.callT (args := [vR (9, 0, 0)]) (rest := []) rfl rfl rfl (exX9_requireLoaded (d := d + 0) hv) rfl
def fX9_newPage (hp : HP) : Option ((Int32 ⊕ Nat) × HP) := (fX9_requireLoaded hp).bind fun q2 => Sum.elim (fun _ => (fX2_keep 0 hp).bind fun hp5 => (fX4_filledPlaces 0 hp5).bind fun v6 => (fX4_clear 0 hp5).bind fun hp9 => (fX1_goHome 0 hp9).bind fun hp12 => some ((.inl v6), hp12)) (fun E => some (.inr E, hp)) q2
theorem exX9_newPage {d : Nat} {hp : HP} {v : ((Int32 ⊕ Nat) × HP)} (h : fX9_newPage hp = some v) : Calls (d + 7) 135 [vR (9, 0, 0)] hp (rsT rsI v.1 v.2) := by
  replace h : ((fX9_requireLoaded hp).bind fun q2 => Sum.elim (fun _ => (fX2_keep 0 hp).bind fun hp5 => (fX4_filledPlaces 0 hp5).bind fun v6 => (fX4_clear 0 hp5).bind fun hp9 => (fX1_goHome 0 hp9).bind fun hp12 => some ((.inl v6), hp12)) (fun E => some (.inr E, hp)) q2) = some v := h
  show Ex (d + 7) kX9_newPage 0 [some (vR (9, 0, 0)), none] [] hp _
  refine Ex.go 1 (pc' := 1) (ls' := [some (vR (9, 0, 0)), none]) (st' := [vR (9, 0, 0)]) (hp' := hp) (fun _ => rfl) ?_
  obtain ⟨q2, hv, h⟩ := Option.bind_eq_some_iff.mp h
  rcases q2 with _ | E
  · replace h : ((fX2_keep 0 hp).bind fun hp5 => (fX4_filledPlaces 0 hp5).bind fun v6 => (fX4_clear 0 hp5).bind fun hp9 => (fX1_goHome 0 hp9).bind fun hp12 => some ((.inl v6), hp12)) = some v := h
    refine Ex.call (args := [vR (9, 0, 0)]) (rest := []) rfl rfl rfl (exX9_requireLoaded (d := d + 0) hv) ?_
    show Ex (d + 7) kX9_newPage 4 [some (vR (9, 0, 0)), none] [] hp _
    refine Ex.go 4 (pc' := 12) (ls' := [some (vR (9, 0, 0)), none]) (st' := [vR (3, 0, 0), vR (2, 0, 0)]) (hp' := hp) (fun _ => rfl) ?_
    obtain ⟨hp5, hv, h⟩ := Option.bind_eq_some_iff.mp h
    refine Ex.call (args := [vR (2, 0, 0), vR (3, 0, 0)]) (rest := []) rfl rfl rfl (exX2_keep (d := d + 0) hv) ?_
    show Ex (d + 7) kX9_newPage 15 [some (vR (9, 0, 0)), none] [] hp5 _
    refine Ex.go 3 (pc' := 22) (ls' := [some (vR (9, 0, 0)), none]) (st' := [vR (4, 0, 0)]) (hp' := hp5) (fun _ => rfl) ?_
    obtain ⟨v6, hv, h⟩ := Option.bind_eq_some_iff.mp h
    refine Ex.call (args := [vR (4, 0, 0)]) (rest := []) rfl rfl rfl (exX4_filledPlaces (d := d + 3) hv) ?_
    show Ex (d + 7) kX9_newPage 25 [some (vR (9, 0, 0)), none] [vI v6] hp5 _
    refine Ex.go 4 (pc' := 33) (ls' := [some (vR (9, 0, 0)), some (vI v6)]) (st' := [vR (4, 0, 0)]) (hp' := hp5) (fun _ => rfl) ?_
    obtain ⟨hp9, hv, h⟩ := Option.bind_eq_some_iff.mp h
    refine Ex.call (args := [vR (4, 0, 0)]) (rest := []) rfl rfl rfl (exX4_clear (d := d + 5) hv) ?_
    show Ex (d + 7) kX9_newPage 36 [some (vR (9, 0, 0)), some (vI v6)] [] hp9 _
    refine Ex.go 3 (pc' := 43) (ls' := [some (vR (9, 0, 0)), some (vI v6)]) (st' := [vR (1, 0, 0)]) (hp' := hp9) (fun _ => rfl) ?_
    obtain ⟨hp12, hv, h⟩ := Option.bind_eq_some_iff.mp h
    refine Ex.call (args := [vR (1, 0, 0)]) (rest := []) rfl rfl rfl (exX1_goHome (d := d + 4) hv) ?_
    show Ex (d + 7) kX9_newPage 46 [some (vR (9, 0, 0)), some (vI v6)] [] hp12 _
    refine Ex.go 1 (pc' := 47) (ls' := [some (vR (9, 0, 0)), some (vI v6)]) (st' := [vI v6]) (hp' := hp12) (fun _ => rfl) ?_
    cases h
    exact Ex.ret rfl rfl rfl
  · cases h
    exact Ex.callT (args := [vR (9, 0, 0)]) (rest := []) rfl rfl rfl (exX9_requireLoaded (d := d + 0) hv) rfl
def fX9_undo (hp : HP) : Option ((Int32 ⊕ Nat) × HP) := if (hp (2, 0, 0) 2) = 0 then (some (.inr 1, hp)) else ((fX2_takeLatest 0 hp).bind fun hp3 => some ((.inl (hp3 (2, 0, 0) 2)), hp3))
theorem exX9_undo {d : Nat} {hp : HP} {v : ((Int32 ⊕ Nat) × HP)} (h : fX9_undo hp = some v) : Calls (d + 7) 136 [vR (9, 0, 0)] hp (rsT rsI v.1 v.2) := by
  replace h : (if (hp (2, 0, 0) 2) = 0 then (some (.inr 1, hp)) else ((fX2_takeLatest 0 hp).bind fun hp3 => some ((.inl (hp3 (2, 0, 0) 2)), hp3))) = some v := h
  show Ex (d + 7) kX9_undo 0 [some (vR (9, 0, 0))] [] hp _
  refine Ex.go 3 (pc' := 7) (ls' := [some (vR (9, 0, 0))]) (st' := [vI (hp (2, 0, 0) 2)]) (hp' := hp) (fun _ => rfl) ?_
  refine Ex.ifc rfl ?_
  by_cases hc : (hp (2, 0, 0) 2) = 0
  · rw [if_pos hc] at h
    rw [brI_ne_p hc]
    show Ex (d + 7) kX9_undo 10 [some (vR (9, 0, 0))] [] hp _
    cases h
    exact Ex.thr rfl rfl rfl
  · rw [if_neg hc] at h
    rw [brI_ne_n hc]
    show Ex (d + 7) kX9_undo 21 [some (vR (9, 0, 0))] [] hp _
    refine Ex.go 4 (pc' := 29) (ls' := [some (vR (9, 0, 0))]) (st' := [vR (3, 0, 0), vR (2, 0, 0)]) (hp' := hp) (fun _ => rfl) ?_
    obtain ⟨hp3, hv, h⟩ := Option.bind_eq_some_iff.mp h
    refine Ex.call (args := [vR (2, 0, 0), vR (3, 0, 0)]) (rest := []) rfl rfl rfl (exX2_takeLatest (d := d + 0) hv) ?_
    show Ex (d + 7) kX9_undo 32 [some (vR (9, 0, 0))] [] hp3 _
    refine Ex.go 3 (pc' := 39) (ls' := [some (vR (9, 0, 0))]) (st' := [vI (hp3 (2, 0, 0) 2)]) (hp' := hp3) (fun _ => rfl) ?_
    cases h
    exact Ex.ret rfl rfl rfl
def fX9_undoable (hp : HP) : Option Int32 := some (hp (2, 0, 0) 2)
theorem exX9_undoable {d : Nat} {hp : HP} {v : Int32} (h : fX9_undoable hp = some v) : Calls (d + 0) 137 [vR (9, 0, 0)] hp (rsI v hp) := by
  replace h : (some (hp (2, 0, 0) 2)) = some v := h
  show Ex (d + 0) kX9_undoable 0 [some (vR (9, 0, 0))] [] hp _
  refine Ex.go 3 (pc' := 7) (ls' := [some (vR (9, 0, 0))]) (st' := [vI (hp (2, 0, 0) 2)]) (hp' := hp) (fun _ => rfl) ?_
  cases h
  exact Ex.ret rfl rfl rfl
def fX9_requireSlot_14 (y0 : Int32) (hp : HP) : Option (Unit ⊕ Nat) := (fX9_requireIndex y0 hp).bind fun q2 => Sum.elim (fun _ => some (.inl ())) (fun E => some (.inr E)) q2
theorem exX9_requireSlot_14 {d : Nat} {y0 : Int32} {j0 : Option VL} {hp : HP} {v : (Unit ⊕ Nat)} (h : fX9_requireSlot_14 y0 hp = some v) : Ex (d + 7) kX9_requireSlot 14 [j0] [vI y0] hp (rsT rsV v hp) := by
  replace h : ((fX9_requireIndex y0 hp).bind fun q2 => Sum.elim (fun _ => some (.inl ())) (fun E => some (.inr E)) q2) = some v := h
  obtain ⟨q2, hv, h⟩ := Option.bind_eq_some_iff.mp h
  rcases q2 with _ | E
  · replace h : (some (.inl ())) = some v := h
    refine Ex.call (args := [vI y0]) (rest := []) rfl rfl rfl (exX9_requireIndex (d := d + 0) hv) ?_
    show Ex (d + 7) kX9_requireSlot 17 [j0] [] hp _
    cases h
    exact Ex.ret rfl rfl rfl
  · cases h
    exact Ex.callT (args := [vI y0]) (rest := []) rfl rfl rfl (exX9_requireIndex (d := d + 0) hv) rfl
def fX9_requireSlot (a0 : Int32) (hp : HP) : Option (Unit ⊕ Nat) := if a0 = 0 then (fX9_requireSlot_14 1 hp) else (if a0 = 1 then (fX9_requireSlot_14 1 hp) else (fX9_requireSlot_14 0 hp))
theorem exX9_requireSlot {d : Nat} {a0 : Int32} {hp : HP} {v : (Unit ⊕ Nat)} (h : fX9_requireSlot a0 hp = some v) : Calls (d + 7) 147 [vI a0] hp (rsT rsV v hp) := by
  replace h : (if a0 = 0 then (fX9_requireSlot_14 1 hp) else (if a0 = 1 then (fX9_requireSlot_14 1 hp) else (fX9_requireSlot_14 0 hp))) = some v := h
  show Ex (d + 7) kX9_requireSlot 0 [some (vI a0)] [] hp _
  refine Ex.go 1 (pc' := 1) (ls' := [some (vI a0)]) (st' := [vI a0]) (hp' := hp) (fun _ => rfl) ?_
  refine Ex.ifc rfl ?_
  by_cases hc : a0 = 0
  · rw [if_pos hc] at h
    rw [brI_eq_p hc]
    show Ex (d + 7) kX9_requireSlot 9 [some (vI a0)] [] hp _
    refine Ex.go 2 (pc' := 14) (ls' := [some (vI a0)]) (st' := [vI 1]) (hp' := hp) (fun _ => rfl) ?_
    exact exX9_requireSlot_14 h
  · rw [if_neg hc] at h
    rw [brI_eq_n hc]
    show Ex (d + 7) kX9_requireSlot 4 [some (vI a0)] [] hp _
    refine Ex.go 2 (pc' := 6) (ls' := [some (vI a0)]) (st' := [vI 1, vI a0]) (hp' := hp) (fun _ => rfl) ?_
    refine Ex.icmp rfl ?_
    by_cases hc : a0 = 1
    · rw [if_pos hc] at h
      rw [brI_ne_p hc]
      show Ex (d + 7) kX9_requireSlot 9 [some (vI a0)] [] hp _
      refine Ex.go 2 (pc' := 14) (ls' := [some (vI a0)]) (st' := [vI 1]) (hp' := hp) (fun _ => rfl) ?_
      exact exX9_requireSlot_14 h
    · rw [if_neg hc] at h
      rw [brI_ne_n hc]
      show Ex (d + 7) kX9_requireSlot 13 [some (vI a0)] [] hp _
      refine Ex.go 1 (pc' := 14) (ls' := [some (vI a0)]) (st' := [vI 0]) (hp' := hp) (fun _ => rfl) ?_
      exact exX9_requireSlot_14 h
def fX9_slotOf_15 (ms0 : Nat) (hp : HP) : Option Nat := some ms0
theorem exX9_slotOf_15 {d : Nat} {ms0 : Nat} {j1 : Option VL} {hp : HP} {v : Nat} (h : fX9_slotOf_15 ms0 hp = some v) : Ex (d + 0) kX9_slotOf 15 [some (vR (9, 0, 0)), j1] [vR (8, 0, ms0)] hp (rsS v hp) := by
  replace h : (some ms0) = some v := h
  cases h
  exact Ex.ret rfl rfl rfl
def fX9_slotOf (a0 : Int32) (hp : HP) : Option Nat := if a0 = 0 then (fX9_slotOf_15 0 hp) else (fX9_slotOf_15 1 hp)
theorem exX9_slotOf {d : Nat} {a0 : Int32} {hp : HP} {v : Nat} (h : fX9_slotOf a0 hp = some v) : Calls (d + 0) 140 [vR (9, 0, 0), vI a0] hp (rsS v hp) := by
  replace h : (if a0 = 0 then (fX9_slotOf_15 0 hp) else (fX9_slotOf_15 1 hp)) = some v := h
  show Ex (d + 0) kX9_slotOf 0 [some (vR (9, 0, 0)), some (vI a0)] [] hp _
  refine Ex.go 1 (pc' := 1) (ls' := [some (vR (9, 0, 0)), some (vI a0)]) (st' := [vI a0]) (hp' := hp) (fun _ => rfl) ?_
  refine Ex.ifc rfl ?_
  by_cases hc : a0 = 0
  · rw [if_pos hc] at h
    rw [brI_ne_p hc]
    show Ex (d + 0) kX9_slotOf 4 [some (vR (9, 0, 0)), some (vI a0)] [] hp _
    refine Ex.go 3 (pc' := 15) (ls' := [some (vR (9, 0, 0)), some (vI a0)]) (st' := [vR (8, 0, 0)]) (hp' := hp) (fun _ => rfl) ?_
    exact exX9_slotOf_15 h
  · rw [if_neg hc] at h
    rw [brI_ne_n hc]
    show Ex (d + 0) kX9_slotOf 11 [some (vR (9, 0, 0)), some (vI a0)] [] hp _
    refine Ex.go 2 (pc' := 15) (ls' := [some (vR (9, 0, 0)), some (vI a0)]) (st' := [vR (8, 0, 1)]) (hp' := hp) (fun _ => rfl) ?_
    exact exX9_slotOf_15 h
def fX9_save_30 (hp : HP) : Option ((Int32 ⊕ Nat) × HP) := some ((.inl (hp (3, 0, 0) 6)), hp)
theorem exX9_save_30 {d : Nat} {j1 : Option VL} {j2 : Option VL} {hp : HP} {v : ((Int32 ⊕ Nat) × HP)} (h : fX9_save_30 hp = some v) : Ex (d + 8) kX9_save 30 [some (vR (9, 0, 0)), j1, j2] [] hp (rsT rsI v.1 v.2) := by
  replace h : (some ((.inl (hp (3, 0, 0) 6)), hp)) = some v := h
  refine Ex.go 3 (pc' := 37) (ls' := [some (vR (9, 0, 0)), j1, j2]) (st' := [vI (hp (3, 0, 0) 6)]) (hp' := hp) (fun _ => rfl) ?_
  cases h
  exact Ex.ret rfl rfl rfl
def fX9_save (a0 : Int32) (hp : HP) : Option ((Int32 ⊕ Nat) × HP) := (fX9_requireLoaded hp).bind fun q2 => Sum.elim (fun _ => (fX9_requireSlot a0 hp).bind fun q4 => Sum.elim (fun _ => (fX9_slotOf a0 hp).bind fun v5 => (fX3_copyFrom (10 + v5) 0 hp).bind fun hp8 => fX9_save_30 (up hp8 (8, 0, v5) 1 1)) (fun E => some (.inr E, hp)) q4) (fun E => some (.inr E, hp)) q2
theorem exX9_save {d : Nat} {a0 : Int32} {hp : HP} {v : ((Int32 ⊕ Nat) × HP)} (h : fX9_save a0 hp = some v) : Calls (d + 8) 138 [vR (9, 0, 0), vI a0] hp (rsT rsI v.1 v.2) := by
  replace h : ((fX9_requireLoaded hp).bind fun q2 => Sum.elim (fun _ => (fX9_requireSlot a0 hp).bind fun q4 => Sum.elim (fun _ => (fX9_slotOf a0 hp).bind fun v5 => (fX3_copyFrom (10 + v5) 0 hp).bind fun hp8 => fX9_save_30 (up hp8 (8, 0, v5) 1 1)) (fun E => some (.inr E, hp)) q4) (fun E => some (.inr E, hp)) q2) = some v := h
  show Ex (d + 8) kX9_save 0 [some (vR (9, 0, 0)), some (vI a0), none] [] hp _
  refine Ex.go 1 (pc' := 1) (ls' := [some (vR (9, 0, 0)), some (vI a0), none]) (st' := [vR (9, 0, 0)]) (hp' := hp) (fun _ => rfl) ?_
  obtain ⟨q2, hv, h⟩ := Option.bind_eq_some_iff.mp h
  rcases q2 with _ | E
  · replace h : ((fX9_requireSlot a0 hp).bind fun q4 => Sum.elim (fun _ => (fX9_slotOf a0 hp).bind fun v5 => (fX3_copyFrom (10 + v5) 0 hp).bind fun hp8 => fX9_save_30 (up hp8 (8, 0, v5) 1 1)) (fun E => some (.inr E, hp)) q4) = some v := h
    refine Ex.call (args := [vR (9, 0, 0)]) (rest := []) rfl rfl rfl (exX9_requireLoaded (d := d + 1) hv) ?_
    show Ex (d + 8) kX9_save 4 [some (vR (9, 0, 0)), some (vI a0), none] [] hp _
    refine Ex.go 1 (pc' := 5) (ls' := [some (vR (9, 0, 0)), some (vI a0), none]) (st' := [vI a0]) (hp' := hp) (fun _ => rfl) ?_
    obtain ⟨q4, hv, h⟩ := Option.bind_eq_some_iff.mp h
    rcases q4 with _ | E
    · replace h : ((fX9_slotOf a0 hp).bind fun v5 => (fX3_copyFrom (10 + v5) 0 hp).bind fun hp8 => fX9_save_30 (up hp8 (8, 0, v5) 1 1)) = some v := h
      refine Ex.call (args := [vI a0]) (rest := []) rfl rfl rfl (exX9_requireSlot (d := d + 0) hv) ?_
      show Ex (d + 8) kX9_save 8 [some (vR (9, 0, 0)), some (vI a0), none] [] hp _
      refine Ex.go 2 (pc' := 10) (ls' := [some (vR (9, 0, 0)), some (vI a0), none]) (st' := [vI a0, vR (9, 0, 0)]) (hp' := hp) (fun _ => rfl) ?_
      obtain ⟨v5, hv, h⟩ := Option.bind_eq_some_iff.mp h
      refine Ex.call (args := [vR (9, 0, 0), vI a0]) (rest := []) rfl rfl rfl (exX9_slotOf (d := d + 7) hv) ?_
      show Ex (d + 8) kX9_save 13 [some (vR (9, 0, 0)), some (vI a0), none] [vR (8, 0, v5)] hp _
      refine Ex.go 5 (pc' := 22) (ls' := [some (vR (9, 0, 0)), some (vI a0), some (vR (8, 0, v5))]) (st' := [vR (3, 0, 0), vR (3, 0, (10 + v5))]) (hp' := hp) (fun _ => rfl) ?_
      obtain ⟨hp8, hv, h⟩ := Option.bind_eq_some_iff.mp h
      refine Ex.call (args := [vR (3, 0, (10 + v5)), vR (3, 0, 0)]) (rest := []) rfl rfl rfl (exX3_copyFrom (d := d + 2) hv) ?_
      show Ex (d + 8) kX9_save 25 [some (vR (9, 0, 0)), some (vI a0), some (vR (8, 0, v5))] [] hp8 _
      refine Ex.go 2 (pc' := 27) (ls' := [some (vR (9, 0, 0)), some (vI a0), some (vR (8, 0, v5))]) (st' := [vI 1, vR (8, 0, v5)]) (hp' := hp8) (fun _ => rfl) ?_
      refine Ex.putz rfl rfl rfl (by decide) rfl ?_
      show Ex (d + 8) kX9_save 30 [some (vR (9, 0, 0)), some (vI a0), some (vR (8, 0, v5))] [] (up hp8 (8, 0, v5) 1 1) _
      exact exX9_save_30 h
    · cases h
      exact Ex.callT (args := [vI a0]) (rest := []) rfl rfl rfl (exX9_requireSlot (d := d + 0) hv) rfl
  · cases h
    exact Ex.callT (args := [vR (9, 0, 0)]) (rest := []) rfl rfl rfl (exX9_requireLoaded (d := d + 1) hv) rfl
def fX9_restore (a0 : Int32) (hp : HP) : Option ((Int32 ⊕ Nat) × HP) := (fX9_requireSlot a0 hp).bind fun q2 => Sum.elim (fun _ => (fX9_slotOf a0 hp).bind fun v3 => if (hp (8, 0, v3) 1) = 0 then (some (.inr 1, hp)) else ((fX3_copyFrom 0 (10 + v3) hp).bind fun hp6 => (fX2_clear hp6).bind fun hp9 => some ((.inl (hp9 (3, 0, 0) 6)), hp9))) (fun E => some (.inr E, hp)) q2
theorem exX9_restore {d : Nat} {a0 : Int32} {hp : HP} {v : ((Int32 ⊕ Nat) × HP)} (h : fX9_restore a0 hp = some v) : Calls (d + 8) 139 [vR (9, 0, 0), vI a0] hp (rsT rsI v.1 v.2) := by
  replace h : ((fX9_requireSlot a0 hp).bind fun q2 => Sum.elim (fun _ => (fX9_slotOf a0 hp).bind fun v3 => if (hp (8, 0, v3) 1) = 0 then (some (.inr 1, hp)) else ((fX3_copyFrom 0 (10 + v3) hp).bind fun hp6 => (fX2_clear hp6).bind fun hp9 => some ((.inl (hp9 (3, 0, 0) 6)), hp9))) (fun E => some (.inr E, hp)) q2) = some v := h
  show Ex (d + 8) kX9_restore 0 [some (vR (9, 0, 0)), some (vI a0), none] [] hp _
  refine Ex.go 1 (pc' := 1) (ls' := [some (vR (9, 0, 0)), some (vI a0), none]) (st' := [vI a0]) (hp' := hp) (fun _ => rfl) ?_
  obtain ⟨q2, hv, h⟩ := Option.bind_eq_some_iff.mp h
  rcases q2 with _ | E
  · replace h : ((fX9_slotOf a0 hp).bind fun v3 => if (hp (8, 0, v3) 1) = 0 then (some (.inr 1, hp)) else ((fX3_copyFrom 0 (10 + v3) hp).bind fun hp6 => (fX2_clear hp6).bind fun hp9 => some ((.inl (hp9 (3, 0, 0) 6)), hp9))) = some v := h
    refine Ex.call (args := [vI a0]) (rest := []) rfl rfl rfl (exX9_requireSlot (d := d + 0) hv) ?_
    show Ex (d + 8) kX9_restore 4 [some (vR (9, 0, 0)), some (vI a0), none] [] hp _
    refine Ex.go 2 (pc' := 6) (ls' := [some (vR (9, 0, 0)), some (vI a0), none]) (st' := [vI a0, vR (9, 0, 0)]) (hp' := hp) (fun _ => rfl) ?_
    obtain ⟨v3, hv, h⟩ := Option.bind_eq_some_iff.mp h
    refine Ex.call (args := [vR (9, 0, 0), vI a0]) (rest := []) rfl rfl rfl (exX9_slotOf (d := d + 7) hv) ?_
    show Ex (d + 8) kX9_restore 9 [some (vR (9, 0, 0)), some (vI a0), none] [vR (8, 0, v3)] hp _
    refine Ex.go 3 (pc' := 14) (ls' := [some (vR (9, 0, 0)), some (vI a0), some (vR (8, 0, v3))]) (st' := [vI (hp (8, 0, v3) 1)]) (hp' := hp) (fun _ => rfl) ?_
    refine Ex.ifc rfl ?_
    by_cases hc : (hp (8, 0, v3) 1) = 0
    · rw [if_pos hc] at h
      rw [brI_ne_p hc]
      show Ex (d + 8) kX9_restore 17 [some (vR (9, 0, 0)), some (vI a0), some (vR (8, 0, v3))] [] hp _
      cases h
      exact Ex.thr rfl rfl rfl
    · rw [if_neg hc] at h
      rw [brI_ne_n hc]
      show Ex (d + 8) kX9_restore 28 [some (vR (9, 0, 0)), some (vI a0), some (vR (8, 0, v3))] [] hp _
      refine Ex.go 4 (pc' := 36) (ls' := [some (vR (9, 0, 0)), some (vI a0), some (vR (8, 0, v3))]) (st' := [vR (3, 0, (10 + v3)), vR (3, 0, 0)]) (hp' := hp) (fun _ => rfl) ?_
      obtain ⟨hp6, hv, h⟩ := Option.bind_eq_some_iff.mp h
      refine Ex.call (args := [vR (3, 0, 0), vR (3, 0, (10 + v3))]) (rest := []) rfl rfl rfl (exX3_copyFrom (d := d + 2) hv) ?_
      show Ex (d + 8) kX9_restore 39 [some (vR (9, 0, 0)), some (vI a0), some (vR (8, 0, v3))] [] hp6 _
      refine Ex.go 2 (pc' := 43) (ls' := [some (vR (9, 0, 0)), some (vI a0), some (vR (8, 0, v3))]) (st' := [vR (2, 0, 0)]) (hp' := hp6) (fun _ => rfl) ?_
      obtain ⟨hp9, hv, h⟩ := Option.bind_eq_some_iff.mp h
      refine Ex.call (args := [vR (2, 0, 0)]) (rest := []) rfl rfl rfl (exX2_clear (d := d + 7) hv) ?_
      show Ex (d + 8) kX9_restore 46 [some (vR (9, 0, 0)), some (vI a0), some (vR (8, 0, v3))] [] hp9 _
      refine Ex.go 3 (pc' := 53) (ls' := [some (vR (9, 0, 0)), some (vI a0), some (vR (8, 0, v3))]) (st' := [vI (hp9 (3, 0, 0) 6)]) (hp' := hp9) (fun _ => rfl) ?_
      cases h
      exact Ex.ret rfl rfl rfl
  · cases h
    exact Ex.callT (args := [vI a0]) (rest := []) rfl rfl rfl (exX9_requireSlot (d := d + 0) hv) rfl
def fX10_thrown (hp : HP) : Option Int32 := some (hp (10, 0, 0) 0)
theorem exX10_thrown {d : Nat} {hp : HP} {v : Int32} (h : fX10_thrown hp = some v) : Calls (d + 0) 157 [vR (10, 0, 0)] hp (rsI v hp) := by
  replace h : (some (hp (10, 0, 0) 0)) = some v := h
  show Ex (d + 0) kX10_thrown 0 [some (vR (10, 0, 0))] [] hp _
  refine Ex.go 2 (pc' := 4) (ls' := [some (vR (10, 0, 0))]) (st' := [vI (hp (10, 0, 0) 0)]) (hp' := hp) (fun _ => rfl) ?_
  cases h
  exact Ex.ret rfl rfl rfl
def fX10_in (a0 : Int32) (a1 : Int32) (a2 : Int32) (hp : HP) : Option Int32 := if a0 < a1 then (some 0) else (if a2 < a0 then (some 0) else (some 1))
theorem exX10_in {d : Nat} {a0 : Int32} {a1 : Int32} {a2 : Int32} {hp : HP} {v : Int32} (h : fX10_in a0 a1 a2 hp = some v) : Calls (d + 0) 158 [vI a0, vI a1, vI a2] hp (rsI v hp) := by
  replace h : (if a0 < a1 then (some 0) else (if a2 < a0 then (some 0) else (some 1))) = some v := h
  show Ex (d + 0) kX10_in 0 [some (vI a0), some (vI a1), some (vI a2)] [] hp _
  refine Ex.go 2 (pc' := 2) (ls' := [some (vI a0), some (vI a1), some (vI a2)]) (st' := [vI a1, vI a0]) (hp' := hp) (fun _ => rfl) ?_
  refine Ex.icmp rfl ?_
  by_cases hc : a0 < a1
  · rw [if_pos hc] at h
    rw [brI_lt_p hc]
    show Ex (d + 0) kX10_in 14 [some (vI a0), some (vI a1), some (vI a2)] [] hp _
    refine Ex.go 1 (pc' := 15) (ls' := [some (vI a0), some (vI a1), some (vI a2)]) (st' := [vI 0]) (hp' := hp) (fun _ => rfl) ?_
    cases h
    exact Ex.ret rfl rfl rfl
  · rw [if_neg hc] at h
    rw [brI_lt_n hc]
    show Ex (d + 0) kX10_in 5 [some (vI a0), some (vI a1), some (vI a2)] [] hp _
    refine Ex.go 2 (pc' := 7) (ls' := [some (vI a0), some (vI a1), some (vI a2)]) (st' := [vI a2, vI a0]) (hp' := hp) (fun _ => rfl) ?_
    refine Ex.icmp rfl ?_
    by_cases hc : a2 < a0
    · rw [if_pos hc] at h
      rw [brI_gt_p hc]
      show Ex (d + 0) kX10_in 14 [some (vI a0), some (vI a1), some (vI a2)] [] hp _
      refine Ex.go 1 (pc' := 15) (ls' := [some (vI a0), some (vI a1), some (vI a2)]) (st' := [vI 0]) (hp' := hp) (fun _ => rfl) ?_
      cases h
      exact Ex.ret rfl rfl rfl
    · rw [if_neg hc] at h
      rw [brI_gt_n hc]
      show Ex (d + 0) kX10_in 10 [some (vI a0), some (vI a1), some (vI a2)] [] hp _
      refine Ex.go 2 (pc' := 15) (ls' := [some (vI a0), some (vI a1), some (vI a2)]) (st' := [vI 1]) (hp' := hp) (fun _ => rfl) ?_
      cases h
      exact Ex.ret rfl rfl rfl
def fX10_flag (a0 : Int32) (hp : HP) : Option Int32 := if a0 = 0 then (some 0) else (some 1)
theorem exX10_flag {d : Nat} {a0 : Int32} {hp : HP} {v : Int32} (h : fX10_flag a0 hp = some v) : Calls (d + 0) 159 [vI a0] hp (rsI v hp) := by
  replace h : (if a0 = 0 then (some 0) else (some 1)) = some v := h
  show Ex (d + 0) kX10_flag 0 [some (vI a0)] [] hp _
  refine Ex.go 1 (pc' := 1) (ls' := [some (vI a0)]) (st' := [vI a0]) (hp' := hp) (fun _ => rfl) ?_
  refine Ex.ifc rfl ?_
  by_cases hc : a0 = 0
  · rw [if_pos hc] at h
    rw [brI_eq_p hc]
    show Ex (d + 0) kX10_flag 8 [some (vI a0)] [] hp _
    refine Ex.go 1 (pc' := 9) (ls' := [some (vI a0)]) (st' := [vI 0]) (hp' := hp) (fun _ => rfl) ?_
    cases h
    exact Ex.ret rfl rfl rfl
  · rw [if_neg hc] at h
    rw [brI_eq_n hc]
    show Ex (d + 0) kX10_flag 4 [some (vI a0)] [] hp _
    refine Ex.go 2 (pc' := 9) (ls' := [some (vI a0)]) (st' := [vI 1]) (hp' := hp) (fun _ => rfl) ?_
    cases h
    exact Ex.ret rfl rfl rfl
def fX10_refuse_16 (hp : HP) : Option (Int32 × HP) := if (hp (10, 0, 0) 0) = 0 then (some (0, hp)) else (some (1, hp))
theorem exX10_refuse_16 {d : Nat} {j1 : Option VL} {j2 : Option VL} {hp : HP} {v : (Int32 × HP)} (h : fX10_refuse_16 hp = some v) : Ex (d + 0) kX10_refuse 16 [some (vR (10, 0, 0)), j1, j2] [] hp (rsI v.1 v.2) := by
  replace h : (if (hp (10, 0, 0) 0) = 0 then (some (0, hp)) else (some (1, hp))) = some v := h
  refine Ex.go 2 (pc' := 20) (ls' := [some (vR (10, 0, 0)), j1, j2]) (st' := [vI (hp (10, 0, 0) 0)]) (hp' := hp) (fun _ => rfl) ?_
  refine Ex.ifc rfl ?_
  by_cases hc : (hp (10, 0, 0) 0) = 0
  · rw [if_pos hc] at h
    rw [brI_eq_p hc]
    show Ex (d + 0) kX10_refuse 27 [some (vR (10, 0, 0)), j1, j2] [] hp _
    refine Ex.go 1 (pc' := 28) (ls' := [some (vR (10, 0, 0)), j1, j2]) (st' := [vI 0]) (hp' := hp) (fun _ => rfl) ?_
    cases h
    exact Ex.ret rfl rfl rfl
  · rw [if_neg hc] at h
    rw [brI_eq_n hc]
    show Ex (d + 0) kX10_refuse 23 [some (vR (10, 0, 0)), j1, j2] [] hp _
    refine Ex.go 2 (pc' := 28) (ls' := [some (vR (10, 0, 0)), j1, j2]) (st' := [vI 1]) (hp' := hp) (fun _ => rfl) ?_
    cases h
    exact Ex.ret rfl rfl rfl
def fX10_refuse (a0 : Int32) (a1 : Int32) (hp : HP) : Option (Int32 × HP) := if (hp (10, 0, 0) 0) = 0 then (if a0 = 0 then (fX10_refuse_16 hp) else (fX10_refuse_16 (up hp (10, 0, 0) 0 a1))) else (fX10_refuse_16 hp)
theorem exX10_refuse {d : Nat} {a0 : Int32} {a1 : Int32} {hp : HP} {v : (Int32 × HP)} (h : fX10_refuse a0 a1 hp = some v) : Calls (d + 0) 160 [vR (10, 0, 0), vI a0, vI a1] hp (rsI v.1 v.2) := by
  replace h : (if (hp (10, 0, 0) 0) = 0 then (if a0 = 0 then (fX10_refuse_16 hp) else (fX10_refuse_16 (up hp (10, 0, 0) 0 a1))) else (fX10_refuse_16 hp)) = some v := h
  show Ex (d + 0) kX10_refuse 0 [some (vR (10, 0, 0)), some (vI a0), some (vI a1)] [] hp _
  refine Ex.go 2 (pc' := 4) (ls' := [some (vR (10, 0, 0)), some (vI a0), some (vI a1)]) (st' := [vI (hp (10, 0, 0) 0)]) (hp' := hp) (fun _ => rfl) ?_
  refine Ex.ifc rfl ?_
  by_cases hc : (hp (10, 0, 0) 0) = 0
  · rw [if_pos hc] at h
    rw [brI_ne_p hc]
    show Ex (d + 0) kX10_refuse 7 [some (vR (10, 0, 0)), some (vI a0), some (vI a1)] [] hp _
    refine Ex.go 1 (pc' := 8) (ls' := [some (vR (10, 0, 0)), some (vI a0), some (vI a1)]) (st' := [vI a0]) (hp' := hp) (fun _ => rfl) ?_
    refine Ex.ifc rfl ?_
    by_cases hc : a0 = 0
    · rw [if_pos hc] at h
      rw [brI_eq_p hc]
      show Ex (d + 0) kX10_refuse 16 [some (vR (10, 0, 0)), some (vI a0), some (vI a1)] [] hp _
      exact exX10_refuse_16 h
    · rw [if_neg hc] at h
      rw [brI_eq_n hc]
      show Ex (d + 0) kX10_refuse 11 [some (vR (10, 0, 0)), some (vI a0), some (vI a1)] [] hp _
      refine Ex.go 3 (pc' := 16) (ls' := [some (vR (10, 0, 0)), some (vI a0), some (vI a1)]) (st' := []) (hp' := (up hp (10, 0, 0) 0 a1)) (fun _ => rfl) ?_
      exact exX10_refuse_16 h
  · rw [if_neg hc] at h
    rw [brI_ne_n hc]
    show Ex (d + 0) kX10_refuse 16 [some (vR (10, 0, 0)), some (vI a0), some (vI a1)] [] hp _
    exact exX10_refuse_16 h
def fX10_notLoaded_18 (y1 : Int32) (hp : HP) : Option (Int32 × HP) := (fX10_refuse y1 1 hp).bind fun q2 => if isB q2.1 = true then some (q2.1, q2.2) else none
theorem exX10_notLoaded_18 {d : Nat} {y1 : Int32} {hp : HP} {v : (Int32 × HP)} (h : fX10_notLoaded_18 y1 hp = some v) : Ex (d + 1) kX10_notLoaded 18 [some (vR (10, 0, 0))] [vI y1, vR (10, 0, 0)] hp (rsI v.1 v.2) := by
  replace h : ((fX10_refuse y1 1 hp).bind fun q2 => if isB q2.1 = true then some (q2.1, q2.2) else none) = some v := h
  refine Ex.go 1 (pc' := 19) (ls' := [some (vR (10, 0, 0))]) (st' := [vI 1, vI y1, vR (10, 0, 0)]) (hp' := hp) (fun _ => rfl) ?_
  obtain ⟨q2, hv, h⟩ := Option.bind_eq_some_iff.mp h
  refine Ex.call (args := [vR (10, 0, 0), vI y1, vI 1]) (rest := []) rfl rfl rfl (exX10_refuse (d := d + 0) hv) ?_
  show Ex (d + 1) kX10_notLoaded 22 [some (vR (10, 0, 0))] [vI q2.1] q2.2 _
  by_cases hc : isB q2.1 = true
  · rw [if_pos hc] at h
    cases h
    exact Ex.retz rfl hc rfl
  · rw [if_neg hc] at h
    cases h
def fX10_notLoaded_5 (hp : HP) : Option (Int32 × HP) := if (hp (10, 0, 0) 1) = 0 then (fX10_notLoaded_18 1 hp) else (fX10_notLoaded_18 0 hp)
theorem exX10_notLoaded_5 {d : Nat} {hp : HP} {v : (Int32 × HP)} (h : fX10_notLoaded_5 hp = some v) : Ex (d + 1) kX10_notLoaded 5 [some (vR (10, 0, 0))] [] hp (rsI v.1 v.2) := by
  replace h : (if (hp (10, 0, 0) 1) = 0 then (fX10_notLoaded_18 1 hp) else (fX10_notLoaded_18 0 hp)) = some v := h
  refine Ex.go 3 (pc' := 10) (ls' := [some (vR (10, 0, 0))]) (st' := [vI (hp (10, 0, 0) 1), vR (10, 0, 0)]) (hp' := hp) (fun _ => rfl) ?_
  refine Ex.ifc rfl ?_
  by_cases hc : (hp (10, 0, 0) 1) = 0
  · rw [if_pos hc] at h
    rw [brI_ne_p hc]
    show Ex (d + 1) kX10_notLoaded 13 [some (vR (10, 0, 0))] [vR (10, 0, 0)] hp _
    refine Ex.go 2 (pc' := 18) (ls' := [some (vR (10, 0, 0))]) (st' := [vI 1, vR (10, 0, 0)]) (hp' := hp) (fun _ => rfl) ?_
    exact exX10_notLoaded_18 h
  · rw [if_neg hc] at h
    rw [brI_ne_n hc]
    show Ex (d + 1) kX10_notLoaded 17 [some (vR (10, 0, 0))] [vR (10, 0, 0)] hp _
    refine Ex.go 1 (pc' := 18) (ls' := [some (vR (10, 0, 0))]) (st' := [vI 0, vR (10, 0, 0)]) (hp' := hp) (fun _ => rfl) ?_
    exact exX10_notLoaded_18 h
def fX10_notLoaded (hp : HP) : Option (Int32 × HP) := fX10_notLoaded_5 (up hp (10, 0, 0) 0 0)
theorem exX10_notLoaded {d : Nat} {hp : HP} {v : (Int32 × HP)} (h : fX10_notLoaded hp = some v) : Calls (d + 1) 161 [vR (10, 0, 0)] hp (rsI v.1 v.2) := by
  replace h : (fX10_notLoaded_5 (up hp (10, 0, 0) 0 0)) = some v := h
  show Ex (d + 1) kX10_notLoaded 0 [some (vR (10, 0, 0))] [] hp _
  refine Ex.go 3 (pc' := 5) (ls' := [some (vR (10, 0, 0))]) (st' := []) (hp' := (up hp (10, 0, 0) 0 0)) (fun _ => rfl) ?_
  exact exX10_notLoaded_5 h
def fX10_append_76 (x1 : Int32) (x2 : Int32) (x3 : Int32) (x4 : Int32) (x5 : Int32) (x6 : Int32) (y0 : Int32) (k23 : Int32 → Int32 → Int32 → Int32 → Int32 → Int32 → HP → Option (Int32 × HP)) (hp : HP) : Option (Int32 × HP) := if inb ((hp (10, 0, 0) 11) + x6) (alen (11, 25, 0)) = true then (k23 x1 x2 x3 x4 x5 (x6 + 1) (up hp (11, 25, 0) (((hp (10, 0, 0) 11) + x6).toNatClampNeg) ((y0 >>> ((24 - (8 * (irm x6 4))) &&& 31)) &&& 255))) else none
theorem exX10_append_76 {d : Nat} {x1 : Int32} {x2 : Int32} {x3 : Int32} {x4 : Int32} {x5 : Int32} {x6 : Int32} {y0 : Int32} {j7 : Option VL} {hp : HP} {v : (Int32 × HP)} {k23 : Int32 → Int32 → Int32 → Int32 → Int32 → Int32 → HP → Option (Int32 × HP)} (hk23 : ∀ (x1 : Int32) (x2 : Int32) (x3 : Int32) (x4 : Int32) (x5 : Int32) (x6 : Int32) (j7 : Option VL) (hp : HP) (v : (Int32 × HP)), k23 x1 x2 x3 x4 x5 x6 hp = some v → Ex (d + 0) kX10_append 23 [some (vR (10, 0, 0)), some (vI x1), some (vI x2), some (vI x3), some (vI x4), some (vI x5), some (vI x6), j7] [] hp (rsI v.1 v.2)) (h : fX10_append_76 x1 x2 x3 x4 x5 x6 y0 k23 hp = some v) : Ex (d + 0) kX10_append 76 [some (vR (10, 0, 0)), some (vI x1), some (vI x2), some (vI x3), some (vI x4), some (vI x5), some (vI x6), j7] [vI y0] hp (rsI v.1 v.2) := by
  replace h : (if inb ((hp (10, 0, 0) 11) + x6) (alen (11, 25, 0)) = true then (k23 x1 x2 x3 x4 x5 (x6 + 1) (up hp (11, 25, 0) (((hp (10, 0, 0) 11) + x6).toNatClampNeg) ((y0 >>> ((24 - (8 * (irm x6 4))) &&& 31)) &&& 255))) else none) = some v := h
  refine Ex.go 12 (pc' := 98) (ls' := [some (vR (10, 0, 0)), some (vI x1), some (vI x2), some (vI x3), some (vI x4), some (vI x5), some (vI x6), some (vI y0)]) (st' := [vI 4, vI x6, vI 8, vI 24, vI y0, vI ((hp (10, 0, 0) 11) + x6), vR (11, 25, 0)]) (hp' := hp) (fun _ => rfl) ?_
  refine Ex.irem rfl (by decide) ?_
  show Ex (d + 0) kX10_append 99 [some (vR (10, 0, 0)), some (vI x1), some (vI x2), some (vI x3), some (vI x4), some (vI x5), some (vI x6), some (vI y0)] [vI (irm x6 4), vI 8, vI 24, vI y0, vI ((hp (10, 0, 0) 11) + x6), vR (11, 25, 0)] hp _
  refine Ex.go 5 (pc' := 106) (ls' := [some (vR (10, 0, 0)), some (vI x1), some (vI x2), some (vI x3), some (vI x4), some (vI x5), some (vI x6), some (vI y0)]) (st' := [vI ((y0 >>> ((24 - (8 * (irm x6 4))) &&& 31)) &&& 255), vI ((hp (10, 0, 0) 11) + x6), vR (11, 25, 0)]) (hp' := hp) (fun _ => rfl) ?_
  by_cases hc : inb ((hp (10, 0, 0) 11) + x6) (alen (11, 25, 0)) = true
  · rw [if_pos hc] at h
    refine Ex.iast rfl rfl hc rfl ?_
    show Ex (d + 0) kX10_append 107 [some (vR (10, 0, 0)), some (vI x1), some (vI x2), some (vI x3), some (vI x4), some (vI x5), some (vI x6), some (vI y0)] [] (up hp (11, 25, 0) (((hp (10, 0, 0) 11) + x6).toNatClampNeg) ((y0 >>> ((24 - (8 * (irm x6 4))) &&& 31)) &&& 255)) _
    refine Ex.go 2 (pc' := 23) (ls' := [some (vR (10, 0, 0)), some (vI x1), some (vI x2), some (vI x3), some (vI x4), some (vI x5), some (vI (x6 + 1)), some (vI y0)]) (st' := []) (hp' := (up hp (11, 25, 0) (((hp (10, 0, 0) 11) + x6).toNatClampNeg) ((y0 >>> ((24 - (8 * (irm x6 4))) &&& 31)) &&& 255))) (fun _ => rfl) ?_
    exact hk23 _ _ _ _ _ _ _ _ _ h
  · rw [if_neg hc] at h
    cases h
def fX10_append_124 (hp : HP) : Option (Int32 × HP) := some ((hp (10, 0, 0) 11), hp)
theorem exX10_append_124 {d : Nat} {j1 : Option VL} {j2 : Option VL} {j3 : Option VL} {j4 : Option VL} {j5 : Option VL} {j6 : Option VL} {j7 : Option VL} {hp : HP} {v : (Int32 × HP)} (h : fX10_append_124 hp = some v) : Ex (d + 0) kX10_append 124 [some (vR (10, 0, 0)), j1, j2, j3, j4, j5, j6, j7] [] hp (rsI v.1 v.2) := by
  replace h : (some ((hp (10, 0, 0) 11), hp)) = some v := h
  refine Ex.go 2 (pc' := 128) (ls' := [some (vR (10, 0, 0)), j1, j2, j3, j4, j5, j6, j7]) (st' := [vI (hp (10, 0, 0) 11)]) (hp' := hp) (fun _ => rfl) ?_
  cases h
  exact Ex.ret rfl rfl rfl
def fX10_append_23 (n : Nat) (x1 : Int32) (x2 : Int32) (x3 : Int32) (x4 : Int32) (x5 : Int32) (x6 : Int32) (hp : HP) : Option (Int32 × HP) := match n with
  | 0 => none
  | n + 1 => if x6 < 20 then (if x6 < 4 then (fX10_append_76 x1 x2 x3 x4 x5 x6 x1 (fun x1 x2 x3 x4 x5 x6 hq => fX10_append_23 n x1 x2 x3 x4 x5 x6 hq) hp) else (if x6 < 8 then (fX10_append_76 x1 x2 x3 x4 x5 x6 x2 (fun x1 x2 x3 x4 x5 x6 hq => fX10_append_23 n x1 x2 x3 x4 x5 x6 hq) hp) else (if x6 < 12 then (fX10_append_76 x1 x2 x3 x4 x5 x6 x3 (fun x1 x2 x3 x4 x5 x6 hq => fX10_append_23 n x1 x2 x3 x4 x5 x6 hq) hp) else (if x6 < 16 then (fX10_append_76 x1 x2 x3 x4 x5 x6 x4 (fun x1 x2 x3 x4 x5 x6 hq => fX10_append_23 n x1 x2 x3 x4 x5 x6 hq) hp) else (fX10_append_76 x1 x2 x3 x4 x5 x6 x5 (fun x1 x2 x3 x4 x5 x6 hq => fX10_append_23 n x1 x2 x3 x4 x5 x6 hq) hp))))) else (fX10_append_124 (up hp (10, 0, 0) 11 ((hp (10, 0, 0) 11) + 20)))
theorem exX10_append_23 {d : Nat} : ∀ (n : Nat) (x1 : Int32) (x2 : Int32) (x3 : Int32) (x4 : Int32) (x5 : Int32) (x6 : Int32) (j7 : Option VL) (hp : HP) (v : (Int32 × HP)), fX10_append_23 n x1 x2 x3 x4 x5 x6 hp = some v → Ex (d + 0) kX10_append 23 [some (vR (10, 0, 0)), some (vI x1), some (vI x2), some (vI x3), some (vI x4), some (vI x5), some (vI x6), j7] [] hp (rsI v.1 v.2) := by
  intro n
  induction n with
  | zero =>
    intro x1 x2 x3 x4 x5 x6 j7 hp v h
    cases h
  | succ n ih =>
    intro x1 x2 x3 x4 x5 x6 j7 hp v h
    replace h : (if x6 < 20 then (if x6 < 4 then (fX10_append_76 x1 x2 x3 x4 x5 x6 x1 (fun x1 x2 x3 x4 x5 x6 hq => fX10_append_23 n x1 x2 x3 x4 x5 x6 hq) hp) else (if x6 < 8 then (fX10_append_76 x1 x2 x3 x4 x5 x6 x2 (fun x1 x2 x3 x4 x5 x6 hq => fX10_append_23 n x1 x2 x3 x4 x5 x6 hq) hp) else (if x6 < 12 then (fX10_append_76 x1 x2 x3 x4 x5 x6 x3 (fun x1 x2 x3 x4 x5 x6 hq => fX10_append_23 n x1 x2 x3 x4 x5 x6 hq) hp) else (if x6 < 16 then (fX10_append_76 x1 x2 x3 x4 x5 x6 x4 (fun x1 x2 x3 x4 x5 x6 hq => fX10_append_23 n x1 x2 x3 x4 x5 x6 hq) hp) else (fX10_append_76 x1 x2 x3 x4 x5 x6 x5 (fun x1 x2 x3 x4 x5 x6 hq => fX10_append_23 n x1 x2 x3 x4 x5 x6 hq) hp))))) else (fX10_append_124 (up hp (10, 0, 0) 11 ((hp (10, 0, 0) 11) + 20)))) = some v := h
    refine Ex.go 2 (pc' := 27) (ls' := [some (vR (10, 0, 0)), some (vI x1), some (vI x2), some (vI x3), some (vI x4), some (vI x5), some (vI x6), j7]) (st' := [vI 20, vI x6]) (hp' := hp) (fun _ => rfl) ?_
    refine Ex.icmp rfl ?_
    by_cases hc : x6 < 20
    · rw [if_pos hc] at h
      rw [brI_ge_p hc]
      show Ex (d + 0) kX10_append 30 [some (vR (10, 0, 0)), some (vI x1), some (vI x2), some (vI x3), some (vI x4), some (vI x5), some (vI x6), j7] [] hp _
      refine Ex.go 2 (pc' := 33) (ls' := [some (vR (10, 0, 0)), some (vI x1), some (vI x2), some (vI x3), some (vI x4), some (vI x5), some (vI x6), j7]) (st' := [vI 4, vI x6]) (hp' := hp) (fun _ => rfl) ?_
      refine Ex.icmp rfl ?_
      by_cases hc : x6 < 4
      · rw [if_pos hc] at h
        rw [brI_ge_p hc]
        show Ex (d + 0) kX10_append 36 [some (vR (10, 0, 0)), some (vI x1), some (vI x2), some (vI x3), some (vI x4), some (vI x5), some (vI x6), j7] [] hp _
        refine Ex.go 2 (pc' := 76) (ls' := [some (vR (10, 0, 0)), some (vI x1), some (vI x2), some (vI x3), some (vI x4), some (vI x5), some (vI x6), j7]) (st' := [vI x1]) (hp' := hp) (fun _ => rfl) ?_
        exact exX10_append_76 (fun q0 q1 q2 q3 q4 q5 q6 q7 q8 hv => ih q0 q1 q2 q3 q4 q5 q6 q7 q8 hv) h
      · rw [if_neg hc] at h
        rw [brI_ge_n hc]
        show Ex (d + 0) kX10_append 40 [some (vR (10, 0, 0)), some (vI x1), some (vI x2), some (vI x3), some (vI x4), some (vI x5), some (vI x6), j7] [] hp _
        refine Ex.go 2 (pc' := 44) (ls' := [some (vR (10, 0, 0)), some (vI x1), some (vI x2), some (vI x3), some (vI x4), some (vI x5), some (vI x6), j7]) (st' := [vI 8, vI x6]) (hp' := hp) (fun _ => rfl) ?_
        refine Ex.icmp rfl ?_
        by_cases hc : x6 < 8
        · rw [if_pos hc] at h
          rw [brI_ge_p hc]
          show Ex (d + 0) kX10_append 47 [some (vR (10, 0, 0)), some (vI x1), some (vI x2), some (vI x3), some (vI x4), some (vI x5), some (vI x6), j7] [] hp _
          refine Ex.go 2 (pc' := 76) (ls' := [some (vR (10, 0, 0)), some (vI x1), some (vI x2), some (vI x3), some (vI x4), some (vI x5), some (vI x6), j7]) (st' := [vI x2]) (hp' := hp) (fun _ => rfl) ?_
          exact exX10_append_76 (fun q0 q1 q2 q3 q4 q5 q6 q7 q8 hv => ih q0 q1 q2 q3 q4 q5 q6 q7 q8 hv) h
        · rw [if_neg hc] at h
          rw [brI_ge_n hc]
          show Ex (d + 0) kX10_append 51 [some (vR (10, 0, 0)), some (vI x1), some (vI x2), some (vI x3), some (vI x4), some (vI x5), some (vI x6), j7] [] hp _
          refine Ex.go 2 (pc' := 55) (ls' := [some (vR (10, 0, 0)), some (vI x1), some (vI x2), some (vI x3), some (vI x4), some (vI x5), some (vI x6), j7]) (st' := [vI 12, vI x6]) (hp' := hp) (fun _ => rfl) ?_
          refine Ex.icmp rfl ?_
          by_cases hc : x6 < 12
          · rw [if_pos hc] at h
            rw [brI_ge_p hc]
            show Ex (d + 0) kX10_append 58 [some (vR (10, 0, 0)), some (vI x1), some (vI x2), some (vI x3), some (vI x4), some (vI x5), some (vI x6), j7] [] hp _
            refine Ex.go 2 (pc' := 76) (ls' := [some (vR (10, 0, 0)), some (vI x1), some (vI x2), some (vI x3), some (vI x4), some (vI x5), some (vI x6), j7]) (st' := [vI x3]) (hp' := hp) (fun _ => rfl) ?_
            exact exX10_append_76 (fun q0 q1 q2 q3 q4 q5 q6 q7 q8 hv => ih q0 q1 q2 q3 q4 q5 q6 q7 q8 hv) h
          · rw [if_neg hc] at h
            rw [brI_ge_n hc]
            show Ex (d + 0) kX10_append 62 [some (vR (10, 0, 0)), some (vI x1), some (vI x2), some (vI x3), some (vI x4), some (vI x5), some (vI x6), j7] [] hp _
            refine Ex.go 2 (pc' := 66) (ls' := [some (vR (10, 0, 0)), some (vI x1), some (vI x2), some (vI x3), some (vI x4), some (vI x5), some (vI x6), j7]) (st' := [vI 16, vI x6]) (hp' := hp) (fun _ => rfl) ?_
            refine Ex.icmp rfl ?_
            by_cases hc : x6 < 16
            · rw [if_pos hc] at h
              rw [brI_ge_p hc]
              show Ex (d + 0) kX10_append 69 [some (vR (10, 0, 0)), some (vI x1), some (vI x2), some (vI x3), some (vI x4), some (vI x5), some (vI x6), j7] [] hp _
              refine Ex.go 2 (pc' := 76) (ls' := [some (vR (10, 0, 0)), some (vI x1), some (vI x2), some (vI x3), some (vI x4), some (vI x5), some (vI x6), j7]) (st' := [vI x4]) (hp' := hp) (fun _ => rfl) ?_
              exact exX10_append_76 (fun q0 q1 q2 q3 q4 q5 q6 q7 q8 hv => ih q0 q1 q2 q3 q4 q5 q6 q7 q8 hv) h
            · rw [if_neg hc] at h
              rw [brI_ge_n hc]
              show Ex (d + 0) kX10_append 74 [some (vR (10, 0, 0)), some (vI x1), some (vI x2), some (vI x3), some (vI x4), some (vI x5), some (vI x6), j7] [] hp _
              refine Ex.go 1 (pc' := 76) (ls' := [some (vR (10, 0, 0)), some (vI x1), some (vI x2), some (vI x3), some (vI x4), some (vI x5), some (vI x6), j7]) (st' := [vI x5]) (hp' := hp) (fun _ => rfl) ?_
              exact exX10_append_76 (fun q0 q1 q2 q3 q4 q5 q6 q7 q8 hv => ih q0 q1 q2 q3 q4 q5 q6 q7 q8 hv) h
    · rw [if_neg hc] at h
      rw [brI_ge_n hc]
      show Ex (d + 0) kX10_append 113 [some (vR (10, 0, 0)), some (vI x1), some (vI x2), some (vI x3), some (vI x4), some (vI x5), some (vI x6), j7] [] hp _
      refine Ex.go 6 (pc' := 124) (ls' := [some (vR (10, 0, 0)), some (vI x1), some (vI x2), some (vI x3), some (vI x4), some (vI x5), some (vI x6), j7]) (st' := []) (hp' := (up hp (10, 0, 0) 11 ((hp (10, 0, 0) 11) + 20))) (fun _ => rfl) ?_
      exact exX10_append_124 h
def fX10_append_5 (x1 : Int32) (x2 : Int32) (x3 : Int32) (x4 : Int32) (x5 : Int32) (hp : HP) : Option (Int32 × HP) := if 500 < ((hp (10, 0, 0) 11) + 20) then (some (m1, hp)) else (fX10_append_23 FU x1 x2 x3 x4 x5 0 hp)
theorem exX10_append_5 {d : Nat} {x1 : Int32} {x2 : Int32} {x3 : Int32} {x4 : Int32} {x5 : Int32} {j6 : Option VL} {j7 : Option VL} {hp : HP} {v : (Int32 × HP)} (h : fX10_append_5 x1 x2 x3 x4 x5 hp = some v) : Ex (d + 0) kX10_append 5 [some (vR (10, 0, 0)), some (vI x1), some (vI x2), some (vI x3), some (vI x4), some (vI x5), j6, j7] [] hp (rsI v.1 v.2) := by
  replace h : (if 500 < ((hp (10, 0, 0) 11) + 20) then (some (m1, hp)) else (fX10_append_23 FU x1 x2 x3 x4 x5 0 hp)) = some v := h
  refine Ex.go 5 (pc' := 15) (ls' := [some (vR (10, 0, 0)), some (vI x1), some (vI x2), some (vI x3), some (vI x4), some (vI x5), j6, j7]) (st' := [vI 500, vI ((hp (10, 0, 0) 11) + 20)]) (hp' := hp) (fun _ => rfl) ?_
  refine Ex.icmp rfl ?_
  by_cases hc : 500 < ((hp (10, 0, 0) 11) + 20)
  · rw [if_pos hc] at h
    rw [brI_le_p hc]
    show Ex (d + 0) kX10_append 18 [some (vR (10, 0, 0)), some (vI x1), some (vI x2), some (vI x3), some (vI x4), some (vI x5), j6, j7] [] hp _
    refine Ex.go 1 (pc' := 19) (ls' := [some (vR (10, 0, 0)), some (vI x1), some (vI x2), some (vI x3), some (vI x4), some (vI x5), j6, j7]) (st' := [vI m1]) (hp' := hp) (fun _ => rfl) ?_
    cases h
    exact Ex.ret rfl rfl rfl
  · rw [if_neg hc] at h
    rw [brI_le_n hc]
    show Ex (d + 0) kX10_append 20 [some (vR (10, 0, 0)), some (vI x1), some (vI x2), some (vI x3), some (vI x4), some (vI x5), j6, j7] [] hp _
    refine Ex.go 2 (pc' := 23) (ls' := [some (vR (10, 0, 0)), some (vI x1), some (vI x2), some (vI x3), some (vI x4), some (vI x5), some (vI 0), j7]) (st' := []) (hp' := hp) (fun _ => rfl) ?_
    exact exX10_append_23 FU _ _ _ _ _ _ _ _ _ h
def fX10_append (a0 : Int32) (a1 : Int32) (a2 : Int32) (a3 : Int32) (a4 : Int32) (hp : HP) : Option (Int32 × HP) := fX10_append_5 a0 a1 a2 a3 a4 (up hp (10, 0, 0) 0 0)
theorem exX10_append {d : Nat} {a0 : Int32} {a1 : Int32} {a2 : Int32} {a3 : Int32} {a4 : Int32} {hp : HP} {v : (Int32 × HP)} (h : fX10_append a0 a1 a2 a3 a4 hp = some v) : Calls (d + 0) 162 [vR (10, 0, 0), vI a0, vI a1, vI a2, vI a3, vI a4] hp (rsI v.1 v.2) := by
  replace h : (fX10_append_5 a0 a1 a2 a3 a4 (up hp (10, 0, 0) 0 0)) = some v := h
  show Ex (d + 0) kX10_append 0 [some (vR (10, 0, 0)), some (vI a0), some (vI a1), some (vI a2), some (vI a3), some (vI a4), none, none] [] hp _
  refine Ex.go 3 (pc' := 5) (ls' := [some (vR (10, 0, 0)), some (vI a0), some (vI a1), some (vI a2), some (vI a3), some (vI a4), none, none]) (st' := []) (hp' := (up hp (10, 0, 0) 0 0)) (fun _ => rfl) ?_
  exact exX10_append_5 h
def fX10_buffered_5 (hp : HP) : Option (Int32 × HP) := some ((hp (10, 0, 0) 11), hp)
theorem exX10_buffered_5 {d : Nat} {hp : HP} {v : (Int32 × HP)} (h : fX10_buffered_5 hp = some v) : Ex (d + 0) kX10_buffered 5 [some (vR (10, 0, 0))] [] hp (rsI v.1 v.2) := by
  replace h : (some ((hp (10, 0, 0) 11), hp)) = some v := h
  refine Ex.go 2 (pc' := 9) (ls' := [some (vR (10, 0, 0))]) (st' := [vI (hp (10, 0, 0) 11)]) (hp' := hp) (fun _ => rfl) ?_
  cases h
  exact Ex.ret rfl rfl rfl
def fX10_buffered (hp : HP) : Option (Int32 × HP) := fX10_buffered_5 (up hp (10, 0, 0) 0 0)
theorem exX10_buffered {d : Nat} {hp : HP} {v : (Int32 × HP)} (h : fX10_buffered hp = some v) : Calls (d + 0) 163 [vR (10, 0, 0)] hp (rsI v.1 v.2) := by
  replace h : (fX10_buffered_5 (up hp (10, 0, 0) 0 0)) = some v := h
  show Ex (d + 0) kX10_buffered 0 [some (vR (10, 0, 0))] [] hp _
  refine Ex.go 3 (pc' := 5) (ls' := [some (vR (10, 0, 0))]) (st' := []) (hp' := (up hp (10, 0, 0) 0 0)) (fun _ => rfl) ?_
  exact exX10_buffered_5 h
def fX10_parseError_5 (hp : HP) : Option (Int32 × HP) := some ((hp (10, 0, 0) 12), hp)
theorem exX10_parseError_5 {d : Nat} {hp : HP} {v : (Int32 × HP)} (h : fX10_parseError_5 hp = some v) : Ex (d + 0) kX10_parseError 5 [some (vR (10, 0, 0))] [] hp (rsI v.1 v.2) := by
  replace h : (some ((hp (10, 0, 0) 12), hp)) = some v := h
  refine Ex.go 2 (pc' := 9) (ls' := [some (vR (10, 0, 0))]) (st' := [vI (hp (10, 0, 0) 12)]) (hp' := hp) (fun _ => rfl) ?_
  cases h
  exact Ex.ret rfl rfl rfl
def fX10_parseError (hp : HP) : Option (Int32 × HP) := fX10_parseError_5 (up hp (10, 0, 0) 0 0)
theorem exX10_parseError {d : Nat} {hp : HP} {v : (Int32 × HP)} (h : fX10_parseError hp = some v) : Calls (d + 0) 164 [vR (10, 0, 0)] hp (rsI v.1 v.2) := by
  replace h : (fX10_parseError_5 (up hp (10, 0, 0) 0 0)) = some v := h
  show Ex (d + 0) kX10_parseError 0 [some (vR (10, 0, 0))] [] hp _
  refine Ex.go 3 (pc' := 5) (ls' := [some (vR (10, 0, 0))]) (st' := []) (hp' := (up hp (10, 0, 0) 0 0)) (fun _ => rfl) ?_
  exact exX10_parseError_5 h
def fX10_errorPosition_5 (hp : HP) : Option (Int32 × HP) := some ((hp (10, 0, 0) 13), hp)
theorem exX10_errorPosition_5 {d : Nat} {hp : HP} {v : (Int32 × HP)} (h : fX10_errorPosition_5 hp = some v) : Ex (d + 0) kX10_errorPosition 5 [some (vR (10, 0, 0))] [] hp (rsI v.1 v.2) := by
  replace h : (some ((hp (10, 0, 0) 13), hp)) = some v := h
  refine Ex.go 2 (pc' := 9) (ls' := [some (vR (10, 0, 0))]) (st' := [vI (hp (10, 0, 0) 13)]) (hp' := hp) (fun _ => rfl) ?_
  cases h
  exact Ex.ret rfl rfl rfl
def fX10_errorPosition (hp : HP) : Option (Int32 × HP) := fX10_errorPosition_5 (up hp (10, 0, 0) 0 0)
theorem exX10_errorPosition {d : Nat} {hp : HP} {v : (Int32 × HP)} (h : fX10_errorPosition hp = some v) : Calls (d + 0) 165 [vR (10, 0, 0)] hp (rsI v.1 v.2) := by
  replace h : (fX10_errorPosition_5 (up hp (10, 0, 0) 0 0)) = some v := h
  show Ex (d + 0) kX10_errorPosition 0 [some (vR (10, 0, 0))] [] hp _
  refine Ex.go 3 (pc' := 5) (ls' := [some (vR (10, 0, 0))]) (st' := []) (hp' := (up hp (10, 0, 0) 0 0)) (fun _ => rfl) ?_
  exact exX10_errorPosition_5 h
def fX10_seen (a0 : Int32) (hp : HP) : Option Int32 := if a0 < (hp (10, 0, 0) 14) then (if inb a0 (alen (11, 25, 0)) = true then (some (hp (11, 25, 0) a0.toNatClampNeg)) else none) else (some m1)
theorem exX10_seen {d : Nat} {a0 : Int32} {hp : HP} {v : Int32} (h : fX10_seen a0 hp = some v) : Calls (d + 0) 166 [vR (10, 0, 0), vI a0] hp (rsI v hp) := by
  replace h : (if a0 < (hp (10, 0, 0) 14) then (if inb a0 (alen (11, 25, 0)) = true then (some (hp (11, 25, 0) a0.toNatClampNeg)) else none) else (some m1)) = some v := h
  show Ex (d + 0) kX10_seen 0 [some (vR (10, 0, 0)), some (vI a0)] [] hp _
  refine Ex.go 3 (pc' := 5) (ls' := [some (vR (10, 0, 0)), some (vI a0)]) (st' := [vI (hp (10, 0, 0) 14), vI a0]) (hp' := hp) (fun _ => rfl) ?_
  refine Ex.icmp rfl ?_
  by_cases hc : a0 < (hp (10, 0, 0) 14)
  · rw [if_pos hc] at h
    rw [brI_ge_p hc]
    show Ex (d + 0) kX10_seen 8 [some (vR (10, 0, 0)), some (vI a0)] [] hp _
    refine Ex.go 3 (pc' := 13) (ls' := [some (vR (10, 0, 0)), some (vI a0)]) (st' := [vI a0, vR (11, 25, 0)]) (hp' := hp) (fun _ => rfl) ?_
    by_cases hc : inb a0 (alen (11, 25, 0)) = true
    · rw [if_pos hc] at h
      refine Ex.iald rfl rfl hc rfl ?_
      show Ex (d + 0) kX10_seen 14 [some (vR (10, 0, 0)), some (vI a0)] [vI (hp (11, 25, 0) a0.toNatClampNeg)] hp _
      refine Ex.go 1 (pc' := 18) (ls' := [some (vR (10, 0, 0)), some (vI a0)]) (st' := [vI (hp (11, 25, 0) a0.toNatClampNeg)]) (hp' := hp) (fun _ => rfl) ?_
      cases h
      exact Ex.ret rfl rfl rfl
    · rw [if_neg hc] at h
      cases h
  · rw [if_neg hc] at h
    rw [brI_ge_n hc]
    show Ex (d + 0) kX10_seen 17 [some (vR (10, 0, 0)), some (vI a0)] [] hp _
    refine Ex.go 1 (pc' := 18) (ls' := [some (vR (10, 0, 0)), some (vI a0)]) (st' := [vI m1]) (hp' := hp) (fun _ => rfl) ?_
    cases h
    exact Ex.ret rfl rfl rfl
def fX10_isSmall (a0 : Int32) (hp : HP) : Option Int32 := if a0 < 97 then (some 0) else (if 122 < a0 then (some 0) else (some 1))
theorem exX10_isSmall {d : Nat} {a0 : Int32} {hp : HP} {v : Int32} (h : fX10_isSmall a0 hp = some v) : Calls (d + 0) 167 [vI a0] hp (rsI v hp) := by
  replace h : (if a0 < 97 then (some 0) else (if 122 < a0 then (some 0) else (some 1))) = some v := h
  show Ex (d + 0) kX10_isSmall 0 [some (vI a0)] [] hp _
  refine Ex.go 2 (pc' := 3) (ls' := [some (vI a0)]) (st' := [vI 97, vI a0]) (hp' := hp) (fun _ => rfl) ?_
  refine Ex.icmp rfl ?_
  by_cases hc : a0 < 97
  · rw [if_pos hc] at h
    rw [brI_lt_p hc]
    show Ex (d + 0) kX10_isSmall 16 [some (vI a0)] [] hp _
    refine Ex.go 1 (pc' := 17) (ls' := [some (vI a0)]) (st' := [vI 0]) (hp' := hp) (fun _ => rfl) ?_
    cases h
    exact Ex.ret rfl rfl rfl
  · rw [if_neg hc] at h
    rw [brI_lt_n hc]
    show Ex (d + 0) kX10_isSmall 6 [some (vI a0)] [] hp _
    refine Ex.go 2 (pc' := 9) (ls' := [some (vI a0)]) (st' := [vI 122, vI a0]) (hp' := hp) (fun _ => rfl) ?_
    refine Ex.icmp rfl ?_
    by_cases hc : 122 < a0
    · rw [if_pos hc] at h
      rw [brI_gt_p hc]
      show Ex (d + 0) kX10_isSmall 16 [some (vI a0)] [] hp _
      refine Ex.go 1 (pc' := 17) (ls' := [some (vI a0)]) (st' := [vI 0]) (hp' := hp) (fun _ => rfl) ?_
      cases h
      exact Ex.ret rfl rfl rfl
    · rw [if_neg hc] at h
      rw [brI_gt_n hc]
      show Ex (d + 0) kX10_isSmall 12 [some (vI a0)] [] hp _
      refine Ex.go 2 (pc' := 17) (ls' := [some (vI a0)]) (st' := [vI 1]) (hp' := hp) (fun _ => rfl) ?_
      cases h
      exact Ex.ret rfl rfl rfl
def fX10_isDigit (a0 : Int32) (hp : HP) : Option Int32 := if a0 < 48 then (some 0) else (if 57 < a0 then (some 0) else (some 1))
theorem exX10_isDigit {d : Nat} {a0 : Int32} {hp : HP} {v : Int32} (h : fX10_isDigit a0 hp = some v) : Calls (d + 0) 168 [vI a0] hp (rsI v hp) := by
  replace h : (if a0 < 48 then (some 0) else (if 57 < a0 then (some 0) else (some 1))) = some v := h
  show Ex (d + 0) kX10_isDigit 0 [some (vI a0)] [] hp _
  refine Ex.go 2 (pc' := 3) (ls' := [some (vI a0)]) (st' := [vI 48, vI a0]) (hp' := hp) (fun _ => rfl) ?_
  refine Ex.icmp rfl ?_
  by_cases hc : a0 < 48
  · rw [if_pos hc] at h
    rw [brI_lt_p hc]
    show Ex (d + 0) kX10_isDigit 16 [some (vI a0)] [] hp _
    refine Ex.go 1 (pc' := 17) (ls' := [some (vI a0)]) (st' := [vI 0]) (hp' := hp) (fun _ => rfl) ?_
    cases h
    exact Ex.ret rfl rfl rfl
  · rw [if_neg hc] at h
    rw [brI_lt_n hc]
    show Ex (d + 0) kX10_isDigit 6 [some (vI a0)] [] hp _
    refine Ex.go 2 (pc' := 9) (ls' := [some (vI a0)]) (st' := [vI 57, vI a0]) (hp' := hp) (fun _ => rfl) ?_
    refine Ex.icmp rfl ?_
    by_cases hc : 57 < a0
    · rw [if_pos hc] at h
      rw [brI_gt_p hc]
      show Ex (d + 0) kX10_isDigit 16 [some (vI a0)] [] hp _
      refine Ex.go 1 (pc' := 17) (ls' := [some (vI a0)]) (st' := [vI 0]) (hp' := hp) (fun _ => rfl) ?_
      cases h
      exact Ex.ret rfl rfl rfl
    · rw [if_neg hc] at h
      rw [brI_gt_n hc]
      show Ex (d + 0) kX10_isDigit 12 [some (vI a0)] [] hp _
      refine Ex.go 2 (pc' := 17) (ls' := [some (vI a0)]) (st' := [vI 1]) (hp' := hp) (fun _ => rfl) ?_
      cases h
      exact Ex.ret rfl rfl rfl
def fX10_token_110 (y1 : Int32) (hp : HP) : Option HP := some (up hp (10, 0, 0) 17 y1)
theorem exX10_token_110 {d : Nat} {y1 : Int32} {j1 : Option VL} {hp : HP} {v : HP} (h : fX10_token_110 y1 hp = some v) : Ex (d + 1) kX10_token 110 [some (vR (10, 0, 0)), j1] [vI y1, vR (10, 0, 0)] hp (rsV () v) := by
  replace h : (some (up hp (10, 0, 0) 17 y1)) = some v := h
  refine Ex.go 2 (pc' := 245) (ls' := [some (vR (10, 0, 0)), j1]) (st' := []) (hp' := (up hp (10, 0, 0) 17 y1)) (fun _ => rfl) ?_
  cases h
  exact Ex.ret rfl rfl rfl
def fX10_token_63 (n : Nat) (hp : HP) : Option HP := match n with
  | 0 => none
  | n + 1 => (fX10_seen (hp (10, 0, 0) 15) hp).bind fun v1 => (fX10_isSmall v1 hp).bind fun v2 => if v2 = 0 then (if 7 < ((hp (10, 0, 0) 15) - (hp (10, 0, 0) 16)) then (fX10_token_110 4 hp) else (fX10_token_110 1 hp)) else (fX10_token_63 n (up hp (10, 0, 0) 15 ((hp (10, 0, 0) 15) + 1)))
theorem exX10_token_63 {d : Nat} : ∀ (n : Nat) (j1 : Option VL) (hp : HP) (v : HP), fX10_token_63 n hp = some v → Ex (d + 1) kX10_token 63 [some (vR (10, 0, 0)), j1] [] hp (rsV () v) := by
  intro n
  induction n with
  | zero =>
    intro j1 hp v h
    cases h
  | succ n ih =>
    intro j1 hp v h
    replace h : ((fX10_seen (hp (10, 0, 0) 15) hp).bind fun v1 => (fX10_isSmall v1 hp).bind fun v2 => if v2 = 0 then (if 7 < ((hp (10, 0, 0) 15) - (hp (10, 0, 0) 16)) then (fX10_token_110 4 hp) else (fX10_token_110 1 hp)) else (fX10_token_63 n (up hp (10, 0, 0) 15 ((hp (10, 0, 0) 15) + 1)))) = some v := h
    refine Ex.go 3 (pc' := 68) (ls' := [some (vR (10, 0, 0)), j1]) (st' := [vI (hp (10, 0, 0) 15), vR (10, 0, 0)]) (hp' := hp) (fun _ => rfl) ?_
    obtain ⟨v1, hv, h⟩ := Option.bind_eq_some_iff.mp h
    refine Ex.call (args := [vR (10, 0, 0), vI (hp (10, 0, 0) 15)]) (rest := []) rfl rfl rfl (exX10_seen (d := d + 0) hv) ?_
    show Ex (d + 1) kX10_token 71 [some (vR (10, 0, 0)), j1] [vI v1] hp _
    obtain ⟨v2, hv, h⟩ := Option.bind_eq_some_iff.mp h
    refine Ex.call (args := [vI v1]) (rest := []) rfl rfl rfl (exX10_isSmall (d := d + 0) hv) ?_
    show Ex (d + 1) kX10_token 74 [some (vR (10, 0, 0)), j1] [vI v2] hp _
    refine Ex.ifc rfl ?_
    by_cases hc : v2 = 0
    · rw [if_pos hc] at h
      rw [brI_eq_p hc]
      show Ex (d + 1) kX10_token 90 [some (vR (10, 0, 0)), j1] [] hp _
      refine Ex.go 7 (pc' := 102) (ls' := [some (vR (10, 0, 0)), j1]) (st' := [vI 7, vI ((hp (10, 0, 0) 15) - (hp (10, 0, 0) 16)), vR (10, 0, 0)]) (hp' := hp) (fun _ => rfl) ?_
      refine Ex.icmp rfl ?_
      by_cases hc : 7 < ((hp (10, 0, 0) 15) - (hp (10, 0, 0) 16))
      · rw [if_pos hc] at h
        rw [brI_le_p hc]
        show Ex (d + 1) kX10_token 105 [some (vR (10, 0, 0)), j1] [vR (10, 0, 0)] hp _
        refine Ex.go 2 (pc' := 110) (ls' := [some (vR (10, 0, 0)), j1]) (st' := [vI 4, vR (10, 0, 0)]) (hp' := hp) (fun _ => rfl) ?_
        exact exX10_token_110 h
      · rw [if_neg hc] at h
        rw [brI_le_n hc]
        show Ex (d + 1) kX10_token 109 [some (vR (10, 0, 0)), j1] [vR (10, 0, 0)] hp _
        refine Ex.go 1 (pc' := 110) (ls' := [some (vR (10, 0, 0)), j1]) (st' := [vI 1, vR (10, 0, 0)]) (hp' := hp) (fun _ => rfl) ?_
        exact exX10_token_110 h
    · rw [if_neg hc] at h
      rw [brI_eq_n hc]
      show Ex (d + 1) kX10_token 77 [some (vR (10, 0, 0)), j1] [] hp _
      refine Ex.go 7 (pc' := 63) (ls' := [some (vR (10, 0, 0)), j1]) (st' := []) (hp' := (up hp (10, 0, 0) 15 ((hp (10, 0, 0) 15) + 1))) (fun _ => rfl) ?_
      exact ih _ _ _ h
def fX10_token_182 (k128 : HP → Option HP) (hp : HP) : Option HP := k128 (up hp (10, 0, 0) 15 ((hp (10, 0, 0) 15) + 1))
theorem exX10_token_182 {d : Nat} {j1 : Option VL} {hp : HP} {v : HP} {k128 : HP → Option HP} (hk128 : ∀ (j1 : Option VL) (hp : HP) (v : HP), k128 hp = some v → Ex (d + 1) kX10_token 128 [some (vR (10, 0, 0)), j1] [] hp (rsV () v)) (h : fX10_token_182 k128 hp = some v) : Ex (d + 1) kX10_token 182 [some (vR (10, 0, 0)), j1] [] hp (rsV () v) := by
  replace h : (k128 (up hp (10, 0, 0) 15 ((hp (10, 0, 0) 15) + 1))) = some v := h
  refine Ex.go 7 (pc' := 128) (ls' := [some (vR (10, 0, 0)), j1]) (st' := []) (hp' := (up hp (10, 0, 0) 15 ((hp (10, 0, 0) 15) + 1))) (fun _ => rfl) ?_
  exact hk128 _ _ _ h
def fX10_token_179 (y1 : Int32) (k128 : HP → Option HP) (hp : HP) : Option HP := fX10_token_182 k128 (up hp (10, 0, 0) 18 y1)
theorem exX10_token_179 {d : Nat} {y1 : Int32} {j1 : Option VL} {hp : HP} {v : HP} {k128 : HP → Option HP} (hk128 : ∀ (j1 : Option VL) (hp : HP) (v : HP), k128 hp = some v → Ex (d + 1) kX10_token 128 [some (vR (10, 0, 0)), j1] [] hp (rsV () v)) (h : fX10_token_179 y1 k128 hp = some v) : Ex (d + 1) kX10_token 179 [some (vR (10, 0, 0)), j1] [vI y1, vR (10, 0, 0)] hp (rsV () v) := by
  replace h : (fX10_token_182 k128 (up hp (10, 0, 0) 18 y1)) = some v := h
  refine Ex.go 1 (pc' := 182) (ls' := [some (vR (10, 0, 0)), j1]) (st' := []) (hp' := (up hp (10, 0, 0) 18 y1)) (fun _ => rfl) ?_
  exact exX10_token_182 hk128 h
def fX10_token_214 (y1 : Int32) (hp : HP) : Option HP := some (up hp (10, 0, 0) 17 y1)
theorem exX10_token_214 {d : Nat} {y1 : Int32} {j1 : Option VL} {hp : HP} {v : HP} (h : fX10_token_214 y1 hp = some v) : Ex (d + 1) kX10_token 214 [some (vR (10, 0, 0)), j1] [vI y1, vR (10, 0, 0)] hp (rsV () v) := by
  replace h : (some (up hp (10, 0, 0) 17 y1)) = some v := h
  refine Ex.go 2 (pc' := 245) (ls' := [some (vR (10, 0, 0)), j1]) (st' := []) (hp' := (up hp (10, 0, 0) 17 y1)) (fun _ => rfl) ?_
  cases h
  exact Ex.ret rfl rfl rfl
def fX10_token_128 (n : Nat) (hp : HP) : Option HP := match n with
  | 0 => none
  | n + 1 => (fX10_seen (hp (10, 0, 0) 15) hp).bind fun v3 => (fX10_isDigit v3 hp).bind fun v4 => if v4 = 0 then (if 3 < ((hp (10, 0, 0) 15) - (hp (10, 0, 0) 16)) then (fX10_token_214 4 hp) else (fX10_token_214 2 hp)) else (if ((hp (10, 0, 0) 15) - (hp (10, 0, 0) 16)) < 3 then ((fX10_seen (hp (10, 0, 0) 15) hp).bind fun v5 => fX10_token_179 (((10 * (hp (10, 0, 0) 18)) + v5) - 48) (fun hq => fX10_token_128 n hq) hp) else (fX10_token_179 0 (fun hq => fX10_token_128 n hq) hp))
theorem exX10_token_128 {d : Nat} : ∀ (n : Nat) (j1 : Option VL) (hp : HP) (v : HP), fX10_token_128 n hp = some v → Ex (d + 1) kX10_token 128 [some (vR (10, 0, 0)), j1] [] hp (rsV () v) := by
  intro n
  induction n with
  | zero =>
    intro j1 hp v h
    cases h
  | succ n ih =>
    intro j1 hp v h
    replace h : ((fX10_seen (hp (10, 0, 0) 15) hp).bind fun v3 => (fX10_isDigit v3 hp).bind fun v4 => if v4 = 0 then (if 3 < ((hp (10, 0, 0) 15) - (hp (10, 0, 0) 16)) then (fX10_token_214 4 hp) else (fX10_token_214 2 hp)) else (if ((hp (10, 0, 0) 15) - (hp (10, 0, 0) 16)) < 3 then ((fX10_seen (hp (10, 0, 0) 15) hp).bind fun v5 => fX10_token_179 (((10 * (hp (10, 0, 0) 18)) + v5) - 48) (fun hq => fX10_token_128 n hq) hp) else (fX10_token_179 0 (fun hq => fX10_token_128 n hq) hp))) = some v := h
    refine Ex.go 3 (pc' := 133) (ls' := [some (vR (10, 0, 0)), j1]) (st' := [vI (hp (10, 0, 0) 15), vR (10, 0, 0)]) (hp' := hp) (fun _ => rfl) ?_
    obtain ⟨v3, hv, h⟩ := Option.bind_eq_some_iff.mp h
    refine Ex.call (args := [vR (10, 0, 0), vI (hp (10, 0, 0) 15)]) (rest := []) rfl rfl rfl (exX10_seen (d := d + 0) hv) ?_
    show Ex (d + 1) kX10_token 136 [some (vR (10, 0, 0)), j1] [vI v3] hp _
    obtain ⟨v4, hv, h⟩ := Option.bind_eq_some_iff.mp h
    refine Ex.call (args := [vI v3]) (rest := []) rfl rfl rfl (exX10_isDigit (d := d + 0) hv) ?_
    show Ex (d + 1) kX10_token 139 [some (vR (10, 0, 0)), j1] [vI v4] hp _
    refine Ex.ifc rfl ?_
    by_cases hc : v4 = 0
    · rw [if_pos hc] at h
      rw [brI_eq_p hc]
      show Ex (d + 1) kX10_token 195 [some (vR (10, 0, 0)), j1] [] hp _
      refine Ex.go 7 (pc' := 206) (ls' := [some (vR (10, 0, 0)), j1]) (st' := [vI 3, vI ((hp (10, 0, 0) 15) - (hp (10, 0, 0) 16)), vR (10, 0, 0)]) (hp' := hp) (fun _ => rfl) ?_
      refine Ex.icmp rfl ?_
      by_cases hc : 3 < ((hp (10, 0, 0) 15) - (hp (10, 0, 0) 16))
      · rw [if_pos hc] at h
        rw [brI_le_p hc]
        show Ex (d + 1) kX10_token 209 [some (vR (10, 0, 0)), j1] [vR (10, 0, 0)] hp _
        refine Ex.go 2 (pc' := 214) (ls' := [some (vR (10, 0, 0)), j1]) (st' := [vI 4, vR (10, 0, 0)]) (hp' := hp) (fun _ => rfl) ?_
        exact exX10_token_214 h
      · rw [if_neg hc] at h
        rw [brI_le_n hc]
        show Ex (d + 1) kX10_token 213 [some (vR (10, 0, 0)), j1] [vR (10, 0, 0)] hp _
        refine Ex.go 1 (pc' := 214) (ls' := [some (vR (10, 0, 0)), j1]) (st' := [vI 2, vR (10, 0, 0)]) (hp' := hp) (fun _ => rfl) ?_
        exact exX10_token_214 h
    · rw [if_neg hc] at h
      rw [brI_eq_n hc]
      show Ex (d + 1) kX10_token 142 [some (vR (10, 0, 0)), j1] [] hp _
      refine Ex.go 7 (pc' := 153) (ls' := [some (vR (10, 0, 0)), j1]) (st' := [vI 3, vI ((hp (10, 0, 0) 15) - (hp (10, 0, 0) 16)), vR (10, 0, 0)]) (hp' := hp) (fun _ => rfl) ?_
      refine Ex.icmp rfl ?_
      by_cases hc : ((hp (10, 0, 0) 15) - (hp (10, 0, 0) 16)) < 3
      · rw [if_pos hc] at h
        rw [brI_ge_p hc]
        show Ex (d + 1) kX10_token 156 [some (vR (10, 0, 0)), j1] [vR (10, 0, 0)] hp _
        refine Ex.go 7 (pc' := 168) (ls' := [some (vR (10, 0, 0)), j1]) (st' := [vI (hp (10, 0, 0) 15), vR (10, 0, 0), vI (10 * (hp (10, 0, 0) 18)), vR (10, 0, 0)]) (hp' := hp) (fun _ => rfl) ?_
        obtain ⟨v5, hv, h⟩ := Option.bind_eq_some_iff.mp h
        refine Ex.call (args := [vR (10, 0, 0), vI (hp (10, 0, 0) 15)]) (rest := [vI (10 * (hp (10, 0, 0) 18)), vR (10, 0, 0)]) rfl rfl rfl (exX10_seen (d := d + 0) hv) ?_
        show Ex (d + 1) kX10_token 171 [some (vR (10, 0, 0)), j1] [vI v5, vI (10 * (hp (10, 0, 0) 18)), vR (10, 0, 0)] hp _
        refine Ex.go 4 (pc' := 179) (ls' := [some (vR (10, 0, 0)), j1]) (st' := [vI (((10 * (hp (10, 0, 0) 18)) + v5) - 48), vR (10, 0, 0)]) (hp' := hp) (fun _ => rfl) ?_
        exact exX10_token_179 (fun q0 q1 q2 hv => ih q0 q1 q2 hv) h
      · rw [if_neg hc] at h
        rw [brI_ge_n hc]
        show Ex (d + 1) kX10_token 178 [some (vR (10, 0, 0)), j1] [vR (10, 0, 0)] hp _
        refine Ex.go 1 (pc' := 179) (ls' := [some (vR (10, 0, 0)), j1]) (st' := [vI 0, vR (10, 0, 0)]) (hp' := hp) (fun _ => rfl) ?_
        exact exX10_token_179 (fun q0 q1 q2 hv => ih q0 q1 q2 hv) h
def fX10_token_235 (hp : HP) : Option HP := some (up hp (10, 0, 0) 15 ((hp (10, 0, 0) 15) + 1))
theorem exX10_token_235 {d : Nat} {j1 : Option VL} {hp : HP} {v : HP} (h : fX10_token_235 hp = some v) : Ex (d + 1) kX10_token 235 [some (vR (10, 0, 0)), j1] [] hp (rsV () v) := by
  replace h : (some (up hp (10, 0, 0) 15 ((hp (10, 0, 0) 15) + 1))) = some v := h
  refine Ex.go 6 (pc' := 245) (ls' := [some (vR (10, 0, 0)), j1]) (st' := []) (hp' := (up hp (10, 0, 0) 15 ((hp (10, 0, 0) 15) + 1))) (fun _ => rfl) ?_
  cases h
  exact Ex.ret rfl rfl rfl
def fX10_token_232 (y1 : Int32) (hp : HP) : Option HP := fX10_token_235 (up hp (10, 0, 0) 17 y1)
theorem exX10_token_232 {d : Nat} {y1 : Int32} {j1 : Option VL} {hp : HP} {v : HP} (h : fX10_token_232 y1 hp = some v) : Ex (d + 1) kX10_token 232 [some (vR (10, 0, 0)), j1] [vI y1, vR (10, 0, 0)] hp (rsV () v) := by
  replace h : (fX10_token_235 (up hp (10, 0, 0) 17 y1)) = some v := h
  refine Ex.go 1 (pc' := 235) (ls' := [some (vR (10, 0, 0)), j1]) (st' := []) (hp' := (up hp (10, 0, 0) 17 y1)) (fun _ => rfl) ?_
  exact exX10_token_235 h
def fX10_token_34 (hp : HP) : Option HP := (fX10_seen (hp (10, 0, 0) 15) hp).bind fun v6 => if v6 = m1 then (some (up hp (10, 0, 0) 17 0)) else ((fX10_isSmall v6 hp).bind fun v7 => if v7 = 0 then ((fX10_isDigit v6 hp).bind fun v8 => if v8 = 0 then (if v6 = 59 then (fX10_token_232 3 hp) else (fX10_token_232 4 hp)) else (fX10_token_128 FU (up hp (10, 0, 0) 18 0))) else (fX10_token_63 FU hp))
theorem exX10_token_34 {d : Nat} {j1 : Option VL} {hp : HP} {v : HP} (h : fX10_token_34 hp = some v) : Ex (d + 1) kX10_token 34 [some (vR (10, 0, 0)), j1] [] hp (rsV () v) := by
  replace h : ((fX10_seen (hp (10, 0, 0) 15) hp).bind fun v6 => if v6 = m1 then (some (up hp (10, 0, 0) 17 0)) else ((fX10_isSmall v6 hp).bind fun v7 => if v7 = 0 then ((fX10_isDigit v6 hp).bind fun v8 => if v8 = 0 then (if v6 = 59 then (fX10_token_232 3 hp) else (fX10_token_232 4 hp)) else (fX10_token_128 FU (up hp (10, 0, 0) 18 0))) else (fX10_token_63 FU hp))) = some v := h
  refine Ex.go 3 (pc' := 39) (ls' := [some (vR (10, 0, 0)), j1]) (st' := [vI (hp (10, 0, 0) 15), vR (10, 0, 0)]) (hp' := hp) (fun _ => rfl) ?_
  obtain ⟨v6, hv, h⟩ := Option.bind_eq_some_iff.mp h
  refine Ex.call (args := [vR (10, 0, 0), vI (hp (10, 0, 0) 15)]) (rest := []) rfl rfl rfl (exX10_seen (d := d + 0) hv) ?_
  show Ex (d + 1) kX10_token 42 [some (vR (10, 0, 0)), j1] [vI v6] hp _
  refine Ex.go 3 (pc' := 45) (ls' := [some (vR (10, 0, 0)), some (vI v6)]) (st' := [vI m1, vI v6]) (hp' := hp) (fun _ => rfl) ?_
  refine Ex.icmp rfl ?_
  by_cases hc : v6 = m1
  · rw [if_pos hc] at h
    rw [brI_ne_p hc]
    show Ex (d + 1) kX10_token 48 [some (vR (10, 0, 0)), some (vI v6)] [] hp _
    refine Ex.go 4 (pc' := 245) (ls' := [some (vR (10, 0, 0)), some (vI v6)]) (st' := []) (hp' := (up hp (10, 0, 0) 17 0)) (fun _ => rfl) ?_
    cases h
    exact Ex.ret rfl rfl rfl
  · rw [if_neg hc] at h
    rw [brI_ne_n hc]
    show Ex (d + 1) kX10_token 56 [some (vR (10, 0, 0)), some (vI v6)] [] hp _
    refine Ex.go 1 (pc' := 57) (ls' := [some (vR (10, 0, 0)), some (vI v6)]) (st' := [vI v6]) (hp' := hp) (fun _ => rfl) ?_
    obtain ⟨v7, hv, h⟩ := Option.bind_eq_some_iff.mp h
    refine Ex.call (args := [vI v6]) (rest := []) rfl rfl rfl (exX10_isSmall (d := d + 0) hv) ?_
    show Ex (d + 1) kX10_token 60 [some (vR (10, 0, 0)), some (vI v6)] [vI v7] hp _
    refine Ex.ifc rfl ?_
    by_cases hc : v7 = 0
    · rw [if_pos hc] at h
      rw [brI_eq_p hc]
      show Ex (d + 1) kX10_token 116 [some (vR (10, 0, 0)), some (vI v6)] [] hp _
      refine Ex.go 1 (pc' := 117) (ls' := [some (vR (10, 0, 0)), some (vI v6)]) (st' := [vI v6]) (hp' := hp) (fun _ => rfl) ?_
      obtain ⟨v8, hv, h⟩ := Option.bind_eq_some_iff.mp h
      refine Ex.call (args := [vI v6]) (rest := []) rfl rfl rfl (exX10_isDigit (d := d + 0) hv) ?_
      show Ex (d + 1) kX10_token 120 [some (vR (10, 0, 0)), some (vI v6)] [vI v8] hp _
      refine Ex.ifc rfl ?_
      by_cases hc : v8 = 0
      · rw [if_pos hc] at h
        rw [brI_eq_p hc]
        show Ex (d + 1) kX10_token 220 [some (vR (10, 0, 0)), some (vI v6)] [] hp _
        refine Ex.go 3 (pc' := 224) (ls' := [some (vR (10, 0, 0)), some (vI v6)]) (st' := [vI 59, vI v6, vR (10, 0, 0)]) (hp' := hp) (fun _ => rfl) ?_
        refine Ex.icmp rfl ?_
        by_cases hc : v6 = 59
        · rw [if_pos hc] at h
          rw [brI_ne_p hc]
          show Ex (d + 1) kX10_token 227 [some (vR (10, 0, 0)), some (vI v6)] [vR (10, 0, 0)] hp _
          refine Ex.go 2 (pc' := 232) (ls' := [some (vR (10, 0, 0)), some (vI v6)]) (st' := [vI 3, vR (10, 0, 0)]) (hp' := hp) (fun _ => rfl) ?_
          exact exX10_token_232 h
        · rw [if_neg hc] at h
          rw [brI_ne_n hc]
          show Ex (d + 1) kX10_token 231 [some (vR (10, 0, 0)), some (vI v6)] [vR (10, 0, 0)] hp _
          refine Ex.go 1 (pc' := 232) (ls' := [some (vR (10, 0, 0)), some (vI v6)]) (st' := [vI 4, vR (10, 0, 0)]) (hp' := hp) (fun _ => rfl) ?_
          exact exX10_token_232 h
      · rw [if_neg hc] at h
        rw [brI_eq_n hc]
        show Ex (d + 1) kX10_token 123 [some (vR (10, 0, 0)), some (vI v6)] [] hp _
        refine Ex.go 3 (pc' := 128) (ls' := [some (vR (10, 0, 0)), some (vI v6)]) (st' := []) (hp' := (up hp (10, 0, 0) 18 0)) (fun _ => rfl) ?_
        exact exX10_token_128 FU _ _ _ h
    · rw [if_neg hc] at h
      rw [brI_eq_n hc]
      show Ex (d + 1) kX10_token 63 [some (vR (10, 0, 0)), some (vI v6)] [] hp _
      exact exX10_token_63 FU _ _ _ h
def fX10_token_0 (n : Nat) (hp : HP) : Option HP := match n with
  | 0 => none
  | n + 1 => (fX10_seen (hp (10, 0, 0) 15) hp).bind fun v9 => if v9 = 32 then (fX10_token_0 n (up hp (10, 0, 0) 15 ((hp (10, 0, 0) 15) + 1))) else (fX10_token_34 (up hp (10, 0, 0) 16 (hp (10, 0, 0) 15)))
theorem exX10_token_0 {d : Nat} : ∀ (n : Nat) (j1 : Option VL) (hp : HP) (v : HP), fX10_token_0 n hp = some v → Ex (d + 1) kX10_token 0 [some (vR (10, 0, 0)), j1] [] hp (rsV () v) := by
  intro n
  induction n with
  | zero =>
    intro j1 hp v h
    cases h
  | succ n ih =>
    intro j1 hp v h
    replace h : ((fX10_seen (hp (10, 0, 0) 15) hp).bind fun v9 => if v9 = 32 then (fX10_token_0 n (up hp (10, 0, 0) 15 ((hp (10, 0, 0) 15) + 1))) else (fX10_token_34 (up hp (10, 0, 0) 16 (hp (10, 0, 0) 15)))) = some v := h
    refine Ex.go 3 (pc' := 5) (ls' := [some (vR (10, 0, 0)), j1]) (st' := [vI (hp (10, 0, 0) 15), vR (10, 0, 0)]) (hp' := hp) (fun _ => rfl) ?_
    obtain ⟨v9, hv, h⟩ := Option.bind_eq_some_iff.mp h
    refine Ex.call (args := [vR (10, 0, 0), vI (hp (10, 0, 0) 15)]) (rest := []) rfl rfl rfl (exX10_seen (d := d + 0) hv) ?_
    show Ex (d + 1) kX10_token 8 [some (vR (10, 0, 0)), j1] [vI v9] hp _
    refine Ex.go 1 (pc' := 10) (ls' := [some (vR (10, 0, 0)), j1]) (st' := [vI 32, vI v9]) (hp' := hp) (fun _ => rfl) ?_
    refine Ex.icmp rfl ?_
    by_cases hc : v9 = 32
    · rw [if_pos hc] at h
      rw [brI_ne_p hc]
      show Ex (d + 1) kX10_token 13 [some (vR (10, 0, 0)), j1] [] hp _
      refine Ex.go 7 (pc' := 0) (ls' := [some (vR (10, 0, 0)), j1]) (st' := []) (hp' := (up hp (10, 0, 0) 15 ((hp (10, 0, 0) 15) + 1))) (fun _ => rfl) ?_
      exact ih _ _ _ h
    · rw [if_neg hc] at h
      rw [brI_ne_n hc]
      show Ex (d + 1) kX10_token 26 [some (vR (10, 0, 0)), j1] [] hp _
      refine Ex.go 4 (pc' := 34) (ls' := [some (vR (10, 0, 0)), j1]) (st' := []) (hp' := (up hp (10, 0, 0) 16 (hp (10, 0, 0) 15))) (fun _ => rfl) ?_
      exact exX10_token_34 h
def fX10_token (hp : HP) : Option HP := fX10_token_0 FU hp
theorem exX10_token {d : Nat} {hp : HP} {v : HP} (h : fX10_token hp = some v) : Calls (d + 1) 169 [vR (10, 0, 0)] hp (rsV () v) := by
  replace h : (fX10_token_0 FU hp) = some v := h
  show Ex (d + 1) kX10_token 0 [some (vR (10, 0, 0)), none] [] hp _
  exact exX10_token_0 FU _ _ _ h
def fX10_fails_12 (hp : HP) : Option HP := some (up hp (10, 0, 0) 20 (hp (10, 0, 0) 16))
theorem exX10_fails_12 {d : Nat} {j1 : Option VL} {hp : HP} {v : HP} (h : fX10_fails_12 hp = some v) : Ex (d + 0) kX10_fails 12 [some (vR (10, 0, 0)), j1] [] hp (rsV () v) := by
  replace h : (some (up hp (10, 0, 0) 20 (hp (10, 0, 0) 16))) = some v := h
  refine Ex.go 4 (pc' := 20) (ls' := [some (vR (10, 0, 0)), j1]) (st' := []) (hp' := (up hp (10, 0, 0) 20 (hp (10, 0, 0) 16))) (fun _ => rfl) ?_
  cases h
  exact Ex.ret rfl rfl rfl
def fX10_fails (a0 : Int32) (hp : HP) : Option HP := if (hp (10, 0, 0) 19) = 0 then (fX10_fails_12 (up hp (10, 0, 0) 19 a0)) else (some hp)
theorem exX10_fails {d : Nat} {a0 : Int32} {hp : HP} {v : HP} (h : fX10_fails a0 hp = some v) : Calls (d + 0) 170 [vR (10, 0, 0), vI a0] hp (rsV () v) := by
  replace h : (if (hp (10, 0, 0) 19) = 0 then (fX10_fails_12 (up hp (10, 0, 0) 19 a0)) else (some hp)) = some v := h
  show Ex (d + 0) kX10_fails 0 [some (vR (10, 0, 0)), some (vI a0)] [] hp _
  refine Ex.go 2 (pc' := 4) (ls' := [some (vR (10, 0, 0)), some (vI a0)]) (st' := [vI (hp (10, 0, 0) 19)]) (hp' := hp) (fun _ => rfl) ?_
  refine Ex.ifc rfl ?_
  by_cases hc : (hp (10, 0, 0) 19) = 0
  · rw [if_pos hc] at h
    rw [brI_ne_p hc]
    show Ex (d + 0) kX10_fails 7 [some (vR (10, 0, 0)), some (vI a0)] [] hp _
    refine Ex.go 3 (pc' := 12) (ls' := [some (vR (10, 0, 0)), some (vI a0)]) (st' := []) (hp' := (up hp (10, 0, 0) 19 a0)) (fun _ => rfl) ?_
    exact exX10_fails_12 h
  · rw [if_neg hc] at h
    rw [brI_ne_n hc]
    show Ex (d + 0) kX10_fails 20 [some (vR (10, 0, 0)), some (vI a0)] [] hp _
    cases h
    exact Ex.ret rfl rfl rfl
def fX10_failsIf (a0 : Int32) (a1 : Int32) (hp : HP) : Option HP := if a0 = 0 then (some hp) else ((fX10_fails a1 hp).bind fun hp3 => some hp3)
theorem exX10_failsIf {d : Nat} {a0 : Int32} {a1 : Int32} {hp : HP} {v : HP} (h : fX10_failsIf a0 a1 hp = some v) : Calls (d + 1) 171 [vR (10, 0, 0), vI a0, vI a1] hp (rsV () v) := by
  replace h : (if a0 = 0 then (some hp) else ((fX10_fails a1 hp).bind fun hp3 => some hp3)) = some v := h
  show Ex (d + 1) kX10_failsIf 0 [some (vR (10, 0, 0)), some (vI a0), some (vI a1)] [] hp _
  refine Ex.go 1 (pc' := 1) (ls' := [some (vR (10, 0, 0)), some (vI a0), some (vI a1)]) (st' := [vI a0]) (hp' := hp) (fun _ => rfl) ?_
  refine Ex.ifc rfl ?_
  by_cases hc : a0 = 0
  · rw [if_pos hc] at h
    rw [brI_eq_p hc]
    show Ex (d + 1) kX10_failsIf 9 [some (vR (10, 0, 0)), some (vI a0), some (vI a1)] [] hp _
    cases h
    exact Ex.ret rfl rfl rfl
  · rw [if_neg hc] at h
    rw [brI_eq_n hc]
    show Ex (d + 1) kX10_failsIf 4 [some (vR (10, 0, 0)), some (vI a0), some (vI a1)] [] hp _
    refine Ex.go 2 (pc' := 6) (ls' := [some (vR (10, 0, 0)), some (vI a0), some (vI a1)]) (st' := [vI a1, vR (10, 0, 0)]) (hp' := hp) (fun _ => rfl) ?_
    obtain ⟨hp3, hv, h⟩ := Option.bind_eq_some_iff.mp h
    refine Ex.call (args := [vR (10, 0, 0), vI a1]) (rest := []) rfl rfl rfl (exX10_fails (d := d + 0) hv) ?_
    show Ex (d + 1) kX10_failsIf 9 [some (vR (10, 0, 0)), some (vI a0), some (vI a1)] [] hp3 _
    cases h
    exact Ex.ret rfl rfl rfl
def fX10_goesOn (hp : HP) : Option HP := if (hp (10, 0, 0) 19) = 0 then ((fX10_token hp).bind fun hp3 => some hp3) else (some hp)
theorem exX10_goesOn {d : Nat} {hp : HP} {v : HP} (h : fX10_goesOn hp = some v) : Calls (d + 2) 172 [vR (10, 0, 0)] hp (rsV () v) := by
  replace h : (if (hp (10, 0, 0) 19) = 0 then ((fX10_token hp).bind fun hp3 => some hp3) else (some hp)) = some v := h
  show Ex (d + 2) kX10_goesOn 0 [some (vR (10, 0, 0))] [] hp _
  refine Ex.go 2 (pc' := 4) (ls' := [some (vR (10, 0, 0))]) (st' := [vI (hp (10, 0, 0) 19)]) (hp' := hp) (fun _ => rfl) ?_
  refine Ex.ifc rfl ?_
  by_cases hc : (hp (10, 0, 0) 19) = 0
  · rw [if_pos hc] at h
    rw [brI_ne_p hc]
    show Ex (d + 2) kX10_goesOn 7 [some (vR (10, 0, 0))] [] hp _
    refine Ex.go 1 (pc' := 8) (ls' := [some (vR (10, 0, 0))]) (st' := [vR (10, 0, 0)]) (hp' := hp) (fun _ => rfl) ?_
    obtain ⟨hp3, hv, h⟩ := Option.bind_eq_some_iff.mp h
    refine Ex.call (args := [vR (10, 0, 0)]) (rest := []) rfl rfl rfl (exX10_token (d := d + 0) hv) ?_
    show Ex (d + 2) kX10_goesOn 11 [some (vR (10, 0, 0))] [] hp3 _
    cases h
    exact Ex.ret rfl rfl rfl
  · rw [if_neg hc] at h
    rw [brI_ne_n hc]
    show Ex (d + 2) kX10_goesOn 11 [some (vR (10, 0, 0))] [] hp _
    cases h
    exact Ex.ret rfl rfl rfl
def fX10_isWord_35 (n : Nat) (wr1 : Nat) (x2 : Int32) (hp : HP) : Option Int32 := match n with
  | 0 => none
  | n + 1 => if x2 < (nI (txt wr1).length) then ((fX10_seen ((hp (10, 0, 0) 16) + x2) hp).bind fun v1 => if inb x2 (txt wr1).length = true then (if v1 = ((txt wr1).getD x2.toNatClampNeg 0) then (fX10_isWord_35 n wr1 (x2 + 1) hp) else (some 0)) else none) else (some 1)
theorem exX10_isWord_35 {d : Nat} : ∀ (n : Nat) (wr1 : Nat) (x2 : Int32) (hp : HP) (v : Int32), fX10_isWord_35 n wr1 x2 hp = some v → Ex (d + 5) kX10_isWord 35 [some (vR (10, 0, 0)), some (vR (20, wr1, 0)), some (vI x2)] [] hp (rsI v hp) := by
  intro n
  induction n with
  | zero =>
    intro wr1 x2 hp v h
    cases h
  | succ n ih =>
    intro wr1 x2 hp v h
    replace h : (if x2 < (nI (txt wr1).length) then ((fX10_seen ((hp (10, 0, 0) 16) + x2) hp).bind fun v1 => if inb x2 (txt wr1).length = true then (if v1 = ((txt wr1).getD x2.toNatClampNeg 0) then (fX10_isWord_35 n wr1 (x2 + 1) hp) else (some 0)) else none) else (some 1)) = some v := h
    refine Ex.go 3 (pc' := 40) (ls' := [some (vR (10, 0, 0)), some (vR (20, wr1, 0)), some (vI x2)]) (st' := [vI (nI (txt wr1).length), vI x2]) (hp' := hp) (fun _ => rfl) ?_
    refine Ex.icmp rfl ?_
    by_cases hc : x2 < (nI (txt wr1).length)
    · rw [if_pos hc] at h
      rw [brI_ge_p hc]
      show Ex (d + 5) kX10_isWord 43 [some (vR (10, 0, 0)), some (vR (20, wr1, 0)), some (vI x2)] [] hp _
      refine Ex.go 5 (pc' := 50) (ls' := [some (vR (10, 0, 0)), some (vR (20, wr1, 0)), some (vI x2)]) (st' := [vI ((hp (10, 0, 0) 16) + x2), vR (10, 0, 0)]) (hp' := hp) (fun _ => rfl) ?_
      obtain ⟨v1, hv, h⟩ := Option.bind_eq_some_iff.mp h
      refine Ex.call (args := [vR (10, 0, 0), vI ((hp (10, 0, 0) 16) + x2)]) (rest := []) rfl rfl rfl (exX10_seen (d := d + 4) hv) ?_
      show Ex (d + 5) kX10_isWord 53 [some (vR (10, 0, 0)), some (vR (20, wr1, 0)), some (vI x2)] [vI v1] hp _
      refine Ex.go 2 (pc' := 55) (ls' := [some (vR (10, 0, 0)), some (vR (20, wr1, 0)), some (vI x2)]) (st' := [vI x2, vR (20, wr1, 0), vI v1]) (hp' := hp) (fun _ => rfl) ?_
      by_cases hc : inb x2 (txt wr1).length = true
      · rw [if_pos hc] at h
        refine Ex.chr rfl rfl hc ?_
        show Ex (d + 5) kX10_isWord 58 [some (vR (10, 0, 0)), some (vR (20, wr1, 0)), some (vI x2)] [vI ((txt wr1).getD x2.toNatClampNeg 0), vI v1] hp _
        refine Ex.icmp rfl ?_
        by_cases hc : v1 = ((txt wr1).getD x2.toNatClampNeg 0)
        · rw [if_pos hc] at h
          rw [brI_eq_p hc]
          show Ex (d + 5) kX10_isWord 63 [some (vR (10, 0, 0)), some (vR (20, wr1, 0)), some (vI x2)] [] hp _
          refine Ex.go 2 (pc' := 35) (ls' := [some (vR (10, 0, 0)), some (vR (20, wr1, 0)), some (vI (x2 + 1))]) (st' := []) (hp' := hp) (fun _ => rfl) ?_
          exact ih _ _ _ _ h
        · rw [if_neg hc] at h
          rw [brI_eq_n hc]
          show Ex (d + 5) kX10_isWord 61 [some (vR (10, 0, 0)), some (vR (20, wr1, 0)), some (vI x2)] [] hp _
          refine Ex.go 1 (pc' := 62) (ls' := [some (vR (10, 0, 0)), some (vR (20, wr1, 0)), some (vI x2)]) (st' := [vI 0]) (hp' := hp) (fun _ => rfl) ?_
          cases h
          exact Ex.ret rfl rfl rfl
      · rw [if_neg hc] at h
        cases h
    · rw [if_neg hc] at h
      rw [brI_ge_n hc]
      show Ex (d + 5) kX10_isWord 69 [some (vR (10, 0, 0)), some (vR (20, wr1, 0)), some (vI x2)] [] hp _
      refine Ex.go 1 (pc' := 70) (ls' := [some (vR (10, 0, 0)), some (vR (20, wr1, 0)), some (vI x2)]) (st' := [vI 1]) (hp' := hp) (fun _ => rfl) ?_
      cases h
      exact Ex.ret rfl rfl rfl
def fX10_isWord (wr0 : Nat) (hp : HP) : Option Int32 := if (hp (10, 0, 0) 19) = 0 then (if (hp (10, 0, 0) 17) = 1 then (if ((hp (10, 0, 0) 15) - (hp (10, 0, 0) 16)) = (nI (txt wr0).length) then (fX10_isWord_35 FU wr0 0 hp) else (some 0)) else (some 0)) else (some 0)
theorem exX10_isWord {d : Nat} {wr0 : Nat} {hp : HP} {v : Int32} (h : fX10_isWord wr0 hp = some v) : Calls (d + 5) 173 [vR (10, 0, 0), vR (20, wr0, 0)] hp (rsI v hp) := by
  replace h : (if (hp (10, 0, 0) 19) = 0 then (if (hp (10, 0, 0) 17) = 1 then (if ((hp (10, 0, 0) 15) - (hp (10, 0, 0) 16)) = (nI (txt wr0).length) then (fX10_isWord_35 FU wr0 0 hp) else (some 0)) else (some 0)) else (some 0)) = some v := h
  show Ex (d + 5) kX10_isWord 0 [some (vR (10, 0, 0)), some (vR (20, wr0, 0)), none] [] hp _
  refine Ex.go 2 (pc' := 4) (ls' := [some (vR (10, 0, 0)), some (vR (20, wr0, 0)), none]) (st' := [vI (hp (10, 0, 0) 19)]) (hp' := hp) (fun _ => rfl) ?_
  refine Ex.ifc rfl ?_
  by_cases hc : (hp (10, 0, 0) 19) = 0
  · rw [if_pos hc] at h
    rw [brI_ne_p hc]
    show Ex (d + 5) kX10_isWord 7 [some (vR (10, 0, 0)), some (vR (20, wr0, 0)), none] [] hp _
    refine Ex.go 3 (pc' := 12) (ls' := [some (vR (10, 0, 0)), some (vR (20, wr0, 0)), none]) (st' := [vI 1, vI (hp (10, 0, 0) 17)]) (hp' := hp) (fun _ => rfl) ?_
    refine Ex.icmp rfl ?_
    by_cases hc : (hp (10, 0, 0) 17) = 1
    · rw [if_pos hc] at h
      rw [brI_ne_p hc]
      show Ex (d + 5) kX10_isWord 15 [some (vR (10, 0, 0)), some (vR (20, wr0, 0)), none] [] hp _
      refine Ex.go 7 (pc' := 28) (ls' := [some (vR (10, 0, 0)), some (vR (20, wr0, 0)), none]) (st' := [vI (nI (txt wr0).length), vI ((hp (10, 0, 0) 15) - (hp (10, 0, 0) 16))]) (hp' := hp) (fun _ => rfl) ?_
      refine Ex.icmp rfl ?_
      by_cases hc : ((hp (10, 0, 0) 15) - (hp (10, 0, 0) 16)) = (nI (txt wr0).length)
      · rw [if_pos hc] at h
        rw [brI_eq_p hc]
        show Ex (d + 5) kX10_isWord 33 [some (vR (10, 0, 0)), some (vR (20, wr0, 0)), none] [] hp _
        refine Ex.go 2 (pc' := 35) (ls' := [some (vR (10, 0, 0)), some (vR (20, wr0, 0)), some (vI 0)]) (st' := []) (hp' := hp) (fun _ => rfl) ?_
        exact exX10_isWord_35 FU _ _ _ _ h
      · rw [if_neg hc] at h
        rw [brI_eq_n hc]
        show Ex (d + 5) kX10_isWord 31 [some (vR (10, 0, 0)), some (vR (20, wr0, 0)), none] [] hp _
        refine Ex.go 1 (pc' := 32) (ls' := [some (vR (10, 0, 0)), some (vR (20, wr0, 0)), none]) (st' := [vI 0]) (hp' := hp) (fun _ => rfl) ?_
        cases h
        exact Ex.ret rfl rfl rfl
    · rw [if_neg hc] at h
      rw [brI_ne_n hc]
      show Ex (d + 5) kX10_isWord 31 [some (vR (10, 0, 0)), some (vR (20, wr0, 0)), none] [] hp _
      refine Ex.go 1 (pc' := 32) (ls' := [some (vR (10, 0, 0)), some (vR (20, wr0, 0)), none]) (st' := [vI 0]) (hp' := hp) (fun _ => rfl) ?_
      cases h
      exact Ex.ret rfl rfl rfl
  · rw [if_neg hc] at h
    rw [brI_ne_n hc]
    show Ex (d + 5) kX10_isWord 31 [some (vR (10, 0, 0)), some (vR (20, wr0, 0)), none] [] hp _
    refine Ex.go 1 (pc' := 32) (ls' := [some (vR (10, 0, 0)), some (vR (20, wr0, 0)), none]) (st' := [vI 0]) (hp' := hp) (fun _ => rfl) ?_
    cases h
    exact Ex.ret rfl rfl rfl
def fX10_word_14 (y1 : Int32) (hp : HP) : Option HP := (fX10_failsIf y1 1 hp).bind fun hp3 => (fX10_goesOn hp3).bind fun hp6 => some hp6
theorem exX10_word_14 {d : Nat} {y1 : Int32} {j1 : Option VL} {hp : HP} {v : HP} (h : fX10_word_14 y1 hp = some v) : Ex (d + 6) kX10_word 14 [some (vR (10, 0, 0)), j1] [vI y1, vR (10, 0, 0)] hp (rsV () v) := by
  replace h : ((fX10_failsIf y1 1 hp).bind fun hp3 => (fX10_goesOn hp3).bind fun hp6 => some hp6) = some v := h
  refine Ex.go 1 (pc' := 15) (ls' := [some (vR (10, 0, 0)), j1]) (st' := [vI 1, vI y1, vR (10, 0, 0)]) (hp' := hp) (fun _ => rfl) ?_
  obtain ⟨hp3, hv, h⟩ := Option.bind_eq_some_iff.mp h
  refine Ex.call (args := [vR (10, 0, 0), vI y1, vI 1]) (rest := []) rfl rfl rfl (exX10_failsIf (d := d + 4) hv) ?_
  show Ex (d + 6) kX10_word 18 [some (vR (10, 0, 0)), j1] [] hp3 _
  refine Ex.go 1 (pc' := 19) (ls' := [some (vR (10, 0, 0)), j1]) (st' := [vR (10, 0, 0)]) (hp' := hp3) (fun _ => rfl) ?_
  obtain ⟨hp6, hv, h⟩ := Option.bind_eq_some_iff.mp h
  refine Ex.call (args := [vR (10, 0, 0)]) (rest := []) rfl rfl rfl (exX10_goesOn (d := d + 3) hv) ?_
  show Ex (d + 6) kX10_word 22 [some (vR (10, 0, 0)), j1] [] hp6 _
  cases h
  exact Ex.ret rfl rfl rfl
def fX10_word (wr0 : Nat) (hp : HP) : Option HP := (fX10_isWord wr0 hp).bind fun v7 => if v7 = 0 then (fX10_word_14 1 hp) else (fX10_word_14 0 hp)
theorem exX10_word {d : Nat} {wr0 : Nat} {hp : HP} {v : HP} (h : fX10_word wr0 hp = some v) : Calls (d + 6) 174 [vR (10, 0, 0), vR (20, wr0, 0)] hp (rsV () v) := by
  replace h : ((fX10_isWord wr0 hp).bind fun v7 => if v7 = 0 then (fX10_word_14 1 hp) else (fX10_word_14 0 hp)) = some v := h
  show Ex (d + 6) kX10_word 0 [some (vR (10, 0, 0)), some (vR (20, wr0, 0))] [] hp _
  refine Ex.go 3 (pc' := 3) (ls' := [some (vR (10, 0, 0)), some (vR (20, wr0, 0))]) (st' := [vR (20, wr0, 0), vR (10, 0, 0), vR (10, 0, 0)]) (hp' := hp) (fun _ => rfl) ?_
  obtain ⟨v7, hv, h⟩ := Option.bind_eq_some_iff.mp h
  refine Ex.call (args := [vR (10, 0, 0), vR (20, wr0, 0)]) (rest := [vR (10, 0, 0)]) rfl rfl rfl (exX10_isWord (d := d + 0) hv) ?_
  show Ex (d + 6) kX10_word 6 [some (vR (10, 0, 0)), some (vR (20, wr0, 0))] [vI v7, vR (10, 0, 0)] hp _
  refine Ex.ifc rfl ?_
  by_cases hc : v7 = 0
  · rw [if_pos hc] at h
    rw [brI_ne_p hc]
    show Ex (d + 6) kX10_word 9 [some (vR (10, 0, 0)), some (vR (20, wr0, 0))] [vR (10, 0, 0)] hp _
    refine Ex.go 2 (pc' := 14) (ls' := [some (vR (10, 0, 0)), some (vR (20, wr0, 0))]) (st' := [vI 1, vR (10, 0, 0)]) (hp' := hp) (fun _ => rfl) ?_
    exact exX10_word_14 h
  · rw [if_neg hc] at h
    rw [brI_ne_n hc]
    show Ex (d + 6) kX10_word 13 [some (vR (10, 0, 0)), some (vR (20, wr0, 0))] [vR (10, 0, 0)] hp _
    refine Ex.go 1 (pc' := 14) (ls' := [some (vR (10, 0, 0)), some (vR (20, wr0, 0))]) (st' := [vI 0, vR (10, 0, 0)]) (hp' := hp) (fun _ => rfl) ?_
    exact exX10_word_14 h
def fX10_looks_33 (x1 : Int32) (hp : HP) : Option (Int32 × HP) := if (hp (10, 0, 0) 19) = 0 then (some ((hp (10, 0, 0) 18), hp)) else (some (x1, hp))
theorem exX10_looks_33 {d : Nat} {x1 : Int32} {j2 : Option VL} {hp : HP} {v : (Int32 × HP)} (h : fX10_looks_33 x1 hp = some v) : Ex (d + 1) kX10_looks 33 [some (vR (10, 0, 0)), some (vI x1), j2] [] hp (rsI v.1 v.2) := by
  replace h : (if (hp (10, 0, 0) 19) = 0 then (some ((hp (10, 0, 0) 18), hp)) else (some (x1, hp))) = some v := h
  refine Ex.go 2 (pc' := 37) (ls' := [some (vR (10, 0, 0)), some (vI x1), j2]) (st' := [vI (hp (10, 0, 0) 19)]) (hp' := hp) (fun _ => rfl) ?_
  refine Ex.ifc rfl ?_
  by_cases hc : (hp (10, 0, 0) 19) = 0
  · rw [if_pos hc] at h
    rw [brI_eq_p hc]
    show Ex (d + 1) kX10_looks 44 [some (vR (10, 0, 0)), some (vI x1), j2] [] hp _
    refine Ex.go 2 (pc' := 48) (ls' := [some (vR (10, 0, 0)), some (vI x1), j2]) (st' := [vI (hp (10, 0, 0) 18)]) (hp' := hp) (fun _ => rfl) ?_
    cases h
    exact Ex.ret rfl rfl rfl
  · rw [if_neg hc] at h
    rw [brI_eq_n hc]
    show Ex (d + 1) kX10_looks 40 [some (vR (10, 0, 0)), some (vI x1), j2] [] hp _
    refine Ex.go 2 (pc' := 48) (ls' := [some (vR (10, 0, 0)), some (vI x1), j2]) (st' := [vI x1]) (hp' := hp) (fun _ => rfl) ?_
    cases h
    exact Ex.ret rfl rfl rfl
def fX10_looks (a0 : Int32) (a1 : Int32) (hp : HP) : Option (Int32 × HP) := if (hp (10, 0, 0) 17) = 2 then ((fX10_in (hp (10, 0, 0) 18) a0 a1 hp).bind fun v1 => if v1 = 0 then ((fX10_fails 2 hp).bind fun hp4 => fX10_looks_33 a0 hp4) else (fX10_looks_33 a0 hp)) else ((fX10_fails 1 hp).bind fun hp7 => fX10_looks_33 a0 hp7)
theorem exX10_looks {d : Nat} {a0 : Int32} {a1 : Int32} {hp : HP} {v : (Int32 × HP)} (h : fX10_looks a0 a1 hp = some v) : Calls (d + 1) 175 [vR (10, 0, 0), vI a0, vI a1] hp (rsI v.1 v.2) := by
  replace h : (if (hp (10, 0, 0) 17) = 2 then ((fX10_in (hp (10, 0, 0) 18) a0 a1 hp).bind fun v1 => if v1 = 0 then ((fX10_fails 2 hp).bind fun hp4 => fX10_looks_33 a0 hp4) else (fX10_looks_33 a0 hp)) else ((fX10_fails 1 hp).bind fun hp7 => fX10_looks_33 a0 hp7)) = some v := h
  show Ex (d + 1) kX10_looks 0 [some (vR (10, 0, 0)), some (vI a0), some (vI a1)] [] hp _
  refine Ex.go 3 (pc' := 5) (ls' := [some (vR (10, 0, 0)), some (vI a0), some (vI a1)]) (st' := [vI 2, vI (hp (10, 0, 0) 17)]) (hp' := hp) (fun _ => rfl) ?_
  refine Ex.icmp rfl ?_
  by_cases hc : (hp (10, 0, 0) 17) = 2
  · rw [if_pos hc] at h
    rw [brI_eq_p hc]
    show Ex (d + 1) kX10_looks 16 [some (vR (10, 0, 0)), some (vI a0), some (vI a1)] [] hp _
    refine Ex.go 4 (pc' := 22) (ls' := [some (vR (10, 0, 0)), some (vI a0), some (vI a1)]) (st' := [vI a1, vI a0, vI (hp (10, 0, 0) 18)]) (hp' := hp) (fun _ => rfl) ?_
    obtain ⟨v1, hv, h⟩ := Option.bind_eq_some_iff.mp h
    refine Ex.call (args := [vI (hp (10, 0, 0) 18), vI a0, vI a1]) (rest := []) rfl rfl rfl (exX10_in (d := d + 0) hv) ?_
    show Ex (d + 1) kX10_looks 25 [some (vR (10, 0, 0)), some (vI a0), some (vI a1)] [vI v1] hp _
    refine Ex.ifc rfl ?_
    by_cases hc : v1 = 0
    · rw [if_pos hc] at h
      rw [brI_ne_p hc]
      show Ex (d + 1) kX10_looks 28 [some (vR (10, 0, 0)), some (vI a0), some (vI a1)] [] hp _
      refine Ex.go 2 (pc' := 30) (ls' := [some (vR (10, 0, 0)), some (vI a0), some (vI a1)]) (st' := [vI 2, vR (10, 0, 0)]) (hp' := hp) (fun _ => rfl) ?_
      obtain ⟨hp4, hv, h⟩ := Option.bind_eq_some_iff.mp h
      refine Ex.call (args := [vR (10, 0, 0), vI 2]) (rest := []) rfl rfl rfl (exX10_fails (d := d + 0) hv) ?_
      show Ex (d + 1) kX10_looks 33 [some (vR (10, 0, 0)), some (vI a0), some (vI a1)] [] hp4 _
      exact exX10_looks_33 h
    · rw [if_neg hc] at h
      rw [brI_ne_n hc]
      show Ex (d + 1) kX10_looks 33 [some (vR (10, 0, 0)), some (vI a0), some (vI a1)] [] hp _
      exact exX10_looks_33 h
  · rw [if_neg hc] at h
    rw [brI_eq_n hc]
    show Ex (d + 1) kX10_looks 8 [some (vR (10, 0, 0)), some (vI a0), some (vI a1)] [] hp _
    refine Ex.go 2 (pc' := 10) (ls' := [some (vR (10, 0, 0)), some (vI a0), some (vI a1)]) (st' := [vI 1, vR (10, 0, 0)]) (hp' := hp) (fun _ => rfl) ?_
    obtain ⟨hp7, hv, h⟩ := Option.bind_eq_some_iff.mp h
    refine Ex.call (args := [vR (10, 0, 0), vI 1]) (rest := []) rfl rfl rfl (exX10_fails (d := d + 0) hv) ?_
    show Ex (d + 1) kX10_looks 13 [some (vR (10, 0, 0)), some (vI a0), some (vI a1)] [] hp7 _
    refine Ex.go 1 (pc' := 33) (ls' := [some (vR (10, 0, 0)), some (vI a0), some (vI a1)]) (st' := []) (hp' := hp7) (fun _ => rfl) ?_
    exact exX10_looks_33 h
def fX10_takes (a0 : Int32) (a1 : Int32) (hp : HP) : Option (Int32 × HP) := (fX10_looks a0 a1 hp).bind fun q2 => (fX10_goesOn q2.2).bind fun hp5 => some (q2.1, hp5)
theorem exX10_takes {d : Nat} {a0 : Int32} {a1 : Int32} {hp : HP} {v : (Int32 × HP)} (h : fX10_takes a0 a1 hp = some v) : Calls (d + 3) 176 [vR (10, 0, 0), vI a0, vI a1] hp (rsI v.1 v.2) := by
  replace h : ((fX10_looks a0 a1 hp).bind fun q2 => (fX10_goesOn q2.2).bind fun hp5 => some (q2.1, hp5)) = some v := h
  show Ex (d + 3) kX10_takes 0 [some (vR (10, 0, 0)), some (vI a0), some (vI a1), none] [] hp _
  refine Ex.go 3 (pc' := 3) (ls' := [some (vR (10, 0, 0)), some (vI a0), some (vI a1), none]) (st' := [vI a1, vI a0, vR (10, 0, 0)]) (hp' := hp) (fun _ => rfl) ?_
  obtain ⟨q2, hv, h⟩ := Option.bind_eq_some_iff.mp h
  refine Ex.call (args := [vR (10, 0, 0), vI a0, vI a1]) (rest := []) rfl rfl rfl (exX10_looks (d := d + 1) hv) ?_
  show Ex (d + 3) kX10_takes 6 [some (vR (10, 0, 0)), some (vI a0), some (vI a1), none] [vI q2.1] q2.2 _
  refine Ex.go 2 (pc' := 8) (ls' := [some (vR (10, 0, 0)), some (vI a0), some (vI a1), some (vI q2.1)]) (st' := [vR (10, 0, 0)]) (hp' := q2.2) (fun _ => rfl) ?_
  obtain ⟨hp5, hv, h⟩ := Option.bind_eq_some_iff.mp h
  refine Ex.call (args := [vR (10, 0, 0)]) (rest := []) rfl rfl rfl (exX10_goesOn (d := d + 0) hv) ?_
  show Ex (d + 3) kX10_takes 11 [some (vR (10, 0, 0)), some (vI a0), some (vI a1), some (vI q2.1)] [] hp5 _
  refine Ex.go 1 (pc' := 12) (ls' := [some (vR (10, 0, 0)), some (vI a0), some (vI a1), some (vI q2.1)]) (st' := [vI q2.1]) (hp' := hp5) (fun _ => rfl) ?_
  cases h
  exact Ex.ret rfl rfl rfl
def fX10_semicolon_21 (y1 : Int32) (hp : HP) : Option HP := (fX10_failsIf y1 1 hp).bind fun hp3 => (fX10_goesOn hp3).bind fun hp6 => some hp6
theorem exX10_semicolon_21 {d : Nat} {y1 : Int32} {hp : HP} {v : HP} (h : fX10_semicolon_21 y1 hp = some v) : Ex (d + 3) kX10_semicolon 21 [some (vR (10, 0, 0))] [vI y1, vR (10, 0, 0)] hp (rsV () v) := by
  replace h : ((fX10_failsIf y1 1 hp).bind fun hp3 => (fX10_goesOn hp3).bind fun hp6 => some hp6) = some v := h
  refine Ex.go 1 (pc' := 22) (ls' := [some (vR (10, 0, 0))]) (st' := [vI 1, vI y1, vR (10, 0, 0)]) (hp' := hp) (fun _ => rfl) ?_
  obtain ⟨hp3, hv, h⟩ := Option.bind_eq_some_iff.mp h
  refine Ex.call (args := [vR (10, 0, 0), vI y1, vI 1]) (rest := []) rfl rfl rfl (exX10_failsIf (d := d + 1) hv) ?_
  show Ex (d + 3) kX10_semicolon 25 [some (vR (10, 0, 0))] [] hp3 _
  refine Ex.go 1 (pc' := 26) (ls' := [some (vR (10, 0, 0))]) (st' := [vR (10, 0, 0)]) (hp' := hp3) (fun _ => rfl) ?_
  obtain ⟨hp6, hv, h⟩ := Option.bind_eq_some_iff.mp h
  refine Ex.call (args := [vR (10, 0, 0)]) (rest := []) rfl rfl rfl (exX10_goesOn (d := d + 0) hv) ?_
  show Ex (d + 3) kX10_semicolon 29 [some (vR (10, 0, 0))] [] hp6 _
  cases h
  exact Ex.ret rfl rfl rfl
def fX10_semicolon_20 (hp : HP) : Option HP := fX10_semicolon_21 0 hp
theorem exX10_semicolon_20 {d : Nat} {hp : HP} {v : HP} (h : fX10_semicolon_20 hp = some v) : Ex (d + 3) kX10_semicolon 20 [some (vR (10, 0, 0))] [vR (10, 0, 0)] hp (rsV () v) := by
  replace h : (fX10_semicolon_21 0 hp) = some v := h
  refine Ex.go 1 (pc' := 21) (ls' := [some (vR (10, 0, 0))]) (st' := [vI 0, vR (10, 0, 0)]) (hp' := hp) (fun _ => rfl) ?_
  exact exX10_semicolon_21 h
def fX10_semicolon (hp : HP) : Option HP := if (hp (10, 0, 0) 19) = 0 then (if (hp (10, 0, 0) 17) = 3 then (fX10_semicolon_20 hp) else (fX10_semicolon_21 1 hp)) else (fX10_semicolon_20 hp)
theorem exX10_semicolon {d : Nat} {hp : HP} {v : HP} (h : fX10_semicolon hp = some v) : Calls (d + 3) 177 [vR (10, 0, 0)] hp (rsV () v) := by
  replace h : (if (hp (10, 0, 0) 19) = 0 then (if (hp (10, 0, 0) 17) = 3 then (fX10_semicolon_20 hp) else (fX10_semicolon_21 1 hp)) else (fX10_semicolon_20 hp)) = some v := h
  show Ex (d + 3) kX10_semicolon 0 [some (vR (10, 0, 0))] [] hp _
  refine Ex.go 3 (pc' := 5) (ls' := [some (vR (10, 0, 0))]) (st' := [vI (hp (10, 0, 0) 19), vR (10, 0, 0)]) (hp' := hp) (fun _ => rfl) ?_
  refine Ex.ifc rfl ?_
  by_cases hc : (hp (10, 0, 0) 19) = 0
  · rw [if_pos hc] at h
    rw [brI_ne_p hc]
    show Ex (d + 3) kX10_semicolon 8 [some (vR (10, 0, 0))] [vR (10, 0, 0)] hp _
    refine Ex.go 3 (pc' := 13) (ls' := [some (vR (10, 0, 0))]) (st' := [vI 3, vI (hp (10, 0, 0) 17), vR (10, 0, 0)]) (hp' := hp) (fun _ => rfl) ?_
    refine Ex.icmp rfl ?_
    by_cases hc : (hp (10, 0, 0) 17) = 3
    · rw [if_pos hc] at h
      rw [brI_eq_p hc]
      show Ex (d + 3) kX10_semicolon 20 [some (vR (10, 0, 0))] [vR (10, 0, 0)] hp _
      exact exX10_semicolon_20 h
    · rw [if_neg hc] at h
      rw [brI_eq_n hc]
      show Ex (d + 3) kX10_semicolon 16 [some (vR (10, 0, 0))] [vR (10, 0, 0)] hp _
      refine Ex.go 2 (pc' := 21) (ls' := [some (vR (10, 0, 0))]) (st' := [vI 1, vR (10, 0, 0)]) (hp' := hp) (fun _ => rfl) ?_
      exact exX10_semicolon_21 h
  · rw [if_neg hc] at h
    rw [brI_ne_n hc]
    show Ex (d + 3) kX10_semicolon 20 [some (vR (10, 0, 0))] [vR (10, 0, 0)] hp _
    exact exX10_semicolon_20 h
def fX10_holds_47 (x1 : Int32) (k29 : Int32 → HP → Option HP) (hp : HP) : Option HP := if inb x1 (alen (11, 21, 0)) = true then (if inb x1 (alen (11, 28, 0)) = true then (k29 (x1 + 1) (up hp (11, 28, 0) (x1.toNatClampNeg) (hp (11, 21, 0) x1.toNatClampNeg))) else none) else none
theorem exX10_holds_47 {d : Nat} {x1 : Int32} {hp : HP} {v : HP} {k29 : Int32 → HP → Option HP} (hk29 : ∀ (x1 : Int32) (hp : HP) (v : HP), k29 x1 hp = some v → Ex (d + 0) kX10_holds 29 [some (vR (10, 0, 0)), some (vI x1)] [] hp (rsV () v)) (h : fX10_holds_47 x1 k29 hp = some v) : Ex (d + 0) kX10_holds 47 [some (vR (10, 0, 0)), some (vI x1)] [] hp (rsV () v) := by
  replace h : (if inb x1 (alen (11, 21, 0)) = true then (if inb x1 (alen (11, 28, 0)) = true then (k29 (x1 + 1) (up hp (11, 28, 0) (x1.toNatClampNeg) (hp (11, 21, 0) x1.toNatClampNeg))) else none) else none) = some v := h
  refine Ex.go 6 (pc' := 57) (ls' := [some (vR (10, 0, 0)), some (vI x1)]) (st' := [vI x1, vR (11, 21, 0), vI x1, vR (11, 28, 0)]) (hp' := hp) (fun _ => rfl) ?_
  by_cases hc : inb x1 (alen (11, 21, 0)) = true
  · rw [if_pos hc] at h
    refine Ex.iald rfl rfl hc rfl ?_
    show Ex (d + 0) kX10_holds 58 [some (vR (10, 0, 0)), some (vI x1)] [vI (hp (11, 21, 0) x1.toNatClampNeg), vI x1, vR (11, 28, 0)] hp _
    by_cases hc : inb x1 (alen (11, 28, 0)) = true
    · rw [if_pos hc] at h
      refine Ex.iast rfl rfl hc rfl ?_
      show Ex (d + 0) kX10_holds 59 [some (vR (10, 0, 0)), some (vI x1)] [] (up hp (11, 28, 0) (x1.toNatClampNeg) (hp (11, 21, 0) x1.toNatClampNeg)) _
      refine Ex.go 2 (pc' := 29) (ls' := [some (vR (10, 0, 0)), some (vI (x1 + 1))]) (st' := []) (hp' := (up hp (11, 28, 0) (x1.toNatClampNeg) (hp (11, 21, 0) x1.toNatClampNeg))) (fun _ => rfl) ?_
      exact hk29 _ _ _ h
    · rw [if_neg hc] at h
      cases h
  · rw [if_neg hc] at h
    cases h
def fX10_holds_29 (n : Nat) (x1 : Int32) (hp : HP) : Option HP := match n with
  | 0 => none
  | n + 1 => if x1 < 26 then (if inb x1 (alen (11, 20, 0)) = true then (if inb x1 (alen (11, 27, 0)) = true then (fX10_holds_47 x1 (fun x1 hq => fX10_holds_29 n x1 hq) (up hp (11, 27, 0) (x1.toNatClampNeg) (hp (11, 20, 0) x1.toNatClampNeg))) else none) else none) else (some (up hp (10, 0, 0) 24 (hp (10, 0, 0) 2)))
theorem exX10_holds_29 {d : Nat} : ∀ (n : Nat) (x1 : Int32) (hp : HP) (v : HP), fX10_holds_29 n x1 hp = some v → Ex (d + 0) kX10_holds 29 [some (vR (10, 0, 0)), some (vI x1)] [] hp (rsV () v) := by
  intro n
  induction n with
  | zero =>
    intro x1 hp v h
    cases h
  | succ n ih =>
    intro x1 hp v h
    replace h : (if x1 < 26 then (if inb x1 (alen (11, 20, 0)) = true then (if inb x1 (alen (11, 27, 0)) = true then (fX10_holds_47 x1 (fun x1 hq => fX10_holds_29 n x1 hq) (up hp (11, 27, 0) (x1.toNatClampNeg) (hp (11, 20, 0) x1.toNatClampNeg))) else none) else none) else (some (up hp (10, 0, 0) 24 (hp (10, 0, 0) 2)))) = some v := h
    refine Ex.go 2 (pc' := 32) (ls' := [some (vR (10, 0, 0)), some (vI x1)]) (st' := [vI 26, vI x1]) (hp' := hp) (fun _ => rfl) ?_
    refine Ex.icmp rfl ?_
    by_cases hc : x1 < 26
    · rw [if_pos hc] at h
      rw [brI_ge_p hc]
      show Ex (d + 0) kX10_holds 35 [some (vR (10, 0, 0)), some (vI x1)] [] hp _
      refine Ex.go 6 (pc' := 45) (ls' := [some (vR (10, 0, 0)), some (vI x1)]) (st' := [vI x1, vR (11, 20, 0), vI x1, vR (11, 27, 0)]) (hp' := hp) (fun _ => rfl) ?_
      by_cases hc : inb x1 (alen (11, 20, 0)) = true
      · rw [if_pos hc] at h
        refine Ex.iald rfl rfl hc rfl ?_
        show Ex (d + 0) kX10_holds 46 [some (vR (10, 0, 0)), some (vI x1)] [vI (hp (11, 20, 0) x1.toNatClampNeg), vI x1, vR (11, 27, 0)] hp _
        by_cases hc : inb x1 (alen (11, 27, 0)) = true
        · rw [if_pos hc] at h
          refine Ex.iast rfl rfl hc rfl ?_
          show Ex (d + 0) kX10_holds 47 [some (vR (10, 0, 0)), some (vI x1)] [] (up hp (11, 27, 0) (x1.toNatClampNeg) (hp (11, 20, 0) x1.toNatClampNeg)) _
          exact exX10_holds_47 (fun q0 q1 q2 hv => ih q0 q1 q2 hv) h
        · rw [if_neg hc] at h
          cases h
      · rw [if_neg hc] at h
        cases h
    · rw [if_neg hc] at h
      rw [brI_ge_n hc]
      show Ex (d + 0) kX10_holds 65 [some (vR (10, 0, 0)), some (vI x1)] [] hp _
      refine Ex.go 4 (pc' := 73) (ls' := [some (vR (10, 0, 0)), some (vI x1)]) (st' := []) (hp' := (up hp (10, 0, 0) 24 (hp (10, 0, 0) 2))) (fun _ => rfl) ?_
      cases h
      exact Ex.ret rfl rfl rfl
def fX10_holds_2 (n : Nat) (x1 : Int32) (hp : HP) : Option HP := match n with
  | 0 => none
  | n + 1 => if x1 < 1150 then (if inb x1 (alen (11, 22, 0)) = true then (if inb x1 (alen (11, 26, 0)) = true then (fX10_holds_2 n (x1 + 1) (up hp (11, 26, 0) (x1.toNatClampNeg) (hp (11, 22, 0) x1.toNatClampNeg))) else none) else none) else (fX10_holds_29 FU 0 hp)
theorem exX10_holds_2 {d : Nat} : ∀ (n : Nat) (x1 : Int32) (hp : HP) (v : HP), fX10_holds_2 n x1 hp = some v → Ex (d + 0) kX10_holds 2 [some (vR (10, 0, 0)), some (vI x1)] [] hp (rsV () v) := by
  intro n
  induction n with
  | zero =>
    intro x1 hp v h
    cases h
  | succ n ih =>
    intro x1 hp v h
    replace h : (if x1 < 1150 then (if inb x1 (alen (11, 22, 0)) = true then (if inb x1 (alen (11, 26, 0)) = true then (fX10_holds_2 n (x1 + 1) (up hp (11, 26, 0) (x1.toNatClampNeg) (hp (11, 22, 0) x1.toNatClampNeg))) else none) else none) else (fX10_holds_29 FU 0 hp)) = some v := h
    refine Ex.go 2 (pc' := 6) (ls' := [some (vR (10, 0, 0)), some (vI x1)]) (st' := [vI 1150, vI x1]) (hp' := hp) (fun _ => rfl) ?_
    refine Ex.icmp rfl ?_
    by_cases hc : x1 < 1150
    · rw [if_pos hc] at h
      rw [brI_ge_p hc]
      show Ex (d + 0) kX10_holds 9 [some (vR (10, 0, 0)), some (vI x1)] [] hp _
      refine Ex.go 6 (pc' := 19) (ls' := [some (vR (10, 0, 0)), some (vI x1)]) (st' := [vI x1, vR (11, 22, 0), vI x1, vR (11, 26, 0)]) (hp' := hp) (fun _ => rfl) ?_
      by_cases hc : inb x1 (alen (11, 22, 0)) = true
      · rw [if_pos hc] at h
        refine Ex.iald rfl rfl hc rfl ?_
        show Ex (d + 0) kX10_holds 20 [some (vR (10, 0, 0)), some (vI x1)] [vI (hp (11, 22, 0) x1.toNatClampNeg), vI x1, vR (11, 26, 0)] hp _
        by_cases hc : inb x1 (alen (11, 26, 0)) = true
        · rw [if_pos hc] at h
          refine Ex.iast rfl rfl hc rfl ?_
          show Ex (d + 0) kX10_holds 21 [some (vR (10, 0, 0)), some (vI x1)] [] (up hp (11, 26, 0) (x1.toNatClampNeg) (hp (11, 22, 0) x1.toNatClampNeg)) _
          refine Ex.go 2 (pc' := 2) (ls' := [some (vR (10, 0, 0)), some (vI (x1 + 1))]) (st' := []) (hp' := (up hp (11, 26, 0) (x1.toNatClampNeg) (hp (11, 22, 0) x1.toNatClampNeg))) (fun _ => rfl) ?_
          exact ih _ _ _ h
        · rw [if_neg hc] at h
          cases h
      · rw [if_neg hc] at h
        cases h
    · rw [if_neg hc] at h
      rw [brI_ge_n hc]
      show Ex (d + 0) kX10_holds 27 [some (vR (10, 0, 0)), some (vI x1)] [] hp _
      refine Ex.go 2 (pc' := 29) (ls' := [some (vR (10, 0, 0)), some (vI 0)]) (st' := []) (hp' := hp) (fun _ => rfl) ?_
      exact exX10_holds_29 FU _ _ _ h
def fX10_holds (hp : HP) : Option HP := fX10_holds_2 FU 0 hp
theorem exX10_holds {d : Nat} {hp : HP} {v : HP} (h : fX10_holds hp = some v) : Calls (d + 0) 178 [vR (10, 0, 0)] hp (rsV () v) := by
  replace h : (fX10_holds_2 FU 0 hp) = some v := h
  show Ex (d + 0) kX10_holds 0 [some (vR (10, 0, 0)), none] [] hp _
  refine Ex.go 2 (pc' := 2) (ls' := [some (vR (10, 0, 0)), some (vI 0)]) (st' := []) (hp' := hp) (fun _ => rfl) ?_
  exact exX10_holds_2 FU _ _ _ h
def fX10_laysBack_47 (x1 : Int32) (k29 : Int32 → HP → Option HP) (hp : HP) : Option HP := if inb x1 (alen (11, 28, 0)) = true then (if inb x1 (alen (11, 21, 0)) = true then (k29 (x1 + 1) (up hp (11, 21, 0) (x1.toNatClampNeg) (hp (11, 28, 0) x1.toNatClampNeg))) else none) else none
theorem exX10_laysBack_47 {d : Nat} {x1 : Int32} {hp : HP} {v : HP} {k29 : Int32 → HP → Option HP} (hk29 : ∀ (x1 : Int32) (hp : HP) (v : HP), k29 x1 hp = some v → Ex (d + 0) kX10_laysBack 29 [some (vR (10, 0, 0)), some (vI x1)] [] hp (rsV () v)) (h : fX10_laysBack_47 x1 k29 hp = some v) : Ex (d + 0) kX10_laysBack 47 [some (vR (10, 0, 0)), some (vI x1)] [] hp (rsV () v) := by
  replace h : (if inb x1 (alen (11, 28, 0)) = true then (if inb x1 (alen (11, 21, 0)) = true then (k29 (x1 + 1) (up hp (11, 21, 0) (x1.toNatClampNeg) (hp (11, 28, 0) x1.toNatClampNeg))) else none) else none) = some v := h
  refine Ex.go 6 (pc' := 57) (ls' := [some (vR (10, 0, 0)), some (vI x1)]) (st' := [vI x1, vR (11, 28, 0), vI x1, vR (11, 21, 0)]) (hp' := hp) (fun _ => rfl) ?_
  by_cases hc : inb x1 (alen (11, 28, 0)) = true
  · rw [if_pos hc] at h
    refine Ex.iald rfl rfl hc rfl ?_
    show Ex (d + 0) kX10_laysBack 58 [some (vR (10, 0, 0)), some (vI x1)] [vI (hp (11, 28, 0) x1.toNatClampNeg), vI x1, vR (11, 21, 0)] hp _
    by_cases hc : inb x1 (alen (11, 21, 0)) = true
    · rw [if_pos hc] at h
      refine Ex.iast rfl rfl hc rfl ?_
      show Ex (d + 0) kX10_laysBack 59 [some (vR (10, 0, 0)), some (vI x1)] [] (up hp (11, 21, 0) (x1.toNatClampNeg) (hp (11, 28, 0) x1.toNatClampNeg)) _
      refine Ex.go 2 (pc' := 29) (ls' := [some (vR (10, 0, 0)), some (vI (x1 + 1))]) (st' := []) (hp' := (up hp (11, 21, 0) (x1.toNatClampNeg) (hp (11, 28, 0) x1.toNatClampNeg))) (fun _ => rfl) ?_
      exact hk29 _ _ _ h
    · rw [if_neg hc] at h
      cases h
  · rw [if_neg hc] at h
    cases h
def fX10_laysBack_29 (n : Nat) (x1 : Int32) (hp : HP) : Option HP := match n with
  | 0 => none
  | n + 1 => if x1 < 26 then (if inb x1 (alen (11, 27, 0)) = true then (if inb x1 (alen (11, 20, 0)) = true then (fX10_laysBack_47 x1 (fun x1 hq => fX10_laysBack_29 n x1 hq) (up hp (11, 20, 0) (x1.toNatClampNeg) (hp (11, 27, 0) x1.toNatClampNeg))) else none) else none) else (some (up hp (10, 0, 0) 2 (hp (10, 0, 0) 24)))
theorem exX10_laysBack_29 {d : Nat} : ∀ (n : Nat) (x1 : Int32) (hp : HP) (v : HP), fX10_laysBack_29 n x1 hp = some v → Ex (d + 0) kX10_laysBack 29 [some (vR (10, 0, 0)), some (vI x1)] [] hp (rsV () v) := by
  intro n
  induction n with
  | zero =>
    intro x1 hp v h
    cases h
  | succ n ih =>
    intro x1 hp v h
    replace h : (if x1 < 26 then (if inb x1 (alen (11, 27, 0)) = true then (if inb x1 (alen (11, 20, 0)) = true then (fX10_laysBack_47 x1 (fun x1 hq => fX10_laysBack_29 n x1 hq) (up hp (11, 20, 0) (x1.toNatClampNeg) (hp (11, 27, 0) x1.toNatClampNeg))) else none) else none) else (some (up hp (10, 0, 0) 2 (hp (10, 0, 0) 24)))) = some v := h
    refine Ex.go 2 (pc' := 32) (ls' := [some (vR (10, 0, 0)), some (vI x1)]) (st' := [vI 26, vI x1]) (hp' := hp) (fun _ => rfl) ?_
    refine Ex.icmp rfl ?_
    by_cases hc : x1 < 26
    · rw [if_pos hc] at h
      rw [brI_ge_p hc]
      show Ex (d + 0) kX10_laysBack 35 [some (vR (10, 0, 0)), some (vI x1)] [] hp _
      refine Ex.go 6 (pc' := 45) (ls' := [some (vR (10, 0, 0)), some (vI x1)]) (st' := [vI x1, vR (11, 27, 0), vI x1, vR (11, 20, 0)]) (hp' := hp) (fun _ => rfl) ?_
      by_cases hc : inb x1 (alen (11, 27, 0)) = true
      · rw [if_pos hc] at h
        refine Ex.iald rfl rfl hc rfl ?_
        show Ex (d + 0) kX10_laysBack 46 [some (vR (10, 0, 0)), some (vI x1)] [vI (hp (11, 27, 0) x1.toNatClampNeg), vI x1, vR (11, 20, 0)] hp _
        by_cases hc : inb x1 (alen (11, 20, 0)) = true
        · rw [if_pos hc] at h
          refine Ex.iast rfl rfl hc rfl ?_
          show Ex (d + 0) kX10_laysBack 47 [some (vR (10, 0, 0)), some (vI x1)] [] (up hp (11, 20, 0) (x1.toNatClampNeg) (hp (11, 27, 0) x1.toNatClampNeg)) _
          exact exX10_laysBack_47 (fun q0 q1 q2 hv => ih q0 q1 q2 hv) h
        · rw [if_neg hc] at h
          cases h
      · rw [if_neg hc] at h
        cases h
    · rw [if_neg hc] at h
      rw [brI_ge_n hc]
      show Ex (d + 0) kX10_laysBack 65 [some (vR (10, 0, 0)), some (vI x1)] [] hp _
      refine Ex.go 4 (pc' := 73) (ls' := [some (vR (10, 0, 0)), some (vI x1)]) (st' := []) (hp' := (up hp (10, 0, 0) 2 (hp (10, 0, 0) 24))) (fun _ => rfl) ?_
      cases h
      exact Ex.ret rfl rfl rfl
def fX10_laysBack_2 (n : Nat) (x1 : Int32) (hp : HP) : Option HP := match n with
  | 0 => none
  | n + 1 => if x1 < 1150 then (if inb x1 (alen (11, 26, 0)) = true then (if inb x1 (alen (11, 22, 0)) = true then (fX10_laysBack_2 n (x1 + 1) (up hp (11, 22, 0) (x1.toNatClampNeg) (hp (11, 26, 0) x1.toNatClampNeg))) else none) else none) else (fX10_laysBack_29 FU 0 hp)
theorem exX10_laysBack_2 {d : Nat} : ∀ (n : Nat) (x1 : Int32) (hp : HP) (v : HP), fX10_laysBack_2 n x1 hp = some v → Ex (d + 0) kX10_laysBack 2 [some (vR (10, 0, 0)), some (vI x1)] [] hp (rsV () v) := by
  intro n
  induction n with
  | zero =>
    intro x1 hp v h
    cases h
  | succ n ih =>
    intro x1 hp v h
    replace h : (if x1 < 1150 then (if inb x1 (alen (11, 26, 0)) = true then (if inb x1 (alen (11, 22, 0)) = true then (fX10_laysBack_2 n (x1 + 1) (up hp (11, 22, 0) (x1.toNatClampNeg) (hp (11, 26, 0) x1.toNatClampNeg))) else none) else none) else (fX10_laysBack_29 FU 0 hp)) = some v := h
    refine Ex.go 2 (pc' := 6) (ls' := [some (vR (10, 0, 0)), some (vI x1)]) (st' := [vI 1150, vI x1]) (hp' := hp) (fun _ => rfl) ?_
    refine Ex.icmp rfl ?_
    by_cases hc : x1 < 1150
    · rw [if_pos hc] at h
      rw [brI_ge_p hc]
      show Ex (d + 0) kX10_laysBack 9 [some (vR (10, 0, 0)), some (vI x1)] [] hp _
      refine Ex.go 6 (pc' := 19) (ls' := [some (vR (10, 0, 0)), some (vI x1)]) (st' := [vI x1, vR (11, 26, 0), vI x1, vR (11, 22, 0)]) (hp' := hp) (fun _ => rfl) ?_
      by_cases hc : inb x1 (alen (11, 26, 0)) = true
      · rw [if_pos hc] at h
        refine Ex.iald rfl rfl hc rfl ?_
        show Ex (d + 0) kX10_laysBack 20 [some (vR (10, 0, 0)), some (vI x1)] [vI (hp (11, 26, 0) x1.toNatClampNeg), vI x1, vR (11, 22, 0)] hp _
        by_cases hc : inb x1 (alen (11, 22, 0)) = true
        · rw [if_pos hc] at h
          refine Ex.iast rfl rfl hc rfl ?_
          show Ex (d + 0) kX10_laysBack 21 [some (vR (10, 0, 0)), some (vI x1)] [] (up hp (11, 22, 0) (x1.toNatClampNeg) (hp (11, 26, 0) x1.toNatClampNeg)) _
          refine Ex.go 2 (pc' := 2) (ls' := [some (vR (10, 0, 0)), some (vI (x1 + 1))]) (st' := []) (hp' := (up hp (11, 22, 0) (x1.toNatClampNeg) (hp (11, 26, 0) x1.toNatClampNeg))) (fun _ => rfl) ?_
          exact ih _ _ _ h
        · rw [if_neg hc] at h
          cases h
      · rw [if_neg hc] at h
        cases h
    · rw [if_neg hc] at h
      rw [brI_ge_n hc]
      show Ex (d + 0) kX10_laysBack 27 [some (vR (10, 0, 0)), some (vI x1)] [] hp _
      refine Ex.go 2 (pc' := 29) (ls' := [some (vR (10, 0, 0)), some (vI 0)]) (st' := []) (hp' := hp) (fun _ => rfl) ?_
      exact exX10_laysBack_29 FU _ _ _ h
def fX10_laysBack (hp : HP) : Option HP := fX10_laysBack_2 FU 0 hp
theorem exX10_laysBack {d : Nat} {hp : HP} {v : HP} (h : fX10_laysBack hp = some v) : Calls (d + 0) 179 [vR (10, 0, 0)] hp (rsV () v) := by
  replace h : (fX10_laysBack_2 FU 0 hp) = some v := h
  show Ex (d + 0) kX10_laysBack 0 [some (vR (10, 0, 0)), none] [] hp _
  refine Ex.go 2 (pc' := 2) (ls' := [some (vR (10, 0, 0)), some (vI 0)]) (st' := []) (hp' := hp) (fun _ => rfl) ?_
  exact exX10_laysBack_2 FU _ _ _ h
def fX10_its (a0 : Int32) (hp : HP) : Option Int32 := if inb (9 + a0) (alen (11, 22, 0)) = true then (some (hp (11, 22, 0) (9 + a0).toNatClampNeg)) else none
theorem exX10_its {d : Nat} {a0 : Int32} {hp : HP} {v : Int32} (h : fX10_its a0 hp = some v) : Calls (d + 0) 180 [vR (10, 0, 0), vI a0] hp (rsI v hp) := by
  replace h : (if inb (9 + a0) (alen (11, 22, 0)) = true then (some (hp (11, 22, 0) (9 + a0).toNatClampNeg)) else none) = some v := h
  show Ex (d + 0) kX10_its 0 [some (vR (10, 0, 0)), some (vI a0)] [] hp _
  refine Ex.go 5 (pc' := 8) (ls' := [some (vR (10, 0, 0)), some (vI a0)]) (st' := [vI (9 + a0), vR (11, 22, 0)]) (hp' := hp) (fun _ => rfl) ?_
  by_cases hc : inb (9 + a0) (alen (11, 22, 0)) = true
  · rw [if_pos hc] at h
    refine Ex.iald rfl rfl hc rfl ?_
    show Ex (d + 0) kX10_its 9 [some (vR (10, 0, 0)), some (vI a0)] [vI (hp (11, 22, 0) (9 + a0).toNatClampNeg)] hp _
    cases h
    exact Ex.ret rfl rfl rfl
  · rw [if_neg hc] at h
    cases h
def fX10_puts (a0 : Int32) (a1 : Int32) (hp : HP) : Option HP := if inb (9 + a0) (alen (11, 22, 0)) = true then (some (up hp (11, 22, 0) ((9 + a0).toNatClampNeg) a1)) else none
theorem exX10_puts {d : Nat} {a0 : Int32} {a1 : Int32} {hp : HP} {v : HP} (h : fX10_puts a0 a1 hp = some v) : Calls (d + 0) 181 [vR (10, 0, 0), vI a0, vI a1] hp (rsV () v) := by
  replace h : (if inb (9 + a0) (alen (11, 22, 0)) = true then (some (up hp (11, 22, 0) ((9 + a0).toNatClampNeg) a1)) else none) = some v := h
  show Ex (d + 0) kX10_puts 0 [some (vR (10, 0, 0)), some (vI a0), some (vI a1)] [] hp _
  refine Ex.go 6 (pc' := 9) (ls' := [some (vR (10, 0, 0)), some (vI a0), some (vI a1)]) (st' := [vI a1, vI (9 + a0), vR (11, 22, 0)]) (hp' := hp) (fun _ => rfl) ?_
  by_cases hc : inb (9 + a0) (alen (11, 22, 0)) = true
  · rw [if_pos hc] at h
    refine Ex.iast rfl rfl hc rfl ?_
    show Ex (d + 0) kX10_puts 10 [some (vR (10, 0, 0)), some (vI a0), some (vI a1)] [] (up hp (11, 22, 0) ((9 + a0).toNatClampNeg) a1) _
    cases h
    exact Ex.ret rfl rfl rfl
  · rw [if_neg hc] at h
    cases h
def fX10_clears_7 (n : Nat) (x1 : Int32) (hp : HP) : Option HP := match n with
  | 0 => none
  | n + 1 => if x1 < 1150 then (if inb x1 (alen (11, 22, 0)) = true then (fX10_clears_7 n (x1 + 1) (up hp (11, 22, 0) (x1.toNatClampNeg) 0)) else none) else ((fX10_puts 12 1 (up (up (up (up (up hp (11, 22, 0) 4 m1) (11, 22, 0) 5 m1) (11, 22, 0) 6 m1) (11, 22, 0) 37 m1) (11, 22, 0) 8 1)).bind fun hp3 => some hp3)
theorem exX10_clears_7 {d : Nat} : ∀ (n : Nat) (x1 : Int32) (hp : HP) (v : HP), fX10_clears_7 n x1 hp = some v → Ex (d + 1) kX10_clears 7 [some (vR (10, 0, 0)), some (vI x1)] [] hp (rsV () v) := by
  intro n
  induction n with
  | zero =>
    intro x1 hp v h
    cases h
  | succ n ih =>
    intro x1 hp v h
    replace h : (if x1 < 1150 then (if inb x1 (alen (11, 22, 0)) = true then (fX10_clears_7 n (x1 + 1) (up hp (11, 22, 0) (x1.toNatClampNeg) 0)) else none) else ((fX10_puts 12 1 (up (up (up (up (up hp (11, 22, 0) 4 m1) (11, 22, 0) 5 m1) (11, 22, 0) 6 m1) (11, 22, 0) 37 m1) (11, 22, 0) 8 1)).bind fun hp3 => some hp3)) = some v := h
    refine Ex.go 2 (pc' := 11) (ls' := [some (vR (10, 0, 0)), some (vI x1)]) (st' := [vI 1150, vI x1]) (hp' := hp) (fun _ => rfl) ?_
    refine Ex.icmp rfl ?_
    by_cases hc : x1 < 1150
    · rw [if_pos hc] at h
      rw [brI_ge_p hc]
      show Ex (d + 1) kX10_clears 14 [some (vR (10, 0, 0)), some (vI x1)] [] hp _
      refine Ex.go 4 (pc' := 20) (ls' := [some (vR (10, 0, 0)), some (vI x1)]) (st' := [vI 0, vI x1, vR (11, 22, 0)]) (hp' := hp) (fun _ => rfl) ?_
      by_cases hc : inb x1 (alen (11, 22, 0)) = true
      · rw [if_pos hc] at h
        refine Ex.iast rfl rfl hc rfl ?_
        show Ex (d + 1) kX10_clears 21 [some (vR (10, 0, 0)), some (vI x1)] [] (up hp (11, 22, 0) (x1.toNatClampNeg) 0) _
        refine Ex.go 2 (pc' := 7) (ls' := [some (vR (10, 0, 0)), some (vI (x1 + 1))]) (st' := []) (hp' := (up hp (11, 22, 0) (x1.toNatClampNeg) 0)) (fun _ => rfl) ?_
        exact ih _ _ _ h
      · rw [if_neg hc] at h
        cases h
    · rw [if_neg hc] at h
      rw [brI_ge_n hc]
      show Ex (d + 1) kX10_clears 27 [some (vR (10, 0, 0)), some (vI x1)] [] hp _
      refine Ex.go 4 (pc' := 33) (ls' := [some (vR (10, 0, 0)), some (vI x1)]) (st' := [vI m1, vI 4, vR (11, 22, 0)]) (hp' := hp) (fun _ => rfl) ?_
      refine Ex.iast (k := 4) rfl rfl (by decide) (by decide) ?_
      show Ex (d + 1) kX10_clears 34 [some (vR (10, 0, 0)), some (vI x1)] [] (up hp (11, 22, 0) 4 m1) _
      refine Ex.go 4 (pc' := 40) (ls' := [some (vR (10, 0, 0)), some (vI x1)]) (st' := [vI m1, vI 5, vR (11, 22, 0)]) (hp' := (up hp (11, 22, 0) 4 m1)) (fun _ => rfl) ?_
      refine Ex.iast (k := 5) rfl rfl (by decide) (by decide) ?_
      show Ex (d + 1) kX10_clears 41 [some (vR (10, 0, 0)), some (vI x1)] [] (up (up hp (11, 22, 0) 4 m1) (11, 22, 0) 5 m1) _
      refine Ex.go 4 (pc' := 48) (ls' := [some (vR (10, 0, 0)), some (vI x1)]) (st' := [vI m1, vI 6, vR (11, 22, 0)]) (hp' := (up (up hp (11, 22, 0) 4 m1) (11, 22, 0) 5 m1)) (fun _ => rfl) ?_
      refine Ex.iast (k := 6) rfl rfl (by decide) (by decide) ?_
      show Ex (d + 1) kX10_clears 49 [some (vR (10, 0, 0)), some (vI x1)] [] (up (up (up hp (11, 22, 0) 4 m1) (11, 22, 0) 5 m1) (11, 22, 0) 6 m1) _
      refine Ex.go 4 (pc' := 56) (ls' := [some (vR (10, 0, 0)), some (vI x1)]) (st' := [vI m1, vI 37, vR (11, 22, 0)]) (hp' := (up (up (up hp (11, 22, 0) 4 m1) (11, 22, 0) 5 m1) (11, 22, 0) 6 m1)) (fun _ => rfl) ?_
      refine Ex.iast (k := 37) rfl rfl (by decide) (by decide) ?_
      show Ex (d + 1) kX10_clears 57 [some (vR (10, 0, 0)), some (vI x1)] [] (up (up (up (up hp (11, 22, 0) 4 m1) (11, 22, 0) 5 m1) (11, 22, 0) 6 m1) (11, 22, 0) 37 m1) _
      refine Ex.go 4 (pc' := 64) (ls' := [some (vR (10, 0, 0)), some (vI x1)]) (st' := [vI 1, vI 8, vR (11, 22, 0)]) (hp' := (up (up (up (up hp (11, 22, 0) 4 m1) (11, 22, 0) 5 m1) (11, 22, 0) 6 m1) (11, 22, 0) 37 m1)) (fun _ => rfl) ?_
      refine Ex.iast (k := 8) rfl rfl (by decide) (by decide) ?_
      show Ex (d + 1) kX10_clears 65 [some (vR (10, 0, 0)), some (vI x1)] [] (up (up (up (up (up hp (11, 22, 0) 4 m1) (11, 22, 0) 5 m1) (11, 22, 0) 6 m1) (11, 22, 0) 37 m1) (11, 22, 0) 8 1) _
      refine Ex.go 3 (pc' := 69) (ls' := [some (vR (10, 0, 0)), some (vI x1)]) (st' := [vI 1, vI 12, vR (10, 0, 0)]) (hp' := (up (up (up (up (up hp (11, 22, 0) 4 m1) (11, 22, 0) 5 m1) (11, 22, 0) 6 m1) (11, 22, 0) 37 m1) (11, 22, 0) 8 1)) (fun _ => rfl) ?_
      obtain ⟨hp3, hv, h⟩ := Option.bind_eq_some_iff.mp h
      refine Ex.call (args := [vR (10, 0, 0), vI 12, vI 1]) (rest := []) rfl rfl rfl (exX10_puts (d := d + 0) hv) ?_
      show Ex (d + 1) kX10_clears 72 [some (vR (10, 0, 0)), some (vI x1)] [] hp3 _
      cases h
      exact Ex.ret rfl rfl rfl
def fX10_clears (hp : HP) : Option HP := fX10_clears_7 FU 0 (up hp (10, 0, 0) 2 0)
theorem exX10_clears {d : Nat} {hp : HP} {v : HP} (h : fX10_clears hp = some v) : Calls (d + 1) 182 [vR (10, 0, 0)] hp (rsV () v) := by
  replace h : (fX10_clears_7 FU 0 (up hp (10, 0, 0) 2 0)) = some v := h
  show Ex (d + 1) kX10_clears 0 [some (vR (10, 0, 0)), none] [] hp _
  refine Ex.go 5 (pc' := 7) (ls' := [some (vR (10, 0, 0)), some (vI 0)]) (st' := []) (hp' := (up hp (10, 0, 0) 2 0)) (fun _ => rfl) ?_
  exact exX10_clears_7 FU _ _ _ h
def fX10_withLetter_2 (n : Nat) (x1 : Int32) (x2 : Int32) (hp : HP) : Option Int32 := match n with
  | 0 => none
  | n + 1 => if x2 < (hp (10, 0, 0) 2) then (if inb x2 (alen (11, 20, 0)) = true then (if (hp (11, 20, 0) x2.toNatClampNeg) = x1 then (some x2) else (fX10_withLetter_2 n x1 (x2 + 1) hp)) else none) else (some m1)
theorem exX10_withLetter_2 {d : Nat} : ∀ (n : Nat) (x1 : Int32) (x2 : Int32) (hp : HP) (v : Int32), fX10_withLetter_2 n x1 x2 hp = some v → Ex (d + 0) kX10_withLetter 2 [some (vR (10, 0, 0)), some (vI x1), some (vI x2)] [] hp (rsI v hp) := by
  intro n
  induction n with
  | zero =>
    intro x1 x2 hp v h
    cases h
  | succ n ih =>
    intro x1 x2 hp v h
    replace h : (if x2 < (hp (10, 0, 0) 2) then (if inb x2 (alen (11, 20, 0)) = true then (if (hp (11, 20, 0) x2.toNatClampNeg) = x1 then (some x2) else (fX10_withLetter_2 n x1 (x2 + 1) hp)) else none) else (some m1)) = some v := h
    refine Ex.go 3 (pc' := 7) (ls' := [some (vR (10, 0, 0)), some (vI x1), some (vI x2)]) (st' := [vI (hp (10, 0, 0) 2), vI x2]) (hp' := hp) (fun _ => rfl) ?_
    refine Ex.icmp rfl ?_
    by_cases hc : x2 < (hp (10, 0, 0) 2)
    · rw [if_pos hc] at h
      rw [brI_ge_p hc]
      show Ex (d + 0) kX10_withLetter 10 [some (vR (10, 0, 0)), some (vI x1), some (vI x2)] [] hp _
      refine Ex.go 3 (pc' := 15) (ls' := [some (vR (10, 0, 0)), some (vI x1), some (vI x2)]) (st' := [vI x2, vR (11, 20, 0)]) (hp' := hp) (fun _ => rfl) ?_
      by_cases hc : inb x2 (alen (11, 20, 0)) = true
      · rw [if_pos hc] at h
        refine Ex.iald rfl rfl hc rfl ?_
        show Ex (d + 0) kX10_withLetter 16 [some (vR (10, 0, 0)), some (vI x1), some (vI x2)] [vI (hp (11, 20, 0) x2.toNatClampNeg)] hp _
        refine Ex.go 1 (pc' := 17) (ls' := [some (vR (10, 0, 0)), some (vI x1), some (vI x2)]) (st' := [vI x1, vI (hp (11, 20, 0) x2.toNatClampNeg)]) (hp' := hp) (fun _ => rfl) ?_
        refine Ex.icmp rfl ?_
        by_cases hc : (hp (11, 20, 0) x2.toNatClampNeg) = x1
        · rw [if_pos hc] at h
          rw [brI_ne_p hc]
          show Ex (d + 0) kX10_withLetter 20 [some (vR (10, 0, 0)), some (vI x1), some (vI x2)] [] hp _
          refine Ex.go 1 (pc' := 21) (ls' := [some (vR (10, 0, 0)), some (vI x1), some (vI x2)]) (st' := [vI x2]) (hp' := hp) (fun _ => rfl) ?_
          cases h
          exact Ex.ret rfl rfl rfl
        · rw [if_neg hc] at h
          rw [brI_ne_n hc]
          show Ex (d + 0) kX10_withLetter 22 [some (vR (10, 0, 0)), some (vI x1), some (vI x2)] [] hp _
          refine Ex.go 2 (pc' := 2) (ls' := [some (vR (10, 0, 0)), some (vI x1), some (vI (x2 + 1))]) (st' := []) (hp' := hp) (fun _ => rfl) ?_
          exact ih _ _ _ _ h
      · rw [if_neg hc] at h
        cases h
    · rw [if_neg hc] at h
      rw [brI_ge_n hc]
      show Ex (d + 0) kX10_withLetter 28 [some (vR (10, 0, 0)), some (vI x1), some (vI x2)] [] hp _
      refine Ex.go 1 (pc' := 29) (ls' := [some (vR (10, 0, 0)), some (vI x1), some (vI x2)]) (st' := [vI m1]) (hp' := hp) (fun _ => rfl) ?_
      cases h
      exact Ex.ret rfl rfl rfl
def fX10_withLetter (a0 : Int32) (hp : HP) : Option Int32 := fX10_withLetter_2 FU a0 0 hp
theorem exX10_withLetter {d : Nat} {a0 : Int32} {hp : HP} {v : Int32} (h : fX10_withLetter a0 hp = some v) : Calls (d + 0) 183 [vR (10, 0, 0), vI a0] hp (rsI v hp) := by
  replace h : (fX10_withLetter_2 FU a0 0 hp) = some v := h
  show Ex (d + 0) kX10_withLetter 0 [some (vR (10, 0, 0)), some (vI a0), none] [] hp _
  refine Ex.go 2 (pc' := 2) (ls' := [some (vR (10, 0, 0)), some (vI a0), some (vI 0)]) (st' := []) (hp' := hp) (fun _ => rfl) ?_
  exact exX10_withLetter_2 FU _ _ _ _ h
def fX10_barLine_146 (hp : HP) : Option HP := some (up hp (10, 0, 0) 2 ((hp (10, 0, 0) 2) + 1))
theorem exX10_barLine_146 {d : Nat} {j1 : Option VL} {j2 : Option VL} {hp : HP} {v : HP} (h : fX10_barLine_146 hp = some v) : Ex (d + 4) kX10_barLine 146 [some (vR (10, 0, 0)), j1, j2] [] hp (rsV () v) := by
  replace h : (some (up hp (10, 0, 0) 2 ((hp (10, 0, 0) 2) + 1))) = some v := h
  refine Ex.go 6 (pc' := 156) (ls' := [some (vR (10, 0, 0)), j1, j2]) (st' := []) (hp' := (up hp (10, 0, 0) 2 ((hp (10, 0, 0) 2) + 1))) (fun _ => rfl) ?_
  cases h
  exact Ex.ret rfl rfl rfl
def fX10_barLine_129 (hp : HP) : Option HP := if inb ((38 + (2 * (hp (10, 0, 0) 2))) + 0) (alen (11, 22, 0)) = true then (fX10_barLine_146 (up hp (11, 22, 0) (((38 + (2 * (hp (10, 0, 0) 2))) + 0).toNatClampNeg) m1)) else none
theorem exX10_barLine_129 {d : Nat} {j1 : Option VL} {j2 : Option VL} {hp : HP} {v : HP} (h : fX10_barLine_129 hp = some v) : Ex (d + 4) kX10_barLine 129 [some (vR (10, 0, 0)), j1, j2] [] hp (rsV () v) := by
  replace h : (if inb ((38 + (2 * (hp (10, 0, 0) 2))) + 0) (alen (11, 22, 0)) = true then (fX10_barLine_146 (up hp (11, 22, 0) (((38 + (2 * (hp (10, 0, 0) 2))) + 0).toNatClampNeg) m1)) else none) = some v := h
  refine Ex.go 11 (pc' := 145) (ls' := [some (vR (10, 0, 0)), j1, j2]) (st' := [vI m1, vI ((38 + (2 * (hp (10, 0, 0) 2))) + 0), vR (11, 22, 0)]) (hp' := hp) (fun _ => rfl) ?_
  by_cases hc : inb ((38 + (2 * (hp (10, 0, 0) 2))) + 0) (alen (11, 22, 0)) = true
  · rw [if_pos hc] at h
    refine Ex.iast rfl rfl hc rfl ?_
    show Ex (d + 4) kX10_barLine 146 [some (vR (10, 0, 0)), j1, j2] [] (up hp (11, 22, 0) (((38 + (2 * (hp (10, 0, 0) 2))) + 0).toNatClampNeg) m1) _
    exact exX10_barLine_146 h
  · rw [if_neg hc] at h
    cases h
def fX10_barLine_119 (x2 : Int32) (hp : HP) : Option HP := if inb (hp (10, 0, 0) 2) (alen (11, 21, 0)) = true then (fX10_barLine_129 (up hp (11, 21, 0) ((hp (10, 0, 0) 2).toNatClampNeg) x2)) else none
theorem exX10_barLine_119 {d : Nat} {x2 : Int32} {j1 : Option VL} {hp : HP} {v : HP} (h : fX10_barLine_119 x2 hp = some v) : Ex (d + 4) kX10_barLine 119 [some (vR (10, 0, 0)), j1, some (vI x2)] [] hp (rsV () v) := by
  replace h : (if inb (hp (10, 0, 0) 2) (alen (11, 21, 0)) = true then (fX10_barLine_129 (up hp (11, 21, 0) ((hp (10, 0, 0) 2).toNatClampNeg) x2)) else none) = some v := h
  refine Ex.go 5 (pc' := 128) (ls' := [some (vR (10, 0, 0)), j1, some (vI x2)]) (st' := [vI x2, vI (hp (10, 0, 0) 2), vR (11, 21, 0)]) (hp' := hp) (fun _ => rfl) ?_
  by_cases hc : inb (hp (10, 0, 0) 2) (alen (11, 21, 0)) = true
  · rw [if_pos hc] at h
    refine Ex.iast rfl rfl hc rfl ?_
    show Ex (d + 4) kX10_barLine 129 [some (vR (10, 0, 0)), j1, some (vI x2)] [] (up hp (11, 21, 0) ((hp (10, 0, 0) 2).toNatClampNeg) x2) _
    exact exX10_barLine_129 h
  · rw [if_neg hc] at h
    cases h
def fX10_barLine_85 (x1 : Int32) (y1 : Int32) (hp : HP) : Option HP := (fX10_failsIf y1 3 hp).bind fun hp3 => (fX10_goesOn hp3).bind fun hp6 => (fX10_takes 0 180 hp6).bind fun q8 => if (q8.2 (10, 0, 0) 19) = 0 then (if inb (q8.2 (10, 0, 0) 2) (alen (11, 20, 0)) = true then (fX10_barLine_119 q8.1 (up q8.2 (11, 20, 0) ((q8.2 (10, 0, 0) 2).toNatClampNeg) x1)) else none) else (some q8.2)
theorem exX10_barLine_85 {d : Nat} {x1 : Int32} {y1 : Int32} {j2 : Option VL} {hp : HP} {v : HP} (h : fX10_barLine_85 x1 y1 hp = some v) : Ex (d + 4) kX10_barLine 85 [some (vR (10, 0, 0)), some (vI x1), j2] [vI y1, vR (10, 0, 0)] hp (rsV () v) := by
  replace h : ((fX10_failsIf y1 3 hp).bind fun hp3 => (fX10_goesOn hp3).bind fun hp6 => (fX10_takes 0 180 hp6).bind fun q8 => if (q8.2 (10, 0, 0) 19) = 0 then (if inb (q8.2 (10, 0, 0) 2) (alen (11, 20, 0)) = true then (fX10_barLine_119 q8.1 (up q8.2 (11, 20, 0) ((q8.2 (10, 0, 0) 2).toNatClampNeg) x1)) else none) else (some q8.2)) = some v := h
  refine Ex.go 1 (pc' := 86) (ls' := [some (vR (10, 0, 0)), some (vI x1), j2]) (st' := [vI 3, vI y1, vR (10, 0, 0)]) (hp' := hp) (fun _ => rfl) ?_
  obtain ⟨hp3, hv, h⟩ := Option.bind_eq_some_iff.mp h
  refine Ex.call (args := [vR (10, 0, 0), vI y1, vI 3]) (rest := []) rfl rfl rfl (exX10_failsIf (d := d + 2) hv) ?_
  show Ex (d + 4) kX10_barLine 89 [some (vR (10, 0, 0)), some (vI x1), j2] [] hp3 _
  refine Ex.go 1 (pc' := 90) (ls' := [some (vR (10, 0, 0)), some (vI x1), j2]) (st' := [vR (10, 0, 0)]) (hp' := hp3) (fun _ => rfl) ?_
  obtain ⟨hp6, hv, h⟩ := Option.bind_eq_some_iff.mp h
  refine Ex.call (args := [vR (10, 0, 0)]) (rest := []) rfl rfl rfl (exX10_goesOn (d := d + 1) hv) ?_
  show Ex (d + 4) kX10_barLine 93 [some (vR (10, 0, 0)), some (vI x1), j2] [] hp6 _
  refine Ex.go 3 (pc' := 98) (ls' := [some (vR (10, 0, 0)), some (vI x1), j2]) (st' := [vI 180, vI 0, vR (10, 0, 0)]) (hp' := hp6) (fun _ => rfl) ?_
  obtain ⟨q8, hv, h⟩ := Option.bind_eq_some_iff.mp h
  refine Ex.call (args := [vR (10, 0, 0), vI 0, vI 180]) (rest := []) rfl rfl rfl (exX10_takes (d := d + 0) hv) ?_
  show Ex (d + 4) kX10_barLine 101 [some (vR (10, 0, 0)), some (vI x1), j2] [vI q8.1] q8.2 _
  refine Ex.go 3 (pc' := 106) (ls' := [some (vR (10, 0, 0)), some (vI x1), some (vI q8.1)]) (st' := [vI (q8.2 (10, 0, 0) 19)]) (hp' := q8.2) (fun _ => rfl) ?_
  refine Ex.ifc rfl ?_
  by_cases hc : (q8.2 (10, 0, 0) 19) = 0
  · rw [if_pos hc] at h
    rw [brI_ne_p hc]
    show Ex (d + 4) kX10_barLine 109 [some (vR (10, 0, 0)), some (vI x1), some (vI q8.1)] [] q8.2 _
    refine Ex.go 5 (pc' := 118) (ls' := [some (vR (10, 0, 0)), some (vI x1), some (vI q8.1)]) (st' := [vI x1, vI (q8.2 (10, 0, 0) 2), vR (11, 20, 0)]) (hp' := q8.2) (fun _ => rfl) ?_
    by_cases hc : inb (q8.2 (10, 0, 0) 2) (alen (11, 20, 0)) = true
    · rw [if_pos hc] at h
      refine Ex.iast rfl rfl hc rfl ?_
      show Ex (d + 4) kX10_barLine 119 [some (vR (10, 0, 0)), some (vI x1), some (vI q8.1)] [] (up q8.2 (11, 20, 0) ((q8.2 (10, 0, 0) 2).toNatClampNeg) x1) _
      exact exX10_barLine_119 h
    · rw [if_neg hc] at h
      cases h
  · rw [if_neg hc] at h
    rw [brI_ne_n hc]
    show Ex (d + 4) kX10_barLine 156 [some (vR (10, 0, 0)), some (vI x1), some (vI q8.1)] [] q8.2 _
    cases h
    exact Ex.ret rfl rfl rfl
def fX10_barLine_84 (x1 : Int32) (hp : HP) : Option HP := fX10_barLine_85 x1 0 hp
theorem exX10_barLine_84 {d : Nat} {x1 : Int32} {j2 : Option VL} {hp : HP} {v : HP} (h : fX10_barLine_84 x1 hp = some v) : Ex (d + 4) kX10_barLine 84 [some (vR (10, 0, 0)), some (vI x1), j2] [vR (10, 0, 0)] hp (rsV () v) := by
  replace h : (fX10_barLine_85 x1 0 hp) = some v := h
  refine Ex.go 1 (pc' := 85) (ls' := [some (vR (10, 0, 0)), some (vI x1), j2]) (st' := [vI 0, vR (10, 0, 0)]) (hp' := hp) (fun _ => rfl) ?_
  exact exX10_barLine_85 h
def fX10_barLine_62 (y0 : Int32) (hp : HP) : Option HP := if (hp (10, 0, 0) 19) = 0 then ((fX10_withLetter y0 hp).bind fun v9 => if v9 = m1 then (fX10_barLine_84 y0 hp) else (fX10_barLine_85 y0 1 hp)) else (fX10_barLine_84 y0 hp)
theorem exX10_barLine_62 {d : Nat} {y0 : Int32} {j1 : Option VL} {j2 : Option VL} {hp : HP} {v : HP} (h : fX10_barLine_62 y0 hp = some v) : Ex (d + 4) kX10_barLine 62 [some (vR (10, 0, 0)), j1, j2] [vI y0] hp (rsV () v) := by
  replace h : (if (hp (10, 0, 0) 19) = 0 then ((fX10_withLetter y0 hp).bind fun v9 => if v9 = m1 then (fX10_barLine_84 y0 hp) else (fX10_barLine_85 y0 1 hp)) else (fX10_barLine_84 y0 hp)) = some v := h
  refine Ex.go 4 (pc' := 68) (ls' := [some (vR (10, 0, 0)), some (vI y0), j2]) (st' := [vI (hp (10, 0, 0) 19), vR (10, 0, 0)]) (hp' := hp) (fun _ => rfl) ?_
  refine Ex.ifc rfl ?_
  by_cases hc : (hp (10, 0, 0) 19) = 0
  · rw [if_pos hc] at h
    rw [brI_ne_p hc]
    show Ex (d + 4) kX10_barLine 71 [some (vR (10, 0, 0)), some (vI y0), j2] [vR (10, 0, 0)] hp _
    refine Ex.go 2 (pc' := 73) (ls' := [some (vR (10, 0, 0)), some (vI y0), j2]) (st' := [vI y0, vR (10, 0, 0), vR (10, 0, 0)]) (hp' := hp) (fun _ => rfl) ?_
    obtain ⟨v9, hv, h⟩ := Option.bind_eq_some_iff.mp h
    refine Ex.call (args := [vR (10, 0, 0), vI y0]) (rest := [vR (10, 0, 0)]) rfl rfl rfl (exX10_withLetter (d := d + 3) hv) ?_
    show Ex (d + 4) kX10_barLine 76 [some (vR (10, 0, 0)), some (vI y0), j2] [vI v9, vR (10, 0, 0)] hp _
    refine Ex.go 1 (pc' := 77) (ls' := [some (vR (10, 0, 0)), some (vI y0), j2]) (st' := [vI m1, vI v9, vR (10, 0, 0)]) (hp' := hp) (fun _ => rfl) ?_
    refine Ex.icmp rfl ?_
    by_cases hc : v9 = m1
    · rw [if_pos hc] at h
      rw [brI_eq_p hc]
      show Ex (d + 4) kX10_barLine 84 [some (vR (10, 0, 0)), some (vI y0), j2] [vR (10, 0, 0)] hp _
      exact exX10_barLine_84 h
    · rw [if_neg hc] at h
      rw [brI_eq_n hc]
      show Ex (d + 4) kX10_barLine 80 [some (vR (10, 0, 0)), some (vI y0), j2] [vR (10, 0, 0)] hp _
      refine Ex.go 2 (pc' := 85) (ls' := [some (vR (10, 0, 0)), some (vI y0), j2]) (st' := [vI 1, vR (10, 0, 0)]) (hp' := hp) (fun _ => rfl) ?_
      exact exX10_barLine_85 h
  · rw [if_neg hc] at h
    rw [brI_ne_n hc]
    show Ex (d + 4) kX10_barLine 84 [some (vR (10, 0, 0)), some (vI y0), j2] [vR (10, 0, 0)] hp _
    exact exX10_barLine_84 h
def fX10_barLine_38 (y1 : Int32) (hp : HP) : Option HP := (fX10_failsIf y1 1 hp).bind fun hp12 => if (hp12 (10, 0, 0) 19) = 0 then ((fX10_seen (hp12 (10, 0, 0) 16) hp12).bind fun v13 => fX10_barLine_62 v13 hp12) else (fX10_barLine_62 97 hp12)
theorem exX10_barLine_38 {d : Nat} {y1 : Int32} {j1 : Option VL} {j2 : Option VL} {hp : HP} {v : HP} (h : fX10_barLine_38 y1 hp = some v) : Ex (d + 4) kX10_barLine 38 [some (vR (10, 0, 0)), j1, j2] [vI y1, vR (10, 0, 0)] hp (rsV () v) := by
  replace h : ((fX10_failsIf y1 1 hp).bind fun hp12 => if (hp12 (10, 0, 0) 19) = 0 then ((fX10_seen (hp12 (10, 0, 0) 16) hp12).bind fun v13 => fX10_barLine_62 v13 hp12) else (fX10_barLine_62 97 hp12)) = some v := h
  refine Ex.go 1 (pc' := 39) (ls' := [some (vR (10, 0, 0)), j1, j2]) (st' := [vI 1, vI y1, vR (10, 0, 0)]) (hp' := hp) (fun _ => rfl) ?_
  obtain ⟨hp12, hv, h⟩ := Option.bind_eq_some_iff.mp h
  refine Ex.call (args := [vR (10, 0, 0), vI y1, vI 1]) (rest := []) rfl rfl rfl (exX10_failsIf (d := d + 2) hv) ?_
  show Ex (d + 4) kX10_barLine 42 [some (vR (10, 0, 0)), j1, j2] [] hp12 _
  refine Ex.go 2 (pc' := 46) (ls' := [some (vR (10, 0, 0)), j1, j2]) (st' := [vI (hp12 (10, 0, 0) 19)]) (hp' := hp12) (fun _ => rfl) ?_
  refine Ex.ifc rfl ?_
  by_cases hc : (hp12 (10, 0, 0) 19) = 0
  · rw [if_pos hc] at h
    rw [brI_ne_p hc]
    show Ex (d + 4) kX10_barLine 49 [some (vR (10, 0, 0)), j1, j2] [] hp12 _
    refine Ex.go 3 (pc' := 54) (ls' := [some (vR (10, 0, 0)), j1, j2]) (st' := [vI (hp12 (10, 0, 0) 16), vR (10, 0, 0)]) (hp' := hp12) (fun _ => rfl) ?_
    obtain ⟨v13, hv, h⟩ := Option.bind_eq_some_iff.mp h
    refine Ex.call (args := [vR (10, 0, 0), vI (hp12 (10, 0, 0) 16)]) (rest := []) rfl rfl rfl (exX10_seen (d := d + 3) hv) ?_
    show Ex (d + 4) kX10_barLine 57 [some (vR (10, 0, 0)), j1, j2] [vI v13] hp12 _
    refine Ex.go 1 (pc' := 62) (ls' := [some (vR (10, 0, 0)), j1, j2]) (st' := [vI v13]) (hp' := hp12) (fun _ => rfl) ?_
    exact exX10_barLine_62 h
  · rw [if_neg hc] at h
    rw [brI_ne_n hc]
    show Ex (d + 4) kX10_barLine 60 [some (vR (10, 0, 0)), j1, j2] [] hp12 _
    refine Ex.go 1 (pc' := 62) (ls' := [some (vR (10, 0, 0)), j1, j2]) (st' := [vI 97]) (hp' := hp12) (fun _ => rfl) ?_
    exact exX10_barLine_62 h
def fX10_barLine_37 (hp : HP) : Option HP := fX10_barLine_38 0 hp
theorem exX10_barLine_37 {d : Nat} {j1 : Option VL} {j2 : Option VL} {hp : HP} {v : HP} (h : fX10_barLine_37 hp = some v) : Ex (d + 4) kX10_barLine 37 [some (vR (10, 0, 0)), j1, j2] [vR (10, 0, 0)] hp (rsV () v) := by
  replace h : (fX10_barLine_38 0 hp) = some v := h
  refine Ex.go 1 (pc' := 38) (ls' := [some (vR (10, 0, 0)), j1, j2]) (st' := [vI 0, vR (10, 0, 0)]) (hp' := hp) (fun _ => rfl) ?_
  exact exX10_barLine_38 h
def fX10_barLine (hp : HP) : Option HP := (fX10_goesOn hp).bind fun hp16 => if (hp16 (10, 0, 0) 19) = 0 then (if (hp16 (10, 0, 0) 17) = 1 then (if ((hp16 (10, 0, 0) 15) - (hp16 (10, 0, 0) 16)) = 1 then (fX10_barLine_37 hp16) else (fX10_barLine_38 1 hp16)) else (fX10_barLine_38 1 hp16)) else (fX10_barLine_37 hp16)
theorem exX10_barLine {d : Nat} {hp : HP} {v : HP} (h : fX10_barLine hp = some v) : Calls (d + 4) 184 [vR (10, 0, 0)] hp (rsV () v) := by
  replace h : ((fX10_goesOn hp).bind fun hp16 => if (hp16 (10, 0, 0) 19) = 0 then (if (hp16 (10, 0, 0) 17) = 1 then (if ((hp16 (10, 0, 0) 15) - (hp16 (10, 0, 0) 16)) = 1 then (fX10_barLine_37 hp16) else (fX10_barLine_38 1 hp16)) else (fX10_barLine_38 1 hp16)) else (fX10_barLine_37 hp16)) = some v := h
  show Ex (d + 4) kX10_barLine 0 [some (vR (10, 0, 0)), none, none] [] hp _
  refine Ex.go 1 (pc' := 1) (ls' := [some (vR (10, 0, 0)), none, none]) (st' := [vR (10, 0, 0)]) (hp' := hp) (fun _ => rfl) ?_
  obtain ⟨hp16, hv, h⟩ := Option.bind_eq_some_iff.mp h
  refine Ex.call (args := [vR (10, 0, 0)]) (rest := []) rfl rfl rfl (exX10_goesOn (d := d + 1) hv) ?_
  show Ex (d + 4) kX10_barLine 4 [some (vR (10, 0, 0)), none, none] [] hp16 _
  refine Ex.go 3 (pc' := 9) (ls' := [some (vR (10, 0, 0)), none, none]) (st' := [vI (hp16 (10, 0, 0) 19), vR (10, 0, 0)]) (hp' := hp16) (fun _ => rfl) ?_
  refine Ex.ifc rfl ?_
  by_cases hc : (hp16 (10, 0, 0) 19) = 0
  · rw [if_pos hc] at h
    rw [brI_ne_p hc]
    show Ex (d + 4) kX10_barLine 12 [some (vR (10, 0, 0)), none, none] [vR (10, 0, 0)] hp16 _
    refine Ex.go 3 (pc' := 17) (ls' := [some (vR (10, 0, 0)), none, none]) (st' := [vI 1, vI (hp16 (10, 0, 0) 17), vR (10, 0, 0)]) (hp' := hp16) (fun _ => rfl) ?_
    refine Ex.icmp rfl ?_
    by_cases hc : (hp16 (10, 0, 0) 17) = 1
    · rw [if_pos hc] at h
      rw [brI_ne_p hc]
      show Ex (d + 4) kX10_barLine 20 [some (vR (10, 0, 0)), none, none] [vR (10, 0, 0)] hp16 _
      refine Ex.go 6 (pc' := 30) (ls' := [some (vR (10, 0, 0)), none, none]) (st' := [vI 1, vI ((hp16 (10, 0, 0) 15) - (hp16 (10, 0, 0) 16)), vR (10, 0, 0)]) (hp' := hp16) (fun _ => rfl) ?_
      refine Ex.icmp rfl ?_
      by_cases hc : ((hp16 (10, 0, 0) 15) - (hp16 (10, 0, 0) 16)) = 1
      · rw [if_pos hc] at h
        rw [brI_eq_p hc]
        show Ex (d + 4) kX10_barLine 37 [some (vR (10, 0, 0)), none, none] [vR (10, 0, 0)] hp16 _
        exact exX10_barLine_37 h
      · rw [if_neg hc] at h
        rw [brI_eq_n hc]
        show Ex (d + 4) kX10_barLine 33 [some (vR (10, 0, 0)), none, none] [vR (10, 0, 0)] hp16 _
        refine Ex.go 2 (pc' := 38) (ls' := [some (vR (10, 0, 0)), none, none]) (st' := [vI 1, vR (10, 0, 0)]) (hp' := hp16) (fun _ => rfl) ?_
        exact exX10_barLine_38 h
    · rw [if_neg hc] at h
      rw [brI_ne_n hc]
      show Ex (d + 4) kX10_barLine 33 [some (vR (10, 0, 0)), none, none] [vR (10, 0, 0)] hp16 _
      refine Ex.go 2 (pc' := 38) (ls' := [some (vR (10, 0, 0)), none, none]) (st' := [vI 1, vR (10, 0, 0)]) (hp' := hp16) (fun _ => rfl) ?_
      exact exX10_barLine_38 h
  · rw [if_neg hc] at h
    rw [brI_ne_n hc]
    show Ex (d + 4) kX10_barLine 37 [some (vR (10, 0, 0)), none, none] [vR (10, 0, 0)] hp16 _
    exact exX10_barLine_37 h
def fX10_tabLine_64 (hp : HP) : Option HP := (fX10_goesOn hp).bind fun hp3 => some hp3
theorem exX10_tabLine_64 {d : Nat} {j1 : Option VL} {hp : HP} {v : HP} (h : fX10_tabLine_64 hp = some v) : Ex (d + 3) kX10_tabLine 64 [some (vR (10, 0, 0)), j1] [] hp (rsV () v) := by
  replace h : ((fX10_goesOn hp).bind fun hp3 => some hp3) = some v := h
  refine Ex.go 1 (pc' := 65) (ls' := [some (vR (10, 0, 0)), j1]) (st' := [vR (10, 0, 0)]) (hp' := hp) (fun _ => rfl) ?_
  obtain ⟨hp3, hv, h⟩ := Option.bind_eq_some_iff.mp h
  refine Ex.call (args := [vR (10, 0, 0)]) (rest := []) rfl rfl rfl (exX10_goesOn (d := d + 0) hv) ?_
  show Ex (d + 3) kX10_tabLine 68 [some (vR (10, 0, 0)), j1] [] hp3 _
  cases h
  exact Ex.ret rfl rfl rfl
def fX10_tabLine_43 (x1 : Int32) (y1 : Int32) (hp : HP) : Option HP := (fX10_failsIf y1 3 hp).bind fun hp6 => if (hp6 (10, 0, 0) 19) = 0 then (if inb (90 + x1) (alen (11, 22, 0)) = true then (fX10_tabLine_64 (up hp6 (11, 22, 0) ((90 + x1).toNatClampNeg) 1)) else none) else (fX10_tabLine_64 hp6)
theorem exX10_tabLine_43 {d : Nat} {x1 : Int32} {y1 : Int32} {hp : HP} {v : HP} (h : fX10_tabLine_43 x1 y1 hp = some v) : Ex (d + 3) kX10_tabLine 43 [some (vR (10, 0, 0)), some (vI x1)] [vI y1, vR (10, 0, 0)] hp (rsV () v) := by
  replace h : ((fX10_failsIf y1 3 hp).bind fun hp6 => if (hp6 (10, 0, 0) 19) = 0 then (if inb (90 + x1) (alen (11, 22, 0)) = true then (fX10_tabLine_64 (up hp6 (11, 22, 0) ((90 + x1).toNatClampNeg) 1)) else none) else (fX10_tabLine_64 hp6)) = some v := h
  refine Ex.go 1 (pc' := 44) (ls' := [some (vR (10, 0, 0)), some (vI x1)]) (st' := [vI 3, vI y1, vR (10, 0, 0)]) (hp' := hp) (fun _ => rfl) ?_
  obtain ⟨hp6, hv, h⟩ := Option.bind_eq_some_iff.mp h
  refine Ex.call (args := [vR (10, 0, 0), vI y1, vI 3]) (rest := []) rfl rfl rfl (exX10_failsIf (d := d + 1) hv) ?_
  show Ex (d + 3) kX10_tabLine 47 [some (vR (10, 0, 0)), some (vI x1)] [] hp6 _
  refine Ex.go 2 (pc' := 51) (ls' := [some (vR (10, 0, 0)), some (vI x1)]) (st' := [vI (hp6 (10, 0, 0) 19)]) (hp' := hp6) (fun _ => rfl) ?_
  refine Ex.ifc rfl ?_
  by_cases hc : (hp6 (10, 0, 0) 19) = 0
  · rw [if_pos hc] at h
    rw [brI_ne_p hc]
    show Ex (d + 3) kX10_tabLine 54 [some (vR (10, 0, 0)), some (vI x1)] [] hp6 _
    refine Ex.go 6 (pc' := 63) (ls' := [some (vR (10, 0, 0)), some (vI x1)]) (st' := [vI 1, vI (90 + x1), vR (11, 22, 0)]) (hp' := hp6) (fun _ => rfl) ?_
    by_cases hc : inb (90 + x1) (alen (11, 22, 0)) = true
    · rw [if_pos hc] at h
      refine Ex.iast rfl rfl hc rfl ?_
      show Ex (d + 3) kX10_tabLine 64 [some (vR (10, 0, 0)), some (vI x1)] [] (up hp6 (11, 22, 0) ((90 + x1).toNatClampNeg) 1) _
      exact exX10_tabLine_64 h
    · rw [if_neg hc] at h
      cases h
  · rw [if_neg hc] at h
    rw [brI_ne_n hc]
    show Ex (d + 3) kX10_tabLine 64 [some (vR (10, 0, 0)), some (vI x1)] [] hp6 _
    exact exX10_tabLine_64 h
def fX10_tabLine_42 (x1 : Int32) (hp : HP) : Option HP := fX10_tabLine_43 x1 0 hp
theorem exX10_tabLine_42 {d : Nat} {x1 : Int32} {hp : HP} {v : HP} (h : fX10_tabLine_42 x1 hp = some v) : Ex (d + 3) kX10_tabLine 42 [some (vR (10, 0, 0)), some (vI x1)] [vR (10, 0, 0)] hp (rsV () v) := by
  replace h : (fX10_tabLine_43 x1 0 hp) = some v := h
  refine Ex.go 1 (pc' := 43) (ls' := [some (vR (10, 0, 0)), some (vI x1)]) (st' := [vI 0, vR (10, 0, 0)]) (hp' := hp) (fun _ => rfl) ?_
  exact exX10_tabLine_43 h
def fX10_tabLine (hp : HP) : Option HP := (fX10_goesOn hp).bind fun hp9 => (fX10_its 0 hp9).bind fun v10 => (fX10_looks 0 (v10 - 1) hp9).bind fun q12 => if (q12.2 (10, 0, 0) 19) = 0 then (if inb (90 + q12.1) (alen (11, 22, 0)) = true then (if (q12.2 (11, 22, 0) (90 + q12.1).toNatClampNeg) = 1 then (fX10_tabLine_43 q12.1 1 q12.2) else (fX10_tabLine_42 q12.1 q12.2)) else none) else (fX10_tabLine_42 q12.1 q12.2)
theorem exX10_tabLine {d : Nat} {hp : HP} {v : HP} (h : fX10_tabLine hp = some v) : Calls (d + 3) 185 [vR (10, 0, 0)] hp (rsV () v) := by
  replace h : ((fX10_goesOn hp).bind fun hp9 => (fX10_its 0 hp9).bind fun v10 => (fX10_looks 0 (v10 - 1) hp9).bind fun q12 => if (q12.2 (10, 0, 0) 19) = 0 then (if inb (90 + q12.1) (alen (11, 22, 0)) = true then (if (q12.2 (11, 22, 0) (90 + q12.1).toNatClampNeg) = 1 then (fX10_tabLine_43 q12.1 1 q12.2) else (fX10_tabLine_42 q12.1 q12.2)) else none) else (fX10_tabLine_42 q12.1 q12.2)) = some v := h
  show Ex (d + 3) kX10_tabLine 0 [some (vR (10, 0, 0)), none] [] hp _
  refine Ex.go 1 (pc' := 1) (ls' := [some (vR (10, 0, 0)), none]) (st' := [vR (10, 0, 0)]) (hp' := hp) (fun _ => rfl) ?_
  obtain ⟨hp9, hv, h⟩ := Option.bind_eq_some_iff.mp h
  refine Ex.call (args := [vR (10, 0, 0)]) (rest := []) rfl rfl rfl (exX10_goesOn (d := d + 0) hv) ?_
  show Ex (d + 3) kX10_tabLine 4 [some (vR (10, 0, 0)), none] [] hp9 _
  refine Ex.go 4 (pc' := 8) (ls' := [some (vR (10, 0, 0)), none]) (st' := [vI 0, vR (10, 0, 0), vI 0, vR (10, 0, 0)]) (hp' := hp9) (fun _ => rfl) ?_
  obtain ⟨v10, hv, h⟩ := Option.bind_eq_some_iff.mp h
  refine Ex.call (args := [vR (10, 0, 0), vI 0]) (rest := [vI 0, vR (10, 0, 0)]) rfl rfl rfl (exX10_its (d := d + 2) hv) ?_
  show Ex (d + 3) kX10_tabLine 11 [some (vR (10, 0, 0)), none] [vI v10, vI 0, vR (10, 0, 0)] hp9 _
  refine Ex.go 2 (pc' := 13) (ls' := [some (vR (10, 0, 0)), none]) (st' := [vI (v10 - 1), vI 0, vR (10, 0, 0)]) (hp' := hp9) (fun _ => rfl) ?_
  obtain ⟨q12, hv, h⟩ := Option.bind_eq_some_iff.mp h
  refine Ex.call (args := [vR (10, 0, 0), vI 0, vI (v10 - 1)]) (rest := []) rfl rfl rfl (exX10_looks (d := d + 1) hv) ?_
  show Ex (d + 3) kX10_tabLine 16 [some (vR (10, 0, 0)), none] [vI q12.1] q12.2 _
  refine Ex.go 4 (pc' := 22) (ls' := [some (vR (10, 0, 0)), some (vI q12.1)]) (st' := [vI (q12.2 (10, 0, 0) 19), vR (10, 0, 0)]) (hp' := q12.2) (fun _ => rfl) ?_
  refine Ex.ifc rfl ?_
  by_cases hc : (q12.2 (10, 0, 0) 19) = 0
  · rw [if_pos hc] at h
    rw [brI_ne_p hc]
    show Ex (d + 3) kX10_tabLine 25 [some (vR (10, 0, 0)), some (vI q12.1)] [vR (10, 0, 0)] q12.2 _
    refine Ex.go 5 (pc' := 33) (ls' := [some (vR (10, 0, 0)), some (vI q12.1)]) (st' := [vI (90 + q12.1), vR (11, 22, 0), vR (10, 0, 0)]) (hp' := q12.2) (fun _ => rfl) ?_
    by_cases hc : inb (90 + q12.1) (alen (11, 22, 0)) = true
    · rw [if_pos hc] at h
      refine Ex.iald rfl rfl hc rfl ?_
      show Ex (d + 3) kX10_tabLine 34 [some (vR (10, 0, 0)), some (vI q12.1)] [vI (q12.2 (11, 22, 0) (90 + q12.1).toNatClampNeg), vR (10, 0, 0)] q12.2 _
      refine Ex.go 1 (pc' := 35) (ls' := [some (vR (10, 0, 0)), some (vI q12.1)]) (st' := [vI 1, vI (q12.2 (11, 22, 0) (90 + q12.1).toNatClampNeg), vR (10, 0, 0)]) (hp' := q12.2) (fun _ => rfl) ?_
      refine Ex.icmp rfl ?_
      by_cases hc : (q12.2 (11, 22, 0) (90 + q12.1).toNatClampNeg) = 1
      · rw [if_pos hc] at h
        rw [brI_ne_p hc]
        show Ex (d + 3) kX10_tabLine 38 [some (vR (10, 0, 0)), some (vI q12.1)] [vR (10, 0, 0)] q12.2 _
        refine Ex.go 2 (pc' := 43) (ls' := [some (vR (10, 0, 0)), some (vI q12.1)]) (st' := [vI 1, vR (10, 0, 0)]) (hp' := q12.2) (fun _ => rfl) ?_
        exact exX10_tabLine_43 h
      · rw [if_neg hc] at h
        rw [brI_ne_n hc]
        show Ex (d + 3) kX10_tabLine 42 [some (vR (10, 0, 0)), some (vI q12.1)] [vR (10, 0, 0)] q12.2 _
        exact exX10_tabLine_42 h
    · rw [if_neg hc] at h
      cases h
  · rw [if_neg hc] at h
    rw [brI_ne_n hc]
    show Ex (d + 3) kX10_tabLine 42 [some (vR (10, 0, 0)), some (vI q12.1)] [vR (10, 0, 0)] q12.2 _
    exact exX10_tabLine_42 h
end
