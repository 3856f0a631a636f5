noncomputable section
def fX9_isStop (a0 : Int32) (hp : HP) : Option (Int32 ⊕ Nat) := (fX9_requireLoaded hp).bind fun q2 => Sum.elim (fun _ => (fX9_requireColumn a0 hp).bind fun q4 => Sum.elim (fun _ => (fX1_stopsAt 0 a0 hp).bind fun v5 => if isB v5 = true then some (.inl v5) else none) (fun E => some (.inr E)) q4) (fun E => some (.inr E)) q2
theorem exX9_isStop {d : Nat} {a0 : Int32} {hp : HP} {v : (Int32 ⊕ Nat)} (h : fX9_isStop a0 hp = some v) : Calls (d + 8) 101 [vR (9, 0, 0), vI a0] hp (rsT rsI v hp) := by
  replace h : ((fX9_requireLoaded hp).bind fun q2 => Sum.elim (fun _ => (fX9_requireColumn a0 hp).bind fun q4 => Sum.elim (fun _ => (fX1_stopsAt 0 a0 hp).bind fun v5 => if isB v5 = true then some (.inl v5) else none) (fun E => some (.inr E)) q4) (fun E => some (.inr E)) q2) = some v := h
  show Ex (d + 8) kX9_isStop 0 [some (vR (9, 0, 0)), some (vI a0)] [] hp _
  refine Ex.go 1 (pc' := 1) (ls' := [some (vR (9, 0, 0)), some (vI a0)]) (st' := [vR (9, 0, 0)]) (hp' := hp) (fun _ => rfl) ?_
  obtain ⟨q2, hv, h⟩ := Option.bind_eq_some_iff.mp h
  rcases q2 with _ | E
  · replace h : ((fX9_requireColumn a0 hp).bind fun q4 => Sum.elim (fun _ => (fX1_stopsAt 0 a0 hp).bind fun v5 => if isB v5 = true then some (.inl v5) else none) (fun E => some (.inr E)) q4) = some v := h
    refine Ex.call (args := [vR (9, 0, 0)]) (rest := []) rfl rfl rfl (exX9_requireLoaded (d := d + 1) hv) ?_
    show Ex (d + 8) kX9_isStop 4 [some (vR (9, 0, 0)), some (vI a0)] [] hp _
    refine Ex.go 2 (pc' := 6) (ls' := [some (vR (9, 0, 0)), some (vI a0)]) (st' := [vI a0, vR (9, 0, 0)]) (hp' := hp) (fun _ => rfl) ?_
    obtain ⟨q4, hv, h⟩ := Option.bind_eq_some_iff.mp h
    rcases q4 with _ | E
    · replace h : ((fX1_stopsAt 0 a0 hp).bind fun v5 => if isB v5 = true then some (.inl v5) else none) = some v := h
      refine Ex.call (args := [vR (9, 0, 0), vI a0]) (rest := []) rfl rfl rfl (exX9_requireColumn (d := d + 0) hv) ?_
      show Ex (d + 8) kX9_isStop 9 [some (vR (9, 0, 0)), some (vI a0)] [] hp _
      refine Ex.go 4 (pc' := 17) (ls' := [some (vR (9, 0, 0)), some (vI a0)]) (st' := [vI a0, vR (1, 0, 0)]) (hp' := hp) (fun _ => rfl) ?_
      obtain ⟨v5, hv, h⟩ := Option.bind_eq_some_iff.mp h
      refine Ex.call (args := [vR (1, 0, 0), vI a0]) (rest := []) rfl rfl rfl (exX1_stopsAt (d := d + 6) hv) ?_
      show Ex (d + 8) kX9_isStop 20 [some (vR (9, 0, 0)), some (vI a0)] [vI v5] hp _
      by_cases hc : isB v5 = true
      · rw [if_pos hc] at h
        cases h
        exact Ex.retz rfl hc rfl
      · rw [if_neg hc] at h
        cases h
    · cases h
      exact Ex.callT (args := [vR (9, 0, 0), vI a0]) (rest := []) rfl rfl rfl (exX9_requireColumn (d := d + 0) hv) rfl
  · cases h
    exact Ex.callT (args := [vR (9, 0, 0)]) (rest := []) rfl rfl rfl (exX9_requireLoaded (d := d + 1) hv) rfl
def fX9_reason (hp : HP) : Option (Int32 ⊕ Nat) := (fX9_requireLoaded hp).bind fun q2 => Sum.elim (fun _ => some (.inl (hp (3, 0, 0) 7))) (fun E => some (.inr E)) q2
theorem exX9_reason {d : Nat} {hp : HP} {v : (Int32 ⊕ Nat)} (h : fX9_reason hp = some v) : Calls (d + 7) 102 [vR (9, 0, 0)] hp (rsT rsI v hp) := by
  replace h : ((fX9_requireLoaded hp).bind fun q2 => Sum.elim (fun _ => some (.inl (hp (3, 0, 0) 7))) (fun E => some (.inr E)) q2) = some v := h
  show Ex (d + 7) kX9_reason 0 [some (vR (9, 0, 0))] [] hp _
  refine Ex.go 1 (pc' := 1) (ls' := [some (vR (9, 0, 0))]) (st' := [vR (9, 0, 0)]) (hp' := hp) (fun _ => rfl) ?_
  obtain ⟨q2, hv, h⟩ := Option.bind_eq_some_iff.mp h
  rcases q2 with _ | E
  · replace h : (some (.inl (hp (3, 0, 0) 7))) = some v := h
    refine Ex.call (args := [vR (9, 0, 0)]) (rest := []) rfl rfl rfl (exX9_requireLoaded (d := d + 0) hv) ?_
    show Ex (d + 7) kX9_reason 4 [some (vR (9, 0, 0))] [] hp _
    refine Ex.go 3 (pc' := 11) (ls' := [some (vR (9, 0, 0))]) (st' := [vI (hp (3, 0, 0) 7)]) (hp' := hp) (fun _ => rfl) ?_
    cases h
    exact Ex.ret rfl rfl rfl
  · cases h
    exact Ex.callT (args := [vR (9, 0, 0)]) (rest := []) rfl rfl rfl (exX9_requireLoaded (d := d + 0) hv) rfl
def fX9_reasonAt (hp : HP) : Option (Int32 ⊕ Nat) := (fX9_requireLoaded hp).bind fun q2 => Sum.elim (fun _ => some (.inl (hp (3, 0, 0) 8))) (fun E => some (.inr E)) q2
theorem exX9_reasonAt {d : Nat} {hp : HP} {v : (Int32 ⊕ Nat)} (h : fX9_reasonAt hp = some v) : Calls (d + 7) 103 [vR (9, 0, 0)] hp (rsT rsI v hp) := by
  replace h : ((fX9_requireLoaded hp).bind fun q2 => Sum.elim (fun _ => some (.inl (hp (3, 0, 0) 8))) (fun E => some (.inr E)) q2) = some v := h
  show Ex (d + 7) kX9_reasonAt 0 [some (vR (9, 0, 0))] [] hp _
  refine Ex.go 1 (pc' := 1) (ls' := [some (vR (9, 0, 0))]) (st' := [vR (9, 0, 0)]) (hp' := hp) (fun _ => rfl) ?_
  obtain ⟨q2, hv, h⟩ := Option.bind_eq_some_iff.mp h
  rcases q2 with _ | E
  · replace h : (some (.inl (hp (3, 0, 0) 8))) = some v := h
    refine Ex.call (args := [vR (9, 0, 0)]) (rest := []) rfl rfl rfl (exX9_requireLoaded (d := d + 0) hv) ?_
    show Ex (d + 7) kX9_reasonAt 4 [some (vR (9, 0, 0))] [] hp _
    refine Ex.go 3 (pc' := 11) (ls' := [some (vR (9, 0, 0))]) (st' := [vI (hp (3, 0, 0) 8)]) (hp' := hp) (fun _ => rfl) ?_
    cases h
    exact Ex.ret rfl rfl rfl
  · cases h
    exact Ex.callT (args := [vR (9, 0, 0)]) (rest := []) rfl rfl rfl (exX9_requireLoaded (d := d + 0) hv) rfl
def fX9_lineLength (a0 : Int32) (hp : HP) : Option (Int32 ⊕ Nat) := (fX9_requireLoaded hp).bind fun q2 => Sum.elim (fun _ => (fX9_requireLine a0 hp).bind fun q4 => Sum.elim (fun _ => (fX4_endOf 0 a0 hp).bind fun v5 => some (.inl v5)) (fun E => some (.inr E)) q4) (fun E => some (.inr E)) q2
theorem exX9_lineLength {d : Nat} {a0 : Int32} {hp : HP} {v : (Int32 ⊕ Nat)} (h : fX9_lineLength a0 hp = some v) : Calls (d + 8) 104 [vR (9, 0, 0), vI a0] hp (rsT rsI v hp) := by
  replace h : ((fX9_requireLoaded hp).bind fun q2 => Sum.elim (fun _ => (fX9_requireLine a0 hp).bind fun q4 => Sum.elim (fun _ => (fX4_endOf 0 a0 hp).bind fun v5 => some (.inl v5)) (fun E => some (.inr E)) q4) (fun E => some (.inr E)) q2) = some v := h
  show Ex (d + 8) kX9_lineLength 0 [some (vR (9, 0, 0)), some (vI a0)] [] hp _
  refine Ex.go 1 (pc' := 1) (ls' := [some (vR (9, 0, 0)), some (vI a0)]) (st' := [vR (9, 0, 0)]) (hp' := hp) (fun _ => rfl) ?_
  obtain ⟨q2, hv, h⟩ := Option.bind_eq_some_iff.mp h
  rcases q2 with _ | E
  · replace h : ((fX9_requireLine a0 hp).bind fun q4 => Sum.elim (fun _ => (fX4_endOf 0 a0 hp).bind fun v5 => some (.inl v5)) (fun E => some (.inr E)) q4) = some v := h
    refine Ex.call (args := [vR (9, 0, 0)]) (rest := []) rfl rfl rfl (exX9_requireLoaded (d := d + 1) hv) ?_
    show Ex (d + 8) kX9_lineLength 4 [some (vR (9, 0, 0)), some (vI a0)] [] hp _
    refine Ex.go 2 (pc' := 6) (ls' := [some (vR (9, 0, 0)), some (vI a0)]) (st' := [vI a0, vR (9, 0, 0)]) (hp' := hp) (fun _ => rfl) ?_
    obtain ⟨q4, hv, h⟩ := Option.bind_eq_some_iff.mp h
    rcases q4 with _ | E
    · replace h : ((fX4_endOf 0 a0 hp).bind fun v5 => some (.inl v5)) = some v := h
      refine Ex.call (args := [vR (9, 0, 0), vI a0]) (rest := []) rfl rfl rfl (exX9_requireLine (d := d + 0) hv) ?_
      show Ex (d + 8) kX9_lineLength 9 [some (vR (9, 0, 0)), some (vI a0)] [] hp _
      refine Ex.go 4 (pc' := 17) (ls' := [some (vR (9, 0, 0)), some (vI a0)]) (st' := [vI a0, vR (4, 0, 0)]) (hp' := hp) (fun _ => rfl) ?_
      obtain ⟨v5, hv, h⟩ := Option.bind_eq_some_iff.mp h
      refine Ex.call (args := [vR (4, 0, 0), vI a0]) (rest := []) rfl rfl rfl (exX4_endOf (d := d + 5) hv) ?_
      show Ex (d + 8) kX9_lineLength 20 [some (vR (9, 0, 0)), some (vI a0)] [vI v5] hp _
      cases h
      exact Ex.ret rfl rfl rfl
    · cases h
      exact Ex.callT (args := [vR (9, 0, 0), vI a0]) (rest := []) rfl rfl rfl (exX9_requireLine (d := d + 0) hv) rfl
  · cases h
    exact Ex.callT (args := [vR (9, 0, 0)]) (rest := []) rfl rfl rfl (exX9_requireLoaded (d := d + 1) hv) rfl
def fX9_words (a0 : Int32) (hp : HP) : Option (Int32 ⊕ Nat) := (fX9_requireLoaded hp).bind fun q2 => Sum.elim (fun _ => (fX9_requireLine a0 hp).bind fun q4 => Sum.elim (fun _ => (fX4_wordsIn 0 a0 hp).bind fun v5 => some (.inl v5)) (fun E => some (.inr E)) q4) (fun E => some (.inr E)) q2
theorem exX9_words {d : Nat} {a0 : Int32} {hp : HP} {v : (Int32 ⊕ Nat)} (h : fX9_words a0 hp = some v) : Calls (d + 8) 105 [vR (9, 0, 0), vI a0] hp (rsT rsI v hp) := by
  replace h : ((fX9_requireLoaded hp).bind fun q2 => Sum.elim (fun _ => (fX9_requireLine a0 hp).bind fun q4 => Sum.elim (fun _ => (fX4_wordsIn 0 a0 hp).bind fun v5 => some (.inl v5)) (fun E => some (.inr E)) q4) (fun E => some (.inr E)) q2) = some v := h
  show Ex (d + 8) kX9_words 0 [some (vR (9, 0, 0)), some (vI a0)] [] hp _
  refine Ex.go 1 (pc' := 1) (ls' := [some (vR (9, 0, 0)), some (vI a0)]) (st' := [vR (9, 0, 0)]) (hp' := hp) (fun _ => rfl) ?_
  obtain ⟨q2, hv, h⟩ := Option.bind_eq_some_iff.mp h
  rcases q2 with _ | E
  · replace h : ((fX9_requireLine a0 hp).bind fun q4 => Sum.elim (fun _ => (fX4_wordsIn 0 a0 hp).bind fun v5 => some (.inl v5)) (fun E => some (.inr E)) q4) = some v := h
    refine Ex.call (args := [vR (9, 0, 0)]) (rest := []) rfl rfl rfl (exX9_requireLoaded (d := d + 1) hv) ?_
    show Ex (d + 8) kX9_words 4 [some (vR (9, 0, 0)), some (vI a0)] [] hp _
    refine Ex.go 2 (pc' := 6) (ls' := [some (vR (9, 0, 0)), some (vI a0)]) (st' := [vI a0, vR (9, 0, 0)]) (hp' := hp) (fun _ => rfl) ?_
    obtain ⟨q4, hv, h⟩ := Option.bind_eq_some_iff.mp h
    rcases q4 with _ | E
    · replace h : ((fX4_wordsIn 0 a0 hp).bind fun v5 => some (.inl v5)) = some v := h
      refine Ex.call (args := [vR (9, 0, 0), vI a0]) (rest := []) rfl rfl rfl (exX9_requireLine (d := d + 0) hv) ?_
      show Ex (d + 8) kX9_words 9 [some (vR (9, 0, 0)), some (vI a0)] [] hp _
      refine Ex.go 4 (pc' := 17) (ls' := [some (vR (9, 0, 0)), some (vI a0)]) (st' := [vI a0, vR (4, 0, 0)]) (hp' := hp) (fun _ => rfl) ?_
      obtain ⟨v5, hv, h⟩ := Option.bind_eq_some_iff.mp h
      refine Ex.call (args := [vR (4, 0, 0), vI a0]) (rest := []) rfl rfl rfl (exX4_wordsIn (d := d + 5) hv) ?_
      show Ex (d + 8) kX9_words 20 [some (vR (9, 0, 0)), some (vI a0)] [vI v5] hp _
      cases h
      exact Ex.ret rfl rfl rfl
    · cases h
      exact Ex.callT (args := [vR (9, 0, 0), vI a0]) (rest := []) rfl rfl rfl (exX9_requireLine (d := d + 0) hv) rfl
  · cases h
    exact Ex.callT (args := [vR (9, 0, 0)]) (rest := []) rfl rfl rfl (exX9_requireLoaded (d := d + 1) hv) rfl
def fX9_letters_18 (x1 : Int32) (hp : HP) : Option (Int32 ⊕ Nat) := (fX4_placesWith 0 x1 hp).bind fun v1 => some (.inl v1)
theorem exX9_letters_18 {d : Nat} {x1 : Int32} {hp : HP} {v : (Int32 ⊕ Nat)} (h : fX9_letters_18 x1 hp = some v) : Ex (d + 7) kX9_letters 18 [some (vR (9, 0, 0)), some (vI x1)] [] hp (rsT rsI v hp) := by
  replace h : ((fX4_placesWith 0 x1 hp).bind fun v1 => some (.inl v1)) = some v := h
  refine Ex.go 4 (pc' := 26) (ls' := [some (vR (9, 0, 0)), some (vI x1)]) (st' := [vI x1, vR (4, 0, 0)]) (hp' := hp) (fun _ => rfl) ?_
  obtain ⟨v1, hv, h⟩ := Option.bind_eq_some_iff.mp h
  refine Ex.call (args := [vR (4, 0, 0), vI x1]) (rest := []) rfl rfl rfl (exX4_placesWith (d := d + 4) hv) ?_
  show Ex (d + 7) kX9_letters 29 [some (vR (9, 0, 0)), some (vI x1)] [vI v1] hp _
  refine Ex.go 1 (pc' := 33) (ls' := [some (vR (9, 0, 0)), some (vI x1)]) (st' := [vI v1]) (hp' := hp) (fun _ => rfl) ?_
  cases h
  exact Ex.ret rfl rfl rfl
def fX9_letters (a0 : Int32) (hp : HP) : Option (Int32 ⊕ Nat) := (fX9_requireLoaded hp).bind fun q3 => Sum.elim (fun _ => (fX9_isSmall a0 hp).bind fun v4 => if v4 = 0 then ((fX9_isCapital a0 hp).bind fun v5 => if v5 = 0 then (some (.inl 0)) else (fX9_letters_18 a0 hp)) else (fX9_letters_18 a0 hp)) (fun E => some (.inr E)) q3
theorem exX9_letters {d : Nat} {a0 : Int32} {hp : HP} {v : (Int32 ⊕ Nat)} (h : fX9_letters a0 hp = some v) : Calls (d + 7) 106 [vR (9, 0, 0), vI a0] hp (rsT rsI v hp) := by
  replace h : ((fX9_requireLoaded hp).bind fun q3 => Sum.elim (fun _ => (fX9_isSmall a0 hp).bind fun v4 => if v4 = 0 then ((fX9_isCapital a0 hp).bind fun v5 => if v5 = 0 then (some (.inl 0)) else (fX9_letters_18 a0 hp)) else (fX9_letters_18 a0 hp)) (fun E => some (.inr E)) q3) = some v := h
  show Ex (d + 7) kX9_letters 0 [some (vR (9, 0, 0)), some (vI a0)] [] hp _
  refine Ex.go 1 (pc' := 1) (ls' := [some (vR (9, 0, 0)), some (vI a0)]) (st' := [vR (9, 0, 0)]) (hp' := hp) (fun _ => rfl) ?_
  obtain ⟨q3, hv, h⟩ := Option.bind_eq_some_iff.mp h
  rcases q3 with _ | E
  · replace h : ((fX9_isSmall a0 hp).bind fun v4 => if v4 = 0 then ((fX9_isCapital a0 hp).bind fun v5 => if v5 = 0 then (some (.inl 0)) else (fX9_letters_18 a0 hp)) else (fX9_letters_18 a0 hp)) = some v := h
    refine Ex.call (args := [vR (9, 0, 0)]) (rest := []) rfl rfl rfl (exX9_requireLoaded (d := d + 0) hv) ?_
    show Ex (d + 7) kX9_letters 4 [some (vR (9, 0, 0)), some (vI a0)] [] hp _
    refine Ex.go 1 (pc' := 5) (ls' := [some (vR (9, 0, 0)), some (vI a0)]) (st' := [vI a0]) (hp' := hp) (fun _ => rfl) ?_
    obtain ⟨v4, hv, h⟩ := Option.bind_eq_some_iff.mp h
    refine Ex.call (args := [vI a0]) (rest := []) rfl rfl rfl (exX9_isSmall (d := d + 6) hv) ?_
    show Ex (d + 7) kX9_letters 8 [some (vR (9, 0, 0)), some (vI a0)] [vI v4] hp _
    refine Ex.ifc rfl ?_
    by_cases hc : v4 = 0
    · rw [if_pos hc] at h
      rw [brI_ne_p hc]
      show Ex (d + 7) kX9_letters 11 [some (vR (9, 0, 0)), some (vI a0)] [] hp _
      refine Ex.go 1 (pc' := 12) (ls' := [some (vR (9, 0, 0)), some (vI a0)]) (st' := [vI a0]) (hp' := hp) (fun _ => rfl) ?_
      obtain ⟨v5, hv, h⟩ := Option.bind_eq_some_iff.mp h
      refine Ex.call (args := [vI a0]) (rest := []) rfl rfl rfl (exX9_isCapital (d := d + 6) hv) ?_
      show Ex (d + 7) kX9_letters 15 [some (vR (9, 0, 0)), some (vI a0)] [vI v5] hp _
      refine Ex.ifc rfl ?_
      by_cases hc : v5 = 0
      · rw [if_pos hc] at h
        rw [brI_eq_p hc]
        show Ex (d + 7) kX9_letters 32 [some (vR (9, 0, 0)), some (vI a0)] [] hp _
        refine Ex.go 1 (pc' := 33) (ls' := [some (vR (9, 0, 0)), some (vI a0)]) (st' := [vI 0]) (hp' := hp) (fun _ => rfl) ?_
        cases h
        exact Ex.ret rfl rfl rfl
      · rw [if_neg hc] at h
        rw [brI_eq_n hc]
        show Ex (d + 7) kX9_letters 18 [some (vR (9, 0, 0)), some (vI a0)] [] hp _
        exact exX9_letters_18 h
    · rw [if_neg hc] at h
      rw [brI_ne_n hc]
      show Ex (d + 7) kX9_letters 18 [some (vR (9, 0, 0)), some (vI a0)] [] hp _
      exact exX9_letters_18 h
  · cases h
    exact Ex.callT (args := [vR (9, 0, 0)]) (rest := []) rfl rfl rfl (exX9_requireLoaded (d := d + 0) hv) rfl
def fX9_palest (hp : HP) : Option (Int32 ⊕ Nat) := (fX9_requireLoaded hp).bind fun q2 => Sum.elim (fun _ => (fX4_palestPlace 0 hp).bind fun v3 => some (.inl v3)) (fun E => some (.inr E)) q2
theorem exX9_palest {d : Nat} {hp : HP} {v : (Int32 ⊕ Nat)} (h : fX9_palest hp = some v) : Calls (d + 7) 107 [vR (9, 0, 0)] hp (rsT rsI v hp) := by
  replace h : ((fX9_requireLoaded hp).bind fun q2 => Sum.elim (fun _ => (fX4_palestPlace 0 hp).bind fun v3 => some (.inl v3)) (fun E => some (.inr E)) q2) = some v := h
  show Ex (d + 7) kX9_palest 0 [some (vR (9, 0, 0))] [] hp _
  refine Ex.go 1 (pc' := 1) (ls' := [some (vR (9, 0, 0))]) (st' := [vR (9, 0, 0)]) (hp' := hp) (fun _ => rfl) ?_
  obtain ⟨q2, hv, h⟩ := Option.bind_eq_some_iff.mp h
  rcases q2 with _ | E
  · replace h : ((fX4_palestPlace 0 hp).bind fun v3 => some (.inl v3)) = some v := h
    refine Ex.call (args := [vR (9, 0, 0)]) (rest := []) rfl rfl rfl (exX9_requireLoaded (d := d + 0) hv) ?_
    show Ex (d + 7) kX9_palest 4 [some (vR (9, 0, 0))] [] hp _
    refine Ex.go 3 (pc' := 11) (ls' := [some (vR (9, 0, 0))]) (st' := [vR (4, 0, 0)]) (hp' := hp) (fun _ => rfl) ?_
    obtain ⟨v3, hv, h⟩ := Option.bind_eq_some_iff.mp h
    refine Ex.call (args := [vR (4, 0, 0)]) (rest := []) rfl rfl rfl (exX4_palestPlace (d := d + 4) hv) ?_
    show Ex (d + 7) kX9_palest 14 [some (vR (9, 0, 0))] [vI v3] hp _
    cases h
    exact Ex.ret rfl rfl rfl
  · cases h
    exact Ex.callT (args := [vR (9, 0, 0)]) (rest := []) rfl rfl rfl (exX9_requireLoaded (d := d + 0) hv) rfl
def fX9_meanDarkness_37 (y0 : UInt64) (hp : HP) : Option (UInt64 ⊕ Nat) := some (.inl y0)
theorem exX9_meanDarkness_37 {d : Nat} {y0 : UInt64} {j1 : Option VL} {hp : HP} {v : (UInt64 ⊕ Nat)} (h : fX9_meanDarkness_37 y0 hp = some v) : Ex (d + 7) kX9_meanDarkness 37 [some (vR (9, 0, 0)), j1] [vD y0] hp (rsT rsD v hp) := by
  replace h : (some (.inl y0)) = some v := h
  cases h
  exact Ex.ret rfl rfl rfl
def fX9_meanDarkness (hp : HP) : Option (UInt64 ⊕ Nat) := (fX9_requireLoaded hp).bind fun q2 => Sum.elim (fun _ => (fX4_filledPlaces 0 hp).bind fun v3 => if v3 = 0 then (fX9_meanDarkness_37 FP.dconst0 hp) else ((fX4_allDarkness 0 hp).bind fun v4 => if okD (FP.ddiv (FP.i2d v4) (FP.i2d v3)) = true then (fX9_meanDarkness_37 (FP.ddiv (FP.i2d v4) (FP.i2d v3)) hp) else none)) (fun E => some (.inr E)) q2
theorem exX9_meanDarkness {d : Nat} {hp : HP} {v : (UInt64 ⊕ Nat)} (h : fX9_meanDarkness hp = some v) : Calls (d + 7) 108 [vR (9, 0, 0)] hp (rsT rsD v hp) := by
  replace h : ((fX9_requireLoaded hp).bind fun q2 => Sum.elim (fun _ => (fX4_filledPlaces 0 hp).bind fun v3 => if v3 = 0 then (fX9_meanDarkness_37 FP.dconst0 hp) else ((fX4_allDarkness 0 hp).bind fun v4 => if okD (FP.ddiv (FP.i2d v4) (FP.i2d v3)) = true then (fX9_meanDarkness_37 (FP.ddiv (FP.i2d v4) (FP.i2d v3)) hp) else none)) (fun E => some (.inr E)) q2) = some v := h
  show Ex (d + 7) kX9_meanDarkness 0 [some (vR (9, 0, 0)), none] [] hp _
  refine Ex.go 1 (pc' := 1) (ls' := [some (vR (9, 0, 0)), none]) (st' := [vR (9, 0, 0)]) (hp' := hp) (fun _ => rfl) ?_
  obtain ⟨q2, hv, h⟩ := Option.bind_eq_some_iff.mp h
  rcases q2 with _ | E
  · replace h : ((fX4_filledPlaces 0 hp).bind fun v3 => if v3 = 0 then (fX9_meanDarkness_37 FP.dconst0 hp) else ((fX4_allDarkness 0 hp).bind fun v4 => if okD (FP.ddiv (FP.i2d v4) (FP.i2d v3)) = true then (fX9_meanDarkness_37 (FP.ddiv (FP.i2d v4) (FP.i2d v3)) hp) else none)) = some v := h
    refine Ex.call (args := [vR (9, 0, 0)]) (rest := []) rfl rfl rfl (exX9_requireLoaded (d := d + 0) hv) ?_
    show Ex (d + 7) kX9_meanDarkness 4 [some (vR (9, 0, 0)), none] [] hp _
    refine Ex.go 3 (pc' := 11) (ls' := [some (vR (9, 0, 0)), none]) (st' := [vR (4, 0, 0)]) (hp' := hp) (fun _ => rfl) ?_
    obtain ⟨v3, hv, h⟩ := Option.bind_eq_some_iff.mp h
    refine Ex.call (args := [vR (4, 0, 0)]) (rest := []) rfl rfl rfl (exX4_filledPlaces (d := d + 3) hv) ?_
    show Ex (d + 7) kX9_meanDarkness 14 [some (vR (9, 0, 0)), none] [vI v3] hp _
    refine Ex.go 2 (pc' := 16) (ls' := [some (vR (9, 0, 0)), some (vI v3)]) (st' := [vI v3]) (hp' := hp) (fun _ => rfl) ?_
    refine Ex.ifc rfl ?_
    by_cases hc : v3 = 0
    · rw [if_pos hc] at h
      rw [brI_ne_p hc]
      show Ex (d + 7) kX9_meanDarkness 19 [some (vR (9, 0, 0)), some (vI v3)] [] hp _
      refine Ex.go 2 (pc' := 37) (ls' := [some (vR (9, 0, 0)), some (vI v3)]) (st' := [vD FP.dconst0]) (hp' := hp) (fun _ => rfl) ?_
      exact exX9_meanDarkness_37 h
    · rw [if_neg hc] at h
      rw [brI_ne_n hc]
      show Ex (d + 7) kX9_meanDarkness 23 [some (vR (9, 0, 0)), some (vI v3)] [] hp _
      refine Ex.go 3 (pc' := 30) (ls' := [some (vR (9, 0, 0)), some (vI v3)]) (st' := [vR (4, 0, 0)]) (hp' := hp) (fun _ => rfl) ?_
      obtain ⟨v4, hv, h⟩ := Option.bind_eq_some_iff.mp h
      refine Ex.call (args := [vR (4, 0, 0)]) (rest := []) rfl rfl rfl (exX4_allDarkness (d := d + 4) hv) ?_
      show Ex (d + 7) kX9_meanDarkness 33 [some (vR (9, 0, 0)), some (vI v3)] [vI v4] hp _
      refine Ex.go 3 (pc' := 36) (ls' := [some (vR (9, 0, 0)), some (vI v3)]) (st' := [vD (FP.i2d v3), vD (FP.i2d v4)]) (hp' := hp) (fun _ => rfl) ?_
      by_cases hc : okD (FP.ddiv (FP.i2d v4) (FP.i2d v3)) = true
      · rw [if_pos hc] at h
        refine Ex.ddiv rfl hc ?_
        show Ex (d + 7) kX9_meanDarkness 37 [some (vR (9, 0, 0)), some (vI v3)] [vD (FP.ddiv (FP.i2d v4) (FP.i2d v3))] hp _
        exact exX9_meanDarkness_37 h
      · rw [if_neg hc] at h
        cases h
  · cases h
    exact Ex.callT (args := [vR (9, 0, 0)]) (rest := []) rfl rfl rfl (exX9_requireLoaded (d := d + 0) hv) rfl
def fX9_inkShare_52 (y0 : UInt32) (hp : HP) : Option (UInt32 ⊕ Nat) := some (.inl y0)
theorem exX9_inkShare_52 {d : Nat} {y0 : UInt32} {j1 : Option VL} {hp : HP} {v : (UInt32 ⊕ Nat)} (h : fX9_inkShare_52 y0 hp = some v) : Ex (d + 7) kX9_inkShare 52 [some (vR (9, 0, 0)), j1] [vF y0] hp (rsT rsF v hp) := by
  replace h : (some (.inl y0)) = some v := h
  cases h
  exact Ex.ret rfl rfl rfl
def fX9_inkShare (hp : HP) : Option (UInt32 ⊕ Nat) := (fX9_requireLoaded hp).bind fun q2 => Sum.elim (fun _ => (fX7_at 0 0 9 hp).bind fun v3 => (fX7_at 0 0 10 hp).bind fun v4 => if (v3 * v4) = 0 then (fX9_inkShare_52 FP.fconst0 hp) else ((fX6_allInk 0 hp).bind fun v5 => if okF (FP.fdiv (FP.i2f v5) (FP.i2f (v3 * v4))) = true then (fX9_inkShare_52 (FP.fdiv (FP.i2f v5) (FP.i2f (v3 * v4))) hp) else none)) (fun E => some (.inr E)) q2
theorem exX9_inkShare {d : Nat} {hp : HP} {v : (UInt32 ⊕ Nat)} (h : fX9_inkShare hp = some v) : Calls (d + 7) 109 [vR (9, 0, 0)] hp (rsT rsF v hp) := by
  replace h : ((fX9_requireLoaded hp).bind fun q2 => Sum.elim (fun _ => (fX7_at 0 0 9 hp).bind fun v3 => (fX7_at 0 0 10 hp).bind fun v4 => if (v3 * v4) = 0 then (fX9_inkShare_52 FP.fconst0 hp) else ((fX6_allInk 0 hp).bind fun v5 => if okF (FP.fdiv (FP.i2f v5) (FP.i2f (v3 * v4))) = true then (fX9_inkShare_52 (FP.fdiv (FP.i2f v5) (FP.i2f (v3 * v4))) hp) else none)) (fun E => some (.inr E)) q2) = some v := h
  show Ex (d + 7) kX9_inkShare 0 [some (vR (9, 0, 0)), none] [] hp _
  refine Ex.go 1 (pc' := 1) (ls' := [some (vR (9, 0, 0)), none]) (st' := [vR (9, 0, 0)]) (hp' := hp) (fun _ => rfl) ?_
  obtain ⟨q2, hv, h⟩ := Option.bind_eq_some_iff.mp h
  rcases q2 with _ | E
  · replace h : ((fX7_at 0 0 9 hp).bind fun v3 => (fX7_at 0 0 10 hp).bind fun v4 => if (v3 * v4) = 0 then (fX9_inkShare_52 FP.fconst0 hp) else ((fX6_allInk 0 hp).bind fun v5 => if okF (FP.fdiv (FP.i2f v5) (FP.i2f (v3 * v4))) = true then (fX9_inkShare_52 (FP.fdiv (FP.i2f v5) (FP.i2f (v3 * v4))) hp) else none)) = some v := h
    refine Ex.call (args := [vR (9, 0, 0)]) (rest := []) rfl rfl rfl (exX9_requireLoaded (d := d + 0) hv) ?_
    show Ex (d + 7) kX9_inkShare 4 [some (vR (9, 0, 0)), none] [] hp _
    refine Ex.go 4 (pc' := 13) (ls' := [some (vR (9, 0, 0)), none]) (st' := [vI 9, vR (7, 0, 0)]) (hp' := hp) (fun _ => rfl) ?_
    obtain ⟨v3, hv, h⟩ := Option.bind_eq_some_iff.mp h
    refine Ex.call (args := [vR (7, 0, 0), vI 9]) (rest := []) rfl rfl rfl (exX7_at (d := d + 6) hv) ?_
    show Ex (d + 7) kX9_inkShare 16 [some (vR (9, 0, 0)), none] [vI v3] hp _
    refine Ex.go 4 (pc' := 25) (ls' := [some (vR (9, 0, 0)), none]) (st' := [vI 10, vR (7, 0, 0), vI v3]) (hp' := hp) (fun _ => rfl) ?_
    obtain ⟨v4, hv, h⟩ := Option.bind_eq_some_iff.mp h
    refine Ex.call (args := [vR (7, 0, 0), vI 10]) (rest := [vI v3]) rfl rfl rfl (exX7_at (d := d + 6) hv) ?_
    show Ex (d + 7) kX9_inkShare 28 [some (vR (9, 0, 0)), none] [vI v4, vI v3] hp _
    refine Ex.go 3 (pc' := 31) (ls' := [some (vR (9, 0, 0)), some (vI (v3 * v4))]) (st' := [vI (v3 * v4)]) (hp' := hp) (fun _ => rfl) ?_
    refine Ex.ifc rfl ?_
    by_cases hc : (v3 * v4) = 0
    · rw [if_pos hc] at h
      rw [brI_ne_p hc]
      show Ex (d + 7) kX9_inkShare 34 [some (vR (9, 0, 0)), some (vI (v3 * v4))] [] hp _
      refine Ex.go 2 (pc' := 52) (ls' := [some (vR (9, 0, 0)), some (vI (v3 * v4))]) (st' := [vF FP.fconst0]) (hp' := hp) (fun _ => rfl) ?_
      exact exX9_inkShare_52 h
    · rw [if_neg hc] at h
      rw [brI_ne_n hc]
      show Ex (d + 7) kX9_inkShare 38 [some (vR (9, 0, 0)), some (vI (v3 * v4))] [] hp _
      refine Ex.go 3 (pc' := 45) (ls' := [some (vR (9, 0, 0)), some (vI (v3 * v4))]) (st' := [vR (6, 0, 0)]) (hp' := hp) (fun _ => rfl) ?_
      obtain ⟨v5, hv, h⟩ := Option.bind_eq_some_iff.mp h
      refine Ex.call (args := [vR (6, 0, 0)]) (rest := []) rfl rfl rfl (exX6_allInk (d := d + 5) hv) ?_
      show Ex (d + 7) kX9_inkShare 48 [some (vR (9, 0, 0)), some (vI (v3 * v4))] [vI v5] hp _
      refine Ex.go 3 (pc' := 51) (ls' := [some (vR (9, 0, 0)), some (vI (v3 * v4))]) (st' := [vF (FP.i2f (v3 * v4)), vF (FP.i2f v5)]) (hp' := hp) (fun _ => rfl) ?_
      by_cases hc : okF (FP.fdiv (FP.i2f v5) (FP.i2f (v3 * v4))) = true
      · rw [if_pos hc] at h
        refine Ex.fdiv rfl hc ?_
        show Ex (d + 7) kX9_inkShare 52 [some (vR (9, 0, 0)), some (vI (v3 * v4))] [vF (FP.fdiv (FP.i2f v5) (FP.i2f (v3 * v4)))] hp _
        exact exX9_inkShare_52 h
      · rw [if_neg hc] at h
        cases h
  · cases h
    exact Ex.callT (args := [vR (9, 0, 0)]) (rest := []) rfl rfl rfl (exX9_requireLoaded (d := d + 0) hv) rfl
def fX9_slowest (hp : HP) : Option (Int32 ⊕ Nat) := (fX9_requireLoaded hp).bind fun q2 => Sum.elim (fun _ => (fX0_withGreatestRise 0 hp).bind fun v3 => some (.inl v3)) (fun E => some (.inr E)) q2
theorem exX9_slowest {d : Nat} {hp : HP} {v : (Int32 ⊕ Nat)} (h : fX9_slowest hp = some v) : Calls (d + 7) 110 [vR (9, 0, 0)] hp (rsT rsI v hp) := by
  replace h : ((fX9_requireLoaded hp).bind fun q2 => Sum.elim (fun _ => (fX0_withGreatestRise 0 hp).bind fun v3 => some (.inl v3)) (fun E => some (.inr E)) q2) = some v := h
  show Ex (d + 7) kX9_slowest 0 [some (vR (9, 0, 0))] [] hp _
  refine Ex.go 1 (pc' := 1) (ls' := [some (vR (9, 0, 0))]) (st' := [vR (9, 0, 0)]) (hp' := hp) (fun _ => rfl) ?_
  obtain ⟨q2, hv, h⟩ := Option.bind_eq_some_iff.mp h
  rcases q2 with _ | E
  · replace h : ((fX0_withGreatestRise 0 hp).bind fun v3 => some (.inl v3)) = some v := h
    refine Ex.call (args := [vR (9, 0, 0)]) (rest := []) rfl rfl rfl (exX9_requireLoaded (d := d + 0) hv) ?_
    show Ex (d + 7) kX9_slowest 4 [some (vR (9, 0, 0))] [] hp _
    refine Ex.go 3 (pc' := 11) (ls' := [some (vR (9, 0, 0))]) (st' := [vR (0, 0, 0)]) (hp' := hp) (fun _ => rfl) ?_
    obtain ⟨v3, hv, h⟩ := Option.bind_eq_some_iff.mp h
    refine Ex.call (args := [vR (0, 0, 0)]) (rest := []) rfl rfl rfl (exX0_withGreatestRise (d := d + 4) hv) ?_
    show Ex (d + 7) kX9_slowest 14 [some (vR (9, 0, 0))] [vI v3] hp _
    cases h
    exact Ex.ret rfl rfl rfl
  · cases h
    exact Ex.callT (args := [vR (9, 0, 0)]) (rest := []) rfl rfl rfl (exX9_requireLoaded (d := d + 0) hv) rfl
def fX9_requireCarriageColumn_24 (y0 : Int32) (hp : HP) : Option (Unit ⊕ Nat) := (fX9_requireIndex y0 hp).bind fun q2 => Sum.elim (fun _ => some (.inl ())) (fun E => some (.inr E)) q2
theorem exX9_requireCarriageColumn_24 {d : Nat} {y0 : Int32} {j1 : Option VL} {hp : HP} {v : (Unit ⊕ Nat)} (h : fX9_requireCarriageColumn_24 y0 hp = some v) : Ex (d + 7) kX9_requireCarriageColumn 24 [some (vR (9, 0, 0)), j1] [vI y0] hp (rsT rsV v hp) := by
  replace h : ((fX9_requireIndex y0 hp).bind fun q2 => Sum.elim (fun _ => some (.inl ())) (fun E => some (.inr E)) q2) = some v := h
  obtain ⟨q2, hv, h⟩ := Option.bind_eq_some_iff.mp h
  rcases q2 with _ | E
  · replace h : (some (.inl ())) = some v := h
    refine Ex.call (args := [vI y0]) (rest := []) rfl rfl rfl (exX9_requireIndex (d := d + 0) hv) ?_
    show Ex (d + 7) kX9_requireCarriageColumn 27 [some (vR (9, 0, 0)), j1] [] hp _
    cases h
    exact Ex.ret rfl rfl rfl
  · cases h
    exact Ex.callT (args := [vI y0]) (rest := []) rfl rfl rfl (exX9_requireIndex (d := d + 0) hv) rfl
def fX9_requireCarriageColumn_23 (hp : HP) : Option (Unit ⊕ Nat) := fX9_requireCarriageColumn_24 0 hp
theorem exX9_requireCarriageColumn_23 {d : Nat} {j1 : Option VL} {hp : HP} {v : (Unit ⊕ Nat)} (h : fX9_requireCarriageColumn_23 hp = some v) : Ex (d + 7) kX9_requireCarriageColumn 23 [some (vR (9, 0, 0)), j1] [] hp (rsT rsV v hp) := by
  replace h : (fX9_requireCarriageColumn_24 0 hp) = some v := h
  refine Ex.go 1 (pc' := 24) (ls' := [some (vR (9, 0, 0)), j1]) (st' := [vI 0]) (hp' := hp) (fun _ => rfl) ?_
  exact exX9_requireCarriageColumn_24 h
def fX9_requireCarriageColumn (a0 : Int32) (hp : HP) : Option (Unit ⊕ Nat) := if a0 < 0 then (fX9_requireCarriageColumn_23 hp) else ((fX7_at 0 0 0 hp).bind fun v3 => if v3 < a0 then (fX9_requireCarriageColumn_23 hp) else (fX9_requireCarriageColumn_24 1 hp))
theorem exX9_requireCarriageColumn {d : Nat} {a0 : Int32} {hp : HP} {v : (Unit ⊕ Nat)} (h : fX9_requireCarriageColumn a0 hp = some v) : Calls (d + 7) 146 [vR (9, 0, 0), vI a0] hp (rsT rsV v hp) := by
  replace h : (if a0 < 0 then (fX9_requireCarriageColumn_23 hp) else ((fX7_at 0 0 0 hp).bind fun v3 => if v3 < a0 then (fX9_requireCarriageColumn_23 hp) else (fX9_requireCarriageColumn_24 1 hp))) = some v := h
  show Ex (d + 7) kX9_requireCarriageColumn 0 [some (vR (9, 0, 0)), some (vI a0)] [] hp _
  refine Ex.go 1 (pc' := 1) (ls' := [some (vR (9, 0, 0)), some (vI a0)]) (st' := [vI a0]) (hp' := hp) (fun _ => rfl) ?_
  refine Ex.ifc rfl ?_
  by_cases hc : a0 < 0
  · rw [if_pos hc] at h
    rw [brI_lt_p hc]
    show Ex (d + 7) kX9_requireCarriageColumn 23 [some (vR (9, 0, 0)), some (vI a0)] [] hp _
    exact exX9_requireCarriageColumn_23 h
  · rw [if_neg hc] at h
    rw [brI_lt_n hc]
    show Ex (d + 7) kX9_requireCarriageColumn 4 [some (vR (9, 0, 0)), some (vI a0)] [] hp _
    refine Ex.go 5 (pc' := 13) (ls' := [some (vR (9, 0, 0)), some (vI a0)]) (st' := [vI 0, vR (7, 0, 0), vI a0]) (hp' := hp) (fun _ => rfl) ?_
    obtain ⟨v3, hv, h⟩ := Option.bind_eq_some_iff.mp h
    refine Ex.call (args := [vR (7, 0, 0), vI 0]) (rest := [vI a0]) rfl rfl rfl (exX7_at (d := d + 6) hv) ?_
    show Ex (d + 7) kX9_requireCarriageColumn 16 [some (vR (9, 0, 0)), some (vI a0)] [vI v3, vI a0] hp _
    refine Ex.icmp rfl ?_
    by_cases hc : v3 < a0
    · rw [if_pos hc] at h
      rw [brI_gt_p hc]
      show Ex (d + 7) kX9_requireCarriageColumn 23 [some (vR (9, 0, 0)), some (vI a0)] [] hp _
      exact exX9_requireCarriageColumn_23 h
    · rw [if_neg hc] at h
      rw [brI_gt_n hc]
      show Ex (d + 7) kX9_requireCarriageColumn 19 [some (vR (9, 0, 0)), some (vI a0)] [] hp _
      refine Ex.go 2 (pc' := 24) (ls' := [some (vR (9, 0, 0)), some (vI a0)]) (st' := [vI 1]) (hp' := hp) (fun _ => rfl) ?_
      exact exX9_requireCarriageColumn_24 h
def fX9_nextStop (a0 : Int32) (hp : HP) : Option (Int32 ⊕ Nat) := (fX9_requireLoaded hp).bind fun q2 => Sum.elim (fun _ => (fX9_requireCarriageColumn a0 hp).bind fun q4 => Sum.elim (fun _ => (fX1_tabFrom 0 a0 hp).bind fun v5 => some (.inl v5)) (fun E => some (.inr E)) q4) (fun E => some (.inr E)) q2
theorem exX9_nextStop {d : Nat} {a0 : Int32} {hp : HP} {v : (Int32 ⊕ Nat)} (h : fX9_nextStop a0 hp = some v) : Calls (d + 8) 111 [vR (9, 0, 0), vI a0] hp (rsT rsI v hp) := by
  replace h : ((fX9_requireLoaded hp).bind fun q2 => Sum.elim (fun _ => (fX9_requireCarriageColumn a0 hp).bind fun q4 => Sum.elim (fun _ => (fX1_tabFrom 0 a0 hp).bind fun v5 => some (.inl v5)) (fun E => some (.inr E)) q4) (fun E => some (.inr E)) q2) = some v := h
  show Ex (d + 8) kX9_nextStop 0 [some (vR (9, 0, 0)), some (vI a0)] [] hp _
  refine Ex.go 1 (pc' := 1) (ls' := [some (vR (9, 0, 0)), some (vI a0)]) (st' := [vR (9, 0, 0)]) (hp' := hp) (fun _ => rfl) ?_
  obtain ⟨q2, hv, h⟩ := Option.bind_eq_some_iff.mp h
  rcases q2 with _ | E
  · replace h : ((fX9_requireCarriageColumn a0 hp).bind fun q4 => Sum.elim (fun _ => (fX1_tabFrom 0 a0 hp).bind fun v5 => some (.inl v5)) (fun E => some (.inr E)) q4) = some v := h
    refine Ex.call (args := [vR (9, 0, 0)]) (rest := []) rfl rfl rfl (exX9_requireLoaded (d := d + 1) hv) ?_
    show Ex (d + 8) kX9_nextStop 4 [some (vR (9, 0, 0)), some (vI a0)] [] hp _
    refine Ex.go 2 (pc' := 6) (ls' := [some (vR (9, 0, 0)), some (vI a0)]) (st' := [vI a0, vR (9, 0, 0)]) (hp' := hp) (fun _ => rfl) ?_
    obtain ⟨q4, hv, h⟩ := Option.bind_eq_some_iff.mp h
    rcases q4 with _ | E
    · replace h : ((fX1_tabFrom 0 a0 hp).bind fun v5 => some (.inl v5)) = some v := h
      refine Ex.call (args := [vR (9, 0, 0), vI a0]) (rest := []) rfl rfl rfl (exX9_requireCarriageColumn (d := d + 0) hv) ?_
      show Ex (d + 8) kX9_nextStop 9 [some (vR (9, 0, 0)), some (vI a0)] [] hp _
      refine Ex.go 4 (pc' := 17) (ls' := [some (vR (9, 0, 0)), some (vI a0)]) (st' := [vI a0, vR (1, 0, 0)]) (hp' := hp) (fun _ => rfl) ?_
      obtain ⟨v5, hv, h⟩ := Option.bind_eq_some_iff.mp h
      refine Ex.call (args := [vR (1, 0, 0), vI a0]) (rest := []) rfl rfl rfl (exX1_tabFrom (d := d + 5) hv) ?_
      show Ex (d + 8) kX9_nextStop 20 [some (vR (9, 0, 0)), some (vI a0)] [vI v5] hp _
      cases h
      exact Ex.ret rfl rfl rfl
    · cases h
      exact Ex.callT (args := [vR (9, 0, 0), vI a0]) (rest := []) rfl rfl rfl (exX9_requireCarriageColumn (d := d + 0) hv) rfl
  · cases h
    exact Ex.callT (args := [vR (9, 0, 0)]) (rest := []) rfl rfl rfl (exX9_requireLoaded (d := d + 1) hv) rfl
def fX9_bellIn (hp : HP) : Option (Int32 ⊕ Nat) := (fX9_requireLoaded hp).bind fun q2 => Sum.elim (fun _ => (fX1_spacesToBell 0 hp).bind fun v3 => some (.inl v3)) (fun E => some (.inr E)) q2
theorem exX9_bellIn {d : Nat} {hp : HP} {v : (Int32 ⊕ Nat)} (h : fX9_bellIn hp = some v) : Calls (d + 7) 112 [vR (9, 0, 0)] hp (rsT rsI v hp) := by
  replace h : ((fX9_requireLoaded hp).bind fun q2 => Sum.elim (fun _ => (fX1_spacesToBell 0 hp).bind fun v3 => some (.inl v3)) (fun E => some (.inr E)) q2) = some v := h
  show Ex (d + 7) kX9_bellIn 0 [some (vR (9, 0, 0))] [] hp _
  refine Ex.go 1 (pc' := 1) (ls' := [some (vR (9, 0, 0))]) (st' := [vR (9, 0, 0)]) (hp' := hp) (fun _ => rfl) ?_
  obtain ⟨q2, hv, h⟩ := Option.bind_eq_some_iff.mp h
  rcases q2 with _ | E
  · replace h : ((fX1_spacesToBell 0 hp).bind fun v3 => some (.inl v3)) = some v := h
    refine Ex.call (args := [vR (9, 0, 0)]) (rest := []) rfl rfl rfl (exX9_requireLoaded (d := d + 0) hv) ?_
    show Ex (d + 7) kX9_bellIn 4 [some (vR (9, 0, 0))] [] hp _
    refine Ex.go 3 (pc' := 11) (ls' := [some (vR (9, 0, 0))]) (st' := [vR (1, 0, 0)]) (hp' := hp) (fun _ => rfl) ?_
    obtain ⟨v3, hv, h⟩ := Option.bind_eq_some_iff.mp h
    refine Ex.call (args := [vR (1, 0, 0)]) (rest := []) rfl rfl rfl (exX1_spacesToBell (d := d + 4) hv) ?_
    show Ex (d + 7) kX9_bellIn 14 [some (vR (9, 0, 0))] [vI v3] hp _
    cases h
    exact Ex.ret rfl rfl rfl
  · cases h
    exact Ex.callT (args := [vR (9, 0, 0)]) (rest := []) rfl rfl rfl (exX9_requireLoaded (d := d + 0) hv) rfl
def fX9_wouldBe (a0 : Int32) (a1 : Int32) (hp : HP) : Option (Int32 ⊕ Nat) := (fX9_requireLoaded hp).bind fun q2 => Sum.elim (fun _ => (fX9_requireBar a0 hp).bind fun q4 => Sum.elim (fun _ => (fX3_standingFault 0 1 hp).bind fun v5 => if v5 = 0 then ((fX7_at 0 0 5 hp).bind fun v6 => (fX0_strikeFault 0 a0 ((hp (3, 0, 0) 6) + v6) hp).bind fun v7 => some (.inl v7)) else (some (.inl v5))) (fun E => some (.inr E)) q4) (fun E => some (.inr E)) q2
theorem exX9_wouldBe {d : Nat} {a0 : Int32} {a1 : Int32} {hp : HP} {v : (Int32 ⊕ Nat)} (h : fX9_wouldBe a0 a1 hp = some v) : Calls (d + 8) 113 [vR (9, 0, 0), vI a0, vI a1] hp (rsT rsI v hp) := by
  replace h : ((fX9_requireLoaded hp).bind fun q2 => Sum.elim (fun _ => (fX9_requireBar a0 hp).bind fun q4 => Sum.elim (fun _ => (fX3_standingFault 0 1 hp).bind fun v5 => if v5 = 0 then ((fX7_at 0 0 5 hp).bind fun v6 => (fX0_strikeFault 0 a0 ((hp (3, 0, 0) 6) + v6) hp).bind fun v7 => some (.inl v7)) else (some (.inl v5))) (fun E => some (.inr E)) q4) (fun E => some (.inr E)) q2) = some v := h
  show Ex (d + 8) kX9_wouldBe 0 [some (vR (9, 0, 0)), some (vI a0), some (vI a1), none] [] hp _
  refine Ex.go 1 (pc' := 1) (ls' := [some (vR (9, 0, 0)), some (vI a0), some (vI a1), none]) (st' := [vR (9, 0, 0)]) (hp' := hp) (fun _ => rfl) ?_
  obtain ⟨q2, hv, h⟩ := Option.bind_eq_some_iff.mp h
  rcases q2 with _ | E
  · replace h : ((fX9_requireBar a0 hp).bind fun q4 => Sum.elim (fun _ => (fX3_standingFault 0 1 hp).bind fun v5 => if v5 = 0 then ((fX7_at 0 0 5 hp).bind fun v6 => (fX0_strikeFault 0 a0 ((hp (3, 0, 0) 6) + v6) hp).bind fun v7 => some (.inl v7)) else (some (.inl v5))) (fun E => some (.inr E)) q4) = some v := h
    refine Ex.call (args := [vR (9, 0, 0)]) (rest := []) rfl rfl rfl (exX9_requireLoaded (d := d + 1) hv) ?_
    show Ex (d + 8) kX9_wouldBe 4 [some (vR (9, 0, 0)), some (vI a0), some (vI a1), none] [] hp _
    refine Ex.go 2 (pc' := 6) (ls' := [some (vR (9, 0, 0)), some (vI a0), some (vI a1), none]) (st' := [vI a0, vR (9, 0, 0)]) (hp' := hp) (fun _ => rfl) ?_
    obtain ⟨q4, hv, h⟩ := Option.bind_eq_some_iff.mp h
    rcases q4 with _ | E
    · replace h : ((fX3_standingFault 0 1 hp).bind fun v5 => if v5 = 0 then ((fX7_at 0 0 5 hp).bind fun v6 => (fX0_strikeFault 0 a0 ((hp (3, 0, 0) 6) + v6) hp).bind fun v7 => some (.inl v7)) else (some (.inl v5))) = some v := h
      refine Ex.call (args := [vR (9, 0, 0), vI a0]) (rest := []) rfl rfl rfl (exX9_requireBar (d := d + 0) hv) ?_
      show Ex (d + 8) kX9_wouldBe 9 [some (vR (9, 0, 0)), some (vI a0), some (vI a1), none] [] hp _
      refine Ex.go 3 (pc' := 14) (ls' := [some (vR (9, 0, 0)), some (vI a0), some (vI a1), none]) (st' := [vI 1, vR (3, 0, 0)]) (hp' := hp) (fun _ => rfl) ?_
      obtain ⟨v5, hv, h⟩ := Option.bind_eq_some_iff.mp h
      refine Ex.call (args := [vR (3, 0, 0), vI 1]) (rest := []) rfl rfl rfl (exX3_standingFault (d := d + 5) hv) ?_
      show Ex (d + 8) kX9_wouldBe 17 [some (vR (9, 0, 0)), some (vI a0), some (vI a1), none] [vI v5] hp _
      refine Ex.go 2 (pc' := 19) (ls' := [some (vR (9, 0, 0)), some (vI a0), some (vI a1), some (vI v5)]) (st' := [vI v5]) (hp' := hp) (fun _ => rfl) ?_
      refine Ex.ifc rfl ?_
      by_cases hc : v5 = 0
      · rw [if_pos hc] at h
        rw [brI_ne_p hc]
        show Ex (d + 8) kX9_wouldBe 22 [some (vR (9, 0, 0)), some (vI a0), some (vI a1), some (vI v5)] [] hp _
        refine Ex.go 11 (pc' := 45) (ls' := [some (vR (9, 0, 0)), some (vI a0), some (vI a1), some (vI v5)]) (st' := [vI 5, vR (7, 0, 0), vI (hp (3, 0, 0) 6), vI a0, vR (0, 0, 0)]) (hp' := hp) (fun _ => rfl) ?_
        obtain ⟨v6, hv, h⟩ := Option.bind_eq_some_iff.mp h
        refine Ex.call (args := [vR (7, 0, 0), vI 5]) (rest := [vI (hp (3, 0, 0) 6), vI a0, vR (0, 0, 0)]) rfl rfl rfl (exX7_at (d := d + 7) hv) ?_
        show Ex (d + 8) kX9_wouldBe 48 [some (vR (9, 0, 0)), some (vI a0), some (vI a1), some (vI v5)] [vI v6, vI (hp (3, 0, 0) 6), vI a0, vR (0, 0, 0)] hp _
        refine Ex.go 1 (pc' := 49) (ls' := [some (vR (9, 0, 0)), some (vI a0), some (vI a1), some (vI v5)]) (st' := [vI ((hp (3, 0, 0) 6) + v6), vI a0, vR (0, 0, 0)]) (hp' := hp) (fun _ => rfl) ?_
        obtain ⟨v7, hv, h⟩ := Option.bind_eq_some_iff.mp h
        refine Ex.call (args := [vR (0, 0, 0), vI a0, vI ((hp (3, 0, 0) 6) + v6)]) (rest := []) rfl rfl rfl (exX0_strikeFault (d := d + 4) hv) ?_
        show Ex (d + 8) kX9_wouldBe 52 [some (vR (9, 0, 0)), some (vI a0), some (vI a1), some (vI v5)] [vI v7] hp _
        refine Ex.go 1 (pc' := 56) (ls' := [some (vR (9, 0, 0)), some (vI a0), some (vI a1), some (vI v5)]) (st' := [vI v7]) (hp' := hp) (fun _ => rfl) ?_
        cases h
        exact Ex.ret rfl rfl rfl
      · rw [if_neg hc] at h
        rw [brI_ne_n hc]
        show Ex (d + 8) kX9_wouldBe 55 [some (vR (9, 0, 0)), some (vI a0), some (vI a1), some (vI v5)] [] hp _
        refine Ex.go 1 (pc' := 56) (ls' := [some (vR (9, 0, 0)), some (vI a0), some (vI a1), some (vI v5)]) (st' := [vI v5]) (hp' := hp) (fun _ => rfl) ?_
        cases h
        exact Ex.ret rfl rfl rfl
    · cases h
      exact Ex.callT (args := [vR (9, 0, 0), vI a0]) (rest := []) rfl rfl rfl (exX9_requireBar (d := d + 0) hv) rfl
  · cases h
    exact Ex.callT (args := [vR (9, 0, 0)]) (rest := []) rfl rfl rfl (exX9_requireLoaded (d := d + 1) hv) rfl
def fX9_freeIn_11 (n : Nat) (x1 : Int32) (x2 : Int32) (hp : HP) : Option (Int32 ⊕ Nat) := match n with
  | 0 => none
  | n + 1 => if 999 < x2 then (some (.inl m1)) else ((fX0_strikeFault 0 x1 ((hp (3, 0, 0) 6) + x2) hp).bind fun v1 => if v1 = 0 then (some (.inl x2)) else (fX9_freeIn_11 n x1 (x2 + 1) hp))
theorem exX9_freeIn_11 {d : Nat} : ∀ (n : Nat) (x1 : Int32) (x2 : Int32) (hp : HP) (v : (Int32 ⊕ Nat)), fX9_freeIn_11 n x1 x2 hp = some v → Ex (d + 8) kX9_freeIn 11 [some (vR (9, 0, 0)), some (vI x1), some (vI x2)] [] hp (rsT rsI v hp) := by
  intro n
  induction n with
  | zero =>
    intro x1 x2 hp v h
    cases h
  | succ n ih =>
    intro x1 x2 hp v h
    replace h : (if 999 < x2 then (some (.inl m1)) else ((fX0_strikeFault 0 x1 ((hp (3, 0, 0) 6) + x2) hp).bind fun v1 => if v1 = 0 then (some (.inl x2)) else (fX9_freeIn_11 n x1 (x2 + 1) hp))) = some v := h
    refine Ex.go 2 (pc' := 15) (ls' := [some (vR (9, 0, 0)), some (vI x1), some (vI x2)]) (st' := [vI 999, vI x2]) (hp' := hp) (fun _ => rfl) ?_
    refine Ex.icmp rfl ?_
    by_cases hc : 999 < x2
    · rw [if_pos hc] at h
      rw [brI_gt_p hc]
      show Ex (d + 8) kX9_freeIn 49 [some (vR (9, 0, 0)), some (vI x1), some (vI x2)] [] hp _
      refine Ex.go 1 (pc' := 50) (ls' := [some (vR (9, 0, 0)), some (vI x1), some (vI x2)]) (st' := [vI m1]) (hp' := hp) (fun _ => rfl) ?_
      cases h
      exact Ex.ret rfl rfl rfl
    · rw [if_neg hc] at h
      rw [brI_gt_n hc]
      show Ex (d + 8) kX9_freeIn 18 [some (vR (9, 0, 0)), some (vI x1), some (vI x2)] [] hp _
      refine Ex.go 9 (pc' := 35) (ls' := [some (vR (9, 0, 0)), some (vI x1), some (vI x2)]) (st' := [vI ((hp (3, 0, 0) 6) + x2), vI x1, vR (0, 0, 0)]) (hp' := hp) (fun _ => rfl) ?_
      obtain ⟨v1, hv, h⟩ := Option.bind_eq_some_iff.mp h
      refine Ex.call (args := [vR (0, 0, 0), vI x1, vI ((hp (3, 0, 0) 6) + x2)]) (rest := []) rfl rfl rfl (exX0_strikeFault (d := d + 4) hv) ?_
      show Ex (d + 8) kX9_freeIn 38 [some (vR (9, 0, 0)), some (vI x1), some (vI x2)] [vI v1] hp _
      refine Ex.ifc rfl ?_
      by_cases hc : v1 = 0
      · rw [if_pos hc] at h
        rw [brI_ne_p hc]
        show Ex (d + 8) kX9_freeIn 41 [some (vR (9, 0, 0)), some (vI x1), some (vI x2)] [] hp _
        refine Ex.go 1 (pc' := 42) (ls' := [some (vR (9, 0, 0)), some (vI x1), some (vI x2)]) (st' := [vI x2]) (hp' := hp) (fun _ => rfl) ?_
        cases h
        exact Ex.ret rfl rfl rfl
      · rw [if_neg hc] at h
        rw [brI_ne_n hc]
        show Ex (d + 8) kX9_freeIn 43 [some (vR (9, 0, 0)), some (vI x1), some (vI x2)] [] hp _
        refine Ex.go 2 (pc' := 11) (ls' := [some (vR (9, 0, 0)), some (vI x1), some (vI (x2 + 1))]) (st' := []) (hp' := hp) (fun _ => rfl) ?_
        exact ih _ _ _ _ h
def fX9_freeIn (a0 : Int32) (hp : HP) : Option (Int32 ⊕ Nat) := (fX9_requireLoaded hp).bind fun q3 => Sum.elim (fun _ => (fX9_requireBar a0 hp).bind fun q5 => Sum.elim (fun _ => fX9_freeIn_11 FU a0 1 hp) (fun E => some (.inr E)) q5) (fun E => some (.inr E)) q3
theorem exX9_freeIn {d : Nat} {a0 : Int32} {hp : HP} {v : (Int32 ⊕ Nat)} (h : fX9_freeIn a0 hp = some v) : Calls (d + 8) 114 [vR (9, 0, 0), vI a0] hp (rsT rsI v hp) := by
  replace h : ((fX9_requireLoaded hp).bind fun q3 => Sum.elim (fun _ => (fX9_requireBar a0 hp).bind fun q5 => Sum.elim (fun _ => fX9_freeIn_11 FU a0 1 hp) (fun E => some (.inr E)) q5) (fun E => some (.inr E)) q3) = some v := h
  show Ex (d + 8) kX9_freeIn 0 [some (vR (9, 0, 0)), some (vI a0), none] [] hp _
  refine Ex.go 1 (pc' := 1) (ls' := [some (vR (9, 0, 0)), some (vI a0), none]) (st' := [vR (9, 0, 0)]) (hp' := hp) (fun _ => rfl) ?_
  obtain ⟨q3, hv, h⟩ := Option.bind_eq_some_iff.mp h
  rcases q3 with _ | E
  · replace h : ((fX9_requireBar a0 hp).bind fun q5 => Sum.elim (fun _ => fX9_freeIn_11 FU a0 1 hp) (fun E => some (.inr E)) q5) = some v := h
    refine Ex.call (args := [vR (9, 0, 0)]) (rest := []) rfl rfl rfl (exX9_requireLoaded (d := d + 1) hv) ?_
    show Ex (d + 8) kX9_freeIn 4 [some (vR (9, 0, 0)), some (vI a0), none] [] hp _
    refine Ex.go 2 (pc' := 6) (ls' := [some (vR (9, 0, 0)), some (vI a0), none]) (st' := [vI a0, vR (9, 0, 0)]) (hp' := hp) (fun _ => rfl) ?_
    obtain ⟨q5, hv, h⟩ := Option.bind_eq_some_iff.mp h
    rcases q5 with _ | E
    · replace h : (fX9_freeIn_11 FU a0 1 hp) = some v := h
      refine Ex.call (args := [vR (9, 0, 0), vI a0]) (rest := []) rfl rfl rfl (exX9_requireBar (d := d + 0) hv) ?_
      show Ex (d + 8) kX9_freeIn 9 [some (vR (9, 0, 0)), some (vI a0), none] [] hp _
      refine Ex.go 2 (pc' := 11) (ls' := [some (vR (9, 0, 0)), some (vI a0), some (vI 1)]) (st' := []) (hp' := hp) (fun _ => rfl) ?_
      exact exX9_freeIn_11 FU _ _ _ _ h
    · cases h
      exact Ex.callT (args := [vR (9, 0, 0), vI a0]) (rest := []) rfl rfl rfl (exX9_requireBar (d := d + 0) hv) rfl
  · cases h
    exact Ex.callT (args := [vR (9, 0, 0)]) (rest := []) rfl rfl rfl (exX9_requireLoaded (d := d + 1) hv) rfl
def fX9_paceOf (a0 : Int32) (a1 : Int32) (hp : HP) : Option (Int32 ⊕ Nat) := (fX9_requireLoaded hp).bind fun q2 => Sum.elim (fun _ => (fX9_requireBar a0 hp).bind fun q4 => Sum.elim (fun _ => (fX9_requireBar a1 hp).bind fun q6 => Sum.elim (fun _ => (fX0_leastPace 0 a0 a1 hp).bind fun v7 => some (.inl v7)) (fun E => some (.inr E)) q6) (fun E => some (.inr E)) q4) (fun E => some (.inr E)) q2
theorem exX9_paceOf {d : Nat} {a0 : Int32} {a1 : Int32} {hp : HP} {v : (Int32 ⊕ Nat)} (h : fX9_paceOf a0 a1 hp = some v) : Calls (d + 8) 115 [vR (9, 0, 0), vI a0, vI a1] hp (rsT rsI v hp) := by
  replace h : ((fX9_requireLoaded hp).bind fun q2 => Sum.elim (fun _ => (fX9_requireBar a0 hp).bind fun q4 => Sum.elim (fun _ => (fX9_requireBar a1 hp).bind fun q6 => Sum.elim (fun _ => (fX0_leastPace 0 a0 a1 hp).bind fun v7 => some (.inl v7)) (fun E => some (.inr E)) q6) (fun E => some (.inr E)) q4) (fun E => some (.inr E)) q2) = some v := h
  show Ex (d + 8) kX9_paceOf 0 [some (vR (9, 0, 0)), some (vI a0), some (vI a1)] [] hp _
  refine Ex.go 1 (pc' := 1) (ls' := [some (vR (9, 0, 0)), some (vI a0), some (vI a1)]) (st' := [vR (9, 0, 0)]) (hp' := hp) (fun _ => rfl) ?_
  obtain ⟨q2, hv, h⟩ := Option.bind_eq_some_iff.mp h
  rcases q2 with _ | E
  · replace h : ((fX9_requireBar a0 hp).bind fun q4 => Sum.elim (fun _ => (fX9_requireBar a1 hp).bind fun q6 => Sum.elim (fun _ => (fX0_leastPace 0 a0 a1 hp).bind fun v7 => some (.inl v7)) (fun E => some (.inr E)) q6) (fun E => some (.inr E)) q4) = some v := h
    refine Ex.call (args := [vR (9, 0, 0)]) (rest := []) rfl rfl rfl (exX9_requireLoaded (d := d + 1) hv) ?_
    show Ex (d + 8) kX9_paceOf 4 [some (vR (9, 0, 0)), some (vI a0), some (vI a1)] [] hp _
    refine Ex.go 2 (pc' := 6) (ls' := [some (vR (9, 0, 0)), some (vI a0), some (vI a1)]) (st' := [vI a0, vR (9, 0, 0)]) (hp' := hp) (fun _ => rfl) ?_
    obtain ⟨q4, hv, h⟩ := Option.bind_eq_some_iff.mp h
    rcases q4 with _ | E
    · replace h : ((fX9_requireBar a1 hp).bind fun q6 => Sum.elim (fun _ => (fX0_leastPace 0 a0 a1 hp).bind fun v7 => some (.inl v7)) (fun E => some (.inr E)) q6) = some v := h
      refine Ex.call (args := [vR (9, 0, 0), vI a0]) (rest := []) rfl rfl rfl (exX9_requireBar (d := d + 0) hv) ?_
      show Ex (d + 8) kX9_paceOf 9 [some (vR (9, 0, 0)), some (vI a0), some (vI a1)] [] hp _
      refine Ex.go 2 (pc' := 11) (ls' := [some (vR (9, 0, 0)), some (vI a0), some (vI a1)]) (st' := [vI a1, vR (9, 0, 0)]) (hp' := hp) (fun _ => rfl) ?_
      obtain ⟨q6, hv, h⟩ := Option.bind_eq_some_iff.mp h
      rcases q6 with _ | E
      · replace h : ((fX0_leastPace 0 a0 a1 hp).bind fun v7 => some (.inl v7)) = some v := h
        refine Ex.call (args := [vR (9, 0, 0), vI a1]) (rest := []) rfl rfl rfl (exX9_requireBar (d := d + 0) hv) ?_
        show Ex (d + 8) kX9_paceOf 14 [some (vR (9, 0, 0)), some (vI a0), some (vI a1)] [] hp _
        refine Ex.go 5 (pc' := 23) (ls' := [some (vR (9, 0, 0)), some (vI a0), some (vI a1)]) (st' := [vI a1, vI a0, vR (0, 0, 0)]) (hp' := hp) (fun _ => rfl) ?_
        obtain ⟨v7, hv, h⟩ := Option.bind_eq_some_iff.mp h
        refine Ex.call (args := [vR (0, 0, 0), vI a0, vI a1]) (rest := []) rfl rfl rfl (exX0_leastPace (d := d + 5) hv) ?_
        show Ex (d + 8) kX9_paceOf 26 [some (vR (9, 0, 0)), some (vI a0), some (vI a1)] [vI v7] hp _
        cases h
        exact Ex.ret rfl rfl rfl
      · cases h
        exact Ex.callT (args := [vR (9, 0, 0), vI a1]) (rest := []) rfl rfl rfl (exX9_requireBar (d := d + 0) hv) rfl
    · cases h
      exact Ex.callT (args := [vR (9, 0, 0), vI a0]) (rest := []) rfl rfl rfl (exX9_requireBar (d := d + 0) hv) rfl
  · cases h
    exact Ex.callT (args := [vR (9, 0, 0)]) (rest := []) rfl rfl rfl (exX9_requireLoaded (d := d + 1) hv) rfl
def fX9_worstPair (hp : HP) : Option (Int32 ⊕ Nat) := (fX9_requireLoaded hp).bind fun q2 => Sum.elim (fun _ => (fX0_slowestPair 0 hp).bind fun v3 => some (.inl v3)) (fun E => some (.inr E)) q2
theorem exX9_worstPair {d : Nat} {hp : HP} {v : (Int32 ⊕ Nat)} (h : fX9_worstPair hp = some v) : Calls (d + 7) 116 [vR (9, 0, 0)] hp (rsT rsI v hp) := by
  replace h : ((fX9_requireLoaded hp).bind fun q2 => Sum.elim (fun _ => (fX0_slowestPair 0 hp).bind fun v3 => some (.inl v3)) (fun E => some (.inr E)) q2) = some v := h
  show Ex (d + 7) kX9_worstPair 0 [some (vR (9, 0, 0))] [] hp _
  refine Ex.go 1 (pc' := 1) (ls' := [some (vR (9, 0, 0))]) (st' := [vR (9, 0, 0)]) (hp' := hp) (fun _ => rfl) ?_
  obtain ⟨q2, hv, h⟩ := Option.bind_eq_some_iff.mp h
  rcases q2 with _ | E
  · replace h : ((fX0_slowestPair 0 hp).bind fun v3 => some (.inl v3)) = some v := h
    refine Ex.call (args := [vR (9, 0, 0)]) (rest := []) rfl rfl rfl (exX9_requireLoaded (d := d + 0) hv) ?_
    show Ex (d + 7) kX9_worstPair 4 [some (vR (9, 0, 0))] [] hp _
    refine Ex.go 3 (pc' := 11) (ls' := [some (vR (9, 0, 0))]) (st' := [vR (0, 0, 0)]) (hp' := hp) (fun _ => rfl) ?_
    obtain ⟨v3, hv, h⟩ := Option.bind_eq_some_iff.mp h
    refine Ex.call (args := [vR (0, 0, 0)]) (rest := []) rfl rfl rfl (exX0_slowestPair (d := d + 3) hv) ?_
    show Ex (d + 7) kX9_worstPair 14 [some (vR (9, 0, 0))] [vI v3] hp _
    cases h
    exact Ex.ret rfl rfl rfl
  · cases h
    exact Ex.callT (args := [vR (9, 0, 0)]) (rest := []) rfl rfl rfl (exX9_requireLoaded (d := d + 0) hv) rfl
def fX9_wouldType_23 (x1 : Int32) (x2 : Int32) (y0 : Int32) (hp : HP) : Option ((Int32 ⊕ Nat) × HP) := (fX9_requireArgument y0 hp).bind fun q2 => Sum.elim (fun _ => (fX3_copyFrom 1 0 hp).bind fun hp5 => (fX3_typeText 1 10 0 x1 (up hp5 (3, 0, 1) 9 0)).bind fun q7 => if x2 = 0 then (some ((.inl q7.1), q7.2)) else (if x2 = 1 then (some ((.inl (q7.2 (3, 0, 1) 7)), q7.2)) else (if x2 = 2 then (some ((.inl (q7.2 (1, 0, 1) 3)), q7.2)) else (if x2 = 3 then (some ((.inl (q7.2 (1, 0, 1) 2)), q7.2)) else (if x2 = 4 then ((fX7_at 9 1 10 q7.2).bind fun v8 => (fX7_at 9 0 10 q7.2).bind fun v9 => some ((.inl (v8 - v9)), q7.2)) else (some ((.inl (q7.2 (3, 0, 1) 9)), q7.2))))))) (fun E => some (.inr E, hp)) q2
theorem exX9_wouldType_23 {d : Nat} {x1 : Int32} {x2 : Int32} {y0 : Int32} {j3 : Option VL} {hp : HP} {v : ((Int32 ⊕ Nat) × HP)} (h : fX9_wouldType_23 x1 x2 y0 hp = some v) : Ex (d + 8) kX9_wouldType 23 [some (vR (9, 0, 0)), some (vI x1), some (vI x2), j3] [vI y0] hp (rsT rsI v.1 v.2) := by
  replace h : ((fX9_requireArgument y0 hp).bind fun q2 => Sum.elim (fun _ => (fX3_copyFrom 1 0 hp).bind fun hp5 => (fX3_typeText 1 10 0 x1 (up hp5 (3, 0, 1) 9 0)).bind fun q7 => if x2 = 0 then (some ((.inl q7.1), q7.2)) else (if x2 = 1 then (some ((.inl (q7.2 (3, 0, 1) 7)), q7.2)) else (if x2 = 2 then (some ((.inl (q7.2 (1, 0, 1) 3)), q7.2)) else (if x2 = 3 then (some ((.inl (q7.2 (1, 0, 1) 2)), q7.2)) else (if x2 = 4 then ((fX7_at 9 1 10 q7.2).bind fun v8 => (fX7_at 9 0 10 q7.2).bind fun v9 => some ((.inl (v8 - v9)), q7.2)) else (some ((.inl (q7.2 (3, 0, 1) 9)), q7.2))))))) (fun E => some (.inr E, hp)) q2) = some v := h
  obtain ⟨q2, hv, h⟩ := Option.bind_eq_some_iff.mp h
  rcases q2 with _ | E
  · replace h : ((fX3_copyFrom 1 0 hp).bind fun hp5 => (fX3_typeText 1 10 0 x1 (up hp5 (3, 0, 1) 9 0)).bind fun q7 => if x2 = 0 then (some ((.inl q7.1), q7.2)) else (if x2 = 1 then (some ((.inl (q7.2 (3, 0, 1) 7)), q7.2)) else (if x2 = 2 then (some ((.inl (q7.2 (1, 0, 1) 3)), q7.2)) else (if x2 = 3 then (some ((.inl (q7.2 (1, 0, 1) 2)), q7.2)) else (if x2 = 4 then ((fX7_at 9 1 10 q7.2).bind fun v8 => (fX7_at 9 0 10 q7.2).bind fun v9 => some ((.inl (v8 - v9)), q7.2)) else (some ((.inl (q7.2 (3, 0, 1) 9)), q7.2))))))) = some v := h
    refine Ex.call (args := [vI y0]) (rest := []) rfl rfl rfl (exX9_requireArgument (d := d + 1) hv) ?_
    show Ex (d + 8) kX9_wouldType 26 [some (vR (9, 0, 0)), some (vI x1), some (vI x2), j3] [] hp _
    refine Ex.go 4 (pc' := 34) (ls' := [some (vR (9, 0, 0)), some (vI x1), some (vI x2), j3]) (st' := [vR (3, 0, 0), vR (3, 0, 1)]) (hp' := hp) (fun _ => rfl) ?_
    obtain ⟨hp5, hv, h⟩ := Option.bind_eq_some_iff.mp h
    refine Ex.call (args := [vR (3, 0, 1), vR (3, 0, 0)]) (rest := []) rfl rfl rfl (exX3_copyFrom (d := d + 2) hv) ?_
    show Ex (d + 8) kX9_wouldType 37 [some (vR (9, 0, 0)), some (vI x1), some (vI x2), j3] [] hp5 _
    refine Ex.go 9 (pc' := 54) (ls' := [some (vR (9, 0, 0)), some (vI x1), some (vI x2), j3]) (st' := [vI x1, vR (7, 10, 0), vR (3, 0, 1)]) (hp' := (up hp5 (3, 0, 1) 9 0)) (fun _ => rfl) ?_
    obtain ⟨q7, hv, h⟩ := Option.bind_eq_some_iff.mp h
    refine Ex.call (args := [vR (3, 0, 1), vR (7, 10, 0), vI x1]) (rest := []) rfl rfl rfl (exX3_typeText (d := d + 2) hv) ?_
    show Ex (d + 8) kX9_wouldType 57 [some (vR (9, 0, 0)), some (vI x1), some (vI x2), j3] [vI q7.1] q7.2 _
    refine Ex.go 2 (pc' := 59) (ls' := [some (vR (9, 0, 0)), some (vI x1), some (vI x2), some (vI q7.1)]) (st' := [vI x2]) (hp' := q7.2) (fun _ => rfl) ?_
    refine Ex.tsw rfl ?_
    refine sw_c (k := 0) rfl (fun hc => ?_) (fun hc => ?_)
    · rw [if_pos hc] at h
      show Ex (d + 8) kX9_wouldType 92 [some (vR (9, 0, 0)), some (vI x1), some (vI x2), some (vI q7.1)] [] q7.2 _
      refine Ex.go 1 (pc' := 93) (ls' := [some (vR (9, 0, 0)), some (vI x1), some (vI x2), some (vI q7.1)]) (st' := [vI q7.1]) (hp' := q7.2) (fun _ => rfl) ?_
      cases h
      exact Ex.ret rfl rfl rfl
    rw [if_neg hc] at h
    refine sw_c (k := 1) rfl (fun hc => ?_) (fun hc => ?_)
    · rw [if_pos hc] at h
      show Ex (d + 8) kX9_wouldType 94 [some (vR (9, 0, 0)), some (vI x1), some (vI x2), some (vI q7.1)] [] q7.2 _
      refine Ex.go 3 (pc' := 101) (ls' := [some (vR (9, 0, 0)), some (vI x1), some (vI x2), some (vI q7.1)]) (st' := [vI (q7.2 (3, 0, 1) 7)]) (hp' := q7.2) (fun _ => rfl) ?_
      cases h
      exact Ex.ret rfl rfl rfl
    rw [if_neg hc] at h
    refine sw_c (k := 2) rfl (fun hc => ?_) (fun hc => ?_)
    · rw [if_pos hc] at h
      show Ex (d + 8) kX9_wouldType 102 [some (vR (9, 0, 0)), some (vI x1), some (vI x2), some (vI q7.1)] [] q7.2 _
      refine Ex.go 4 (pc' := 112) (ls' := [some (vR (9, 0, 0)), some (vI x1), some (vI x2), some (vI q7.1)]) (st' := [vI (q7.2 (1, 0, 1) 3)]) (hp' := q7.2) (fun _ => rfl) ?_
      cases h
      exact Ex.ret rfl rfl rfl
    rw [if_neg hc] at h
    refine sw_c (k := 3) rfl (fun hc => ?_) (fun hc => ?_)
    · rw [if_pos hc] at h
      show Ex (d + 8) kX9_wouldType 113 [some (vR (9, 0, 0)), some (vI x1), some (vI x2), some (vI q7.1)] [] q7.2 _
      refine Ex.go 4 (pc' := 123) (ls' := [some (vR (9, 0, 0)), some (vI x1), some (vI x2), some (vI q7.1)]) (st' := [vI (q7.2 (1, 0, 1) 2)]) (hp' := q7.2) (fun _ => rfl) ?_
      cases h
      exact Ex.ret rfl rfl rfl
    rw [if_neg hc] at h
    refine sw_c (k := 4) rfl (fun hc => ?_) (fun hc => ?_)
    · rw [if_pos hc] at h
      show Ex (d + 8) kX9_wouldType 124 [some (vR (9, 0, 0)), some (vI x1), some (vI x2), some (vI q7.1)] [] q7.2 _
      refine Ex.go 4 (pc' := 133) (ls' := [some (vR (9, 0, 0)), some (vI x1), some (vI x2), some (vI q7.1)]) (st' := [vI 10, vR (7, 9, 1)]) (hp' := q7.2) (fun _ => rfl) ?_
      obtain ⟨v10, hv, h⟩ := Option.bind_eq_some_iff.mp h
      refine Ex.call (args := [vR (7, 9, 1), vI 10]) (rest := []) rfl rfl rfl (exX7_at (d := d + 7) hv) ?_
      show Ex (d + 8) kX9_wouldType 136 [some (vR (9, 0, 0)), some (vI x1), some (vI x2), some (vI q7.1)] [vI v10] q7.2 _
      refine Ex.go 4 (pc' := 145) (ls' := [some (vR (9, 0, 0)), some (vI x1), some (vI x2), some (vI q7.1)]) (st' := [vI 10, vR (7, 9, 0), vI v10]) (hp' := q7.2) (fun _ => rfl) ?_
      obtain ⟨v11, hv, h⟩ := Option.bind_eq_some_iff.mp h
      refine Ex.call (args := [vR (7, 9, 0), vI 10]) (rest := [vI v10]) rfl rfl rfl (exX7_at (d := d + 7) hv) ?_
      show Ex (d + 8) kX9_wouldType 148 [some (vR (9, 0, 0)), some (vI x1), some (vI x2), some (vI q7.1)] [vI v11, vI v10] q7.2 _
      refine Ex.go 1 (pc' := 149) (ls' := [some (vR (9, 0, 0)), some (vI x1), some (vI x2), some (vI q7.1)]) (st' := [vI (v10 - v11)]) (hp' := q7.2) (fun _ => rfl) ?_
      cases h
      exact Ex.ret rfl rfl rfl
    rw [if_neg hc] at h
    show Ex (d + 8) kX9_wouldType 150 [some (vR (9, 0, 0)), some (vI x1), some (vI x2), some (vI q7.1)] [] q7.2 _
    refine Ex.go 3 (pc' := 157) (ls' := [some (vR (9, 0, 0)), some (vI x1), some (vI x2), some (vI q7.1)]) (st' := [vI (q7.2 (3, 0, 1) 9)]) (hp' := q7.2) (fun _ => rfl) ?_
    cases h
    exact Ex.ret rfl rfl rfl
  · cases h
    exact Ex.callT (args := [vI y0]) (rest := []) rfl rfl rfl (exX9_requireArgument (d := d + 1) hv) rfl
def fX9_wouldType_22 (x1 : Int32) (x2 : Int32) (hp : HP) : Option ((Int32 ⊕ Nat) × HP) := fX9_wouldType_23 x1 x2 0 hp
theorem exX9_wouldType_22 {d : Nat} {x1 : Int32} {x2 : Int32} {j3 : Option VL} {hp : HP} {v : ((Int32 ⊕ Nat) × HP)} (h : fX9_wouldType_22 x1 x2 hp = some v) : Ex (d + 8) kX9_wouldType 22 [some (vR (9, 0, 0)), some (vI x1), some (vI x2), j3] [] hp (rsT rsI v.1 v.2) := by
  replace h : (fX9_wouldType_23 x1 x2 0 hp) = some v := h
  refine Ex.go 1 (pc' := 23) (ls' := [some (vR (9, 0, 0)), some (vI x1), some (vI x2), j3]) (st' := [vI 0]) (hp' := hp) (fun _ => rfl) ?_
  exact exX9_wouldType_23 h
def fX9_wouldType (a0 : Int32) (a1 : Int32) (hp : HP) : Option ((Int32 ⊕ Nat) × HP) := (fX9_requireLoaded hp).bind fun q13 => Sum.elim (fun _ => (fX9_requireBytes a0 hp).bind fun q15 => Sum.elim (fun _ => if a1 < 0 then (fX9_wouldType_22 a0 a1 hp) else (if 5 < a1 then (fX9_wouldType_22 a0 a1 hp) else (fX9_wouldType_23 a0 a1 1 hp))) (fun E => some (.inr E, hp)) q15) (fun E => some (.inr E, hp)) q13
theorem exX9_wouldType {d : Nat} {a0 : Int32} {a1 : Int32} {hp : HP} {v : ((Int32 ⊕ Nat) × HP)} (h : fX9_wouldType a0 a1 hp = some v) : Calls (d + 8) 117 [vR (9, 0, 0), vI a0, vI a1] hp (rsT rsI v.1 v.2) := by
  replace h : ((fX9_requireLoaded hp).bind fun q13 => Sum.elim (fun _ => (fX9_requireBytes a0 hp).bind fun q15 => Sum.elim (fun _ => if a1 < 0 then (fX9_wouldType_22 a0 a1 hp) else (if 5 < a1 then (fX9_wouldType_22 a0 a1 hp) else (fX9_wouldType_23 a0 a1 1 hp))) (fun E => some (.inr E, hp)) q15) (fun E => some (.inr E, hp)) q13) = some v := h
  show Ex (d + 8) kX9_wouldType 0 [some (vR (9, 0, 0)), some (vI a0), some (vI a1), none] [] hp _
  refine Ex.go 1 (pc' := 1) (ls' := [some (vR (9, 0, 0)), some (vI a0), some (vI a1), none]) (st' := [vR (9, 0, 0)]) (hp' := hp) (fun _ => rfl) ?_
  obtain ⟨q13, hv, h⟩ := Option.bind_eq_some_iff.mp h
  rcases q13 with _ | E
  · replace h : ((fX9_requireBytes a0 hp).bind fun q15 => Sum.elim (fun _ => if a1 < 0 then (fX9_wouldType_22 a0 a1 hp) else (if 5 < a1 then (fX9_wouldType_22 a0 a1 hp) else (fX9_wouldType_23 a0 a1 1 hp))) (fun E => some (.inr E, hp)) q15) = some v := h
    refine Ex.call (args := [vR (9, 0, 0)]) (rest := []) rfl rfl rfl (exX9_requireLoaded (d := d + 1) hv) ?_
    show Ex (d + 8) kX9_wouldType 4 [some (vR (9, 0, 0)), some (vI a0), some (vI a1), none] [] hp _
    refine Ex.go 2 (pc' := 6) (ls' := [some (vR (9, 0, 0)), some (vI a0), some (vI a1), none]) (st' := [vI a0, vR (9, 0, 0)]) (hp' := hp) (fun _ => rfl) ?_
    obtain ⟨q15, hv, h⟩ := Option.bind_eq_some_iff.mp h
    rcases q15 with _ | E
    · replace h : (if a1 < 0 then (fX9_wouldType_22 a0 a1 hp) else (if 5 < a1 then (fX9_wouldType_22 a0 a1 hp) else (fX9_wouldType_23 a0 a1 1 hp))) = some v := h
      refine Ex.call (args := [vR (9, 0, 0), vI a0]) (rest := []) rfl rfl rfl (exX9_requireBytes (d := d + 0) hv) ?_
      show Ex (d + 8) kX9_wouldType 9 [some (vR (9, 0, 0)), some (vI a0), some (vI a1), none] [] hp _
      refine Ex.go 1 (pc' := 10) (ls' := [some (vR (9, 0, 0)), some (vI a0), some (vI a1), none]) (st' := [vI a1]) (hp' := hp) (fun _ => rfl) ?_
      refine Ex.ifc rfl ?_
      by_cases hc : a1 < 0
      · rw [if_pos hc] at h
        rw [brI_lt_p hc]
        show Ex (d + 8) kX9_wouldType 22 [some (vR (9, 0, 0)), some (vI a0), some (vI a1), none] [] hp _
        exact exX9_wouldType_22 h
      · rw [if_neg hc] at h
        rw [brI_lt_n hc]
        show Ex (d + 8) kX9_wouldType 13 [some (vR (9, 0, 0)), some (vI a0), some (vI a1), none] [] hp _
        refine Ex.go 2 (pc' := 15) (ls' := [some (vR (9, 0, 0)), some (vI a0), some (vI a1), none]) (st' := [vI 5, vI a1]) (hp' := hp) (fun _ => rfl) ?_
        refine Ex.icmp rfl ?_
        by_cases hc : 5 < a1
        · rw [if_pos hc] at h
          rw [brI_gt_p hc]
          show Ex (d + 8) kX9_wouldType 22 [some (vR (9, 0, 0)), some (vI a0), some (vI a1), none] [] hp _
          exact exX9_wouldType_22 h
        · rw [if_neg hc] at h
          rw [brI_gt_n hc]
          show Ex (d + 8) kX9_wouldType 18 [some (vR (9, 0, 0)), some (vI a0), some (vI a1), none] [] hp _
          refine Ex.go 2 (pc' := 23) (ls' := [some (vR (9, 0, 0)), some (vI a0), some (vI a1), none]) (st' := [vI 1]) (hp' := hp) (fun _ => rfl) ?_
          exact exX9_wouldType_23 h
    · cases h
      exact Ex.callT (args := [vR (9, 0, 0), vI a0]) (rest := []) rfl rfl rfl (exX9_requireBytes (d := d + 0) hv) rfl
  · cases h
    exact Ex.callT (args := [vR (9, 0, 0)]) (rest := []) rfl rfl rfl (exX9_requireLoaded (d := d + 1) hv) rfl
def fX9_paceFor_78 (x1 : Int32) (x2 : Int32) (k11 : Int32 → Int32 → HP → Option ((Int32 ⊕ Nat) × HP)) (hp : HP) : Option ((Int32 ⊕ Nat) × HP) := k11 x1 (x2 + 1) hp
theorem exX9_paceFor_78 {d : Nat} {x1 : Int32} {x2 : Int32} {hp : HP} {v : ((Int32 ⊕ Nat) × HP)} {k11 : Int32 → Int32 → HP → Option ((Int32 ⊕ Nat) × HP)} (hk11 : ∀ (x1 : Int32) (x2 : Int32) (hp : HP) (v : ((Int32 ⊕ Nat) × HP)), k11 x1 x2 hp = some v → Ex (d + 8) kX9_paceFor 11 [some (vR (9, 0, 0)), some (vI x1), some (vI x2)] [] hp (rsT rsI v.1 v.2)) (h : fX9_paceFor_78 x1 x2 k11 hp = some v) : Ex (d + 8) kX9_paceFor 78 [some (vR (9, 0, 0)), some (vI x1), some (vI x2)] [] hp (rsT rsI v.1 v.2) := by
  replace h : (k11 x1 (x2 + 1) hp) = some v := h
  refine Ex.go 2 (pc' := 11) (ls' := [some (vR (9, 0, 0)), some (vI x1), some (vI (x2 + 1))]) (st' := []) (hp' := hp) (fun _ => rfl) ?_
  exact hk11 _ _ _ _ h
def fX9_paceFor_11 (n : Nat) (x1 : Int32) (x2 : Int32) (hp : HP) : Option ((Int32 ⊕ Nat) × HP) := match n with
  | 0 => none
  | n + 1 => if 300 < x2 then (some ((.inl m1), hp)) else ((fX3_copyMotionFrom 1 0 hp).bind fun hp3 => (fX7_put 0 1 5 x2 hp3).bind fun hp6 => (fX3_typeText 1 10 0 x1 hp6).bind fun q8 => if (q8.2 (3, 0, 1) 7) = 4 then (fX9_paceFor_78 x1 x2 (fun x1 x2 hq => fX9_paceFor_11 n x1 x2 hq) q8.2) else (if (q8.2 (3, 0, 1) 7) = 5 then (fX9_paceFor_78 x1 x2 (fun x1 x2 hq => fX9_paceFor_11 n x1 x2 hq) q8.2) else (some ((.inl x2), q8.2))))
theorem exX9_paceFor_11 {d : Nat} : ∀ (n : Nat) (x1 : Int32) (x2 : Int32) (hp : HP) (v : ((Int32 ⊕ Nat) × HP)), fX9_paceFor_11 n x1 x2 hp = some v → Ex (d + 8) kX9_paceFor 11 [some (vR (9, 0, 0)), some (vI x1), some (vI x2)] [] hp (rsT rsI v.1 v.2) := by
  intro n
  induction n with
  | zero =>
    intro x1 x2 hp v h
    cases h
  | succ n ih =>
    intro x1 x2 hp v h
    replace h : (if 300 < x2 then (some ((.inl m1), hp)) else ((fX3_copyMotionFrom 1 0 hp).bind fun hp3 => (fX7_put 0 1 5 x2 hp3).bind fun hp6 => (fX3_typeText 1 10 0 x1 hp6).bind fun q8 => if (q8.2 (3, 0, 1) 7) = 4 then (fX9_paceFor_78 x1 x2 (fun x1 x2 hq => fX9_paceFor_11 n x1 x2 hq) q8.2) else (if (q8.2 (3, 0, 1) 7) = 5 then (fX9_paceFor_78 x1 x2 (fun x1 x2 hq => fX9_paceFor_11 n x1 x2 hq) q8.2) else (some ((.inl x2), q8.2))))) = some v := h
    refine Ex.go 2 (pc' := 15) (ls' := [some (vR (9, 0, 0)), some (vI x1), some (vI x2)]) (st' := [vI 300, vI x2]) (hp' := hp) (fun _ => rfl) ?_
    refine Ex.icmp rfl ?_
    by_cases hc : 300 < x2
    · rw [if_pos hc] at h
      rw [brI_gt_p hc]
      show Ex (d + 8) kX9_paceFor 84 [some (vR (9, 0, 0)), some (vI x1), some (vI x2)] [] hp _
      refine Ex.go 1 (pc' := 85) (ls' := [some (vR (9, 0, 0)), some (vI x1), some (vI x2)]) (st' := [vI m1]) (hp' := hp) (fun _ => rfl) ?_
      cases h
      exact Ex.ret rfl rfl rfl
    · rw [if_neg hc] at h
      rw [brI_gt_n hc]
      show Ex (d + 8) kX9_paceFor 18 [some (vR (9, 0, 0)), some (vI x1), some (vI x2)] [] hp _
      refine Ex.go 4 (pc' := 26) (ls' := [some (vR (9, 0, 0)), some (vI x1), some (vI x2)]) (st' := [vR (3, 0, 0), vR (3, 0, 1)]) (hp' := hp) (fun _ => rfl) ?_
      obtain ⟨hp3, hv, h⟩ := Option.bind_eq_some_iff.mp h
      refine Ex.call (args := [vR (3, 0, 1), vR (3, 0, 0)]) (rest := []) rfl rfl rfl (exX3_copyMotionFrom (d := d + 3) hv) ?_
      show Ex (d + 8) kX9_paceFor 29 [some (vR (9, 0, 0)), some (vI x1), some (vI x2)] [] hp3 _
      refine Ex.go 5 (pc' := 38) (ls' := [some (vR (9, 0, 0)), some (vI x1), some (vI x2)]) (st' := [vI x2, vI 5, vR (7, 0, 1)]) (hp' := hp3) (fun _ => rfl) ?_
      obtain ⟨hp6, hv, h⟩ := Option.bind_eq_some_iff.mp h
      refine Ex.call (args := [vR (7, 0, 1), vI 5, vI x2]) (rest := []) rfl rfl rfl (exX7_put (d := d + 7) hv) ?_
      show Ex (d + 8) kX9_paceFor 41 [some (vR (9, 0, 0)), some (vI x1), some (vI x2)] [] hp6 _
      refine Ex.go 5 (pc' := 50) (ls' := [some (vR (9, 0, 0)), some (vI x1), some (vI x2)]) (st' := [vI x1, vR (7, 10, 0), vR (3, 0, 1)]) (hp' := hp6) (fun _ => rfl) ?_
      obtain ⟨q8, hv, h⟩ := Option.bind_eq_some_iff.mp h
      refine Ex.call (args := [vR (3, 0, 1), vR (7, 10, 0), vI x1]) (rest := []) rfl rfl rfl (exX3_typeText (d := d + 2) hv) ?_
      show Ex (d + 8) kX9_paceFor 53 [some (vR (9, 0, 0)), some (vI x1), some (vI x2)] [vI q8.1] q8.2 _
      refine Ex.go 5 (pc' := 62) (ls' := [some (vR (9, 0, 0)), some (vI x1), some (vI x2)]) (st' := [vI 4, vI (q8.2 (3, 0, 1) 7)]) (hp' := q8.2) (fun _ => rfl) ?_
      refine Ex.icmp rfl ?_
      by_cases hc : (q8.2 (3, 0, 1) 7) = 4
      · rw [if_pos hc] at h
        rw [brI_eq_p hc]
        show Ex (d + 8) kX9_paceFor 78 [some (vR (9, 0, 0)), some (vI x1), some (vI x2)] [] q8.2 _
        exact exX9_paceFor_78 (fun q0 q1 q2 q3 hv => ih q0 q1 q2 q3 hv) h
      · rw [if_neg hc] at h
        rw [brI_eq_n hc]
        show Ex (d + 8) kX9_paceFor 65 [some (vR (9, 0, 0)), some (vI x1), some (vI x2)] [] q8.2 _
        refine Ex.go 4 (pc' := 73) (ls' := [some (vR (9, 0, 0)), some (vI x1), some (vI x2)]) (st' := [vI 5, vI (q8.2 (3, 0, 1) 7)]) (hp' := q8.2) (fun _ => rfl) ?_
        refine Ex.icmp rfl ?_
        by_cases hc : (q8.2 (3, 0, 1) 7) = 5
        · rw [if_pos hc] at h
          rw [brI_eq_p hc]
          show Ex (d + 8) kX9_paceFor 78 [some (vR (9, 0, 0)), some (vI x1), some (vI x2)] [] q8.2 _
          exact exX9_paceFor_78 (fun q0 q1 q2 q3 hv => ih q0 q1 q2 q3 hv) h
        · rw [if_neg hc] at h
          rw [brI_eq_n hc]
          show Ex (d + 8) kX9_paceFor 76 [some (vR (9, 0, 0)), some (vI x1), some (vI x2)] [] q8.2 _
          refine Ex.go 1 (pc' := 77) (ls' := [some (vR (9, 0, 0)), some (vI x1), some (vI x2)]) (st' := [vI x2]) (hp' := q8.2) (fun _ => rfl) ?_
          cases h
          exact Ex.ret rfl rfl rfl
def fX9_paceFor (a0 : Int32) (hp : HP) : Option ((Int32 ⊕ Nat) × HP) := (fX9_requireLoaded hp).bind fun q10 => Sum.elim (fun _ => (fX9_requireBytes a0 hp).bind fun q12 => Sum.elim (fun _ => fX9_paceFor_11 FU a0 1 hp) (fun E => some (.inr E, hp)) q12) (fun E => some (.inr E, hp)) q10
theorem exX9_paceFor {d : Nat} {a0 : Int32} {hp : HP} {v : ((Int32 ⊕ Nat) × HP)} (h : fX9_paceFor a0 hp = some v) : Calls (d + 8) 118 [vR (9, 0, 0), vI a0] hp (rsT rsI v.1 v.2) := by
  replace h : ((fX9_requireLoaded hp).bind fun q10 => Sum.elim (fun _ => (fX9_requireBytes a0 hp).bind fun q12 => Sum.elim (fun _ => fX9_paceFor_11 FU a0 1 hp) (fun E => some (.inr E, hp)) q12) (fun E => some (.inr E, hp)) q10) = some v := h
  show Ex (d + 8) kX9_paceFor 0 [some (vR (9, 0, 0)), some (vI a0), none] [] hp _
  refine Ex.go 1 (pc' := 1) (ls' := [some (vR (9, 0, 0)), some (vI a0), none]) (st' := [vR (9, 0, 0)]) (hp' := hp) (fun _ => rfl) ?_
  obtain ⟨q10, hv, h⟩ := Option.bind_eq_some_iff.mp h
  rcases q10 with _ | E
  · replace h : ((fX9_requireBytes a0 hp).bind fun q12 => Sum.elim (fun _ => fX9_paceFor_11 FU a0 1 hp) (fun E => some (.inr E, hp)) q12) = some v := h
    refine Ex.call (args := [vR (9, 0, 0)]) (rest := []) rfl rfl rfl (exX9_requireLoaded (d := d + 1) hv) ?_
    show Ex (d + 8) kX9_paceFor 4 [some (vR (9, 0, 0)), some (vI a0), none] [] hp _
    refine Ex.go 2 (pc' := 6) (ls' := [some (vR (9, 0, 0)), some (vI a0), none]) (st' := [vI a0, vR (9, 0, 0)]) (hp' := hp) (fun _ => rfl) ?_
    obtain ⟨q12, hv, h⟩ := Option.bind_eq_some_iff.mp h
    rcases q12 with _ | E
    · replace h : (fX9_paceFor_11 FU a0 1 hp) = some v := h
      refine Ex.call (args := [vR (9, 0, 0), vI a0]) (rest := []) rfl rfl rfl (exX9_requireBytes (d := d + 0) hv) ?_
      show Ex (d + 8) kX9_paceFor 9 [some (vR (9, 0, 0)), some (vI a0), none] [] hp _
      refine Ex.go 2 (pc' := 11) (ls' := [some (vR (9, 0, 0)), some (vI a0), some (vI 1)]) (st' := []) (hp' := hp) (fun _ => rfl) ?_
      exact exX9_paceFor_11 FU _ _ _ _ h
    · cases h
      exact Ex.callT (args := [vR (9, 0, 0), vI a0]) (rest := []) rfl rfl rfl (exX9_requireBytes (d := d + 0) hv) rfl
  · cases h
    exact Ex.callT (args := [vR (9, 0, 0)]) (rest := []) rfl rfl rfl (exX9_requireLoaded (d := d + 1) hv) rfl
def fX9_keysTo (a0 : Int32) (hp : HP) : Option ((Int32 ⊕ Nat) × HP) := (fX9_requireLoaded hp).bind fun q2 => Sum.elim (fun _ => (fX9_requireCarriageColumn a0 hp).bind fun q4 => Sum.elim (fun _ => (fX1_fewestKeysTo 0 a0 12 0 hp).bind fun q6 => some ((.inl q6.1), q6.2)) (fun E => some (.inr E, hp)) q4) (fun E => some (.inr E, hp)) q2
theorem exX9_keysTo {d : Nat} {a0 : Int32} {hp : HP} {v : ((Int32 ⊕ Nat) × HP)} (h : fX9_keysTo a0 hp = some v) : Calls (d + 8) 119 [vR (9, 0, 0), vI a0] hp (rsT rsI v.1 v.2) := by
  replace h : ((fX9_requireLoaded hp).bind fun q2 => Sum.elim (fun _ => (fX9_requireCarriageColumn a0 hp).bind fun q4 => Sum.elim (fun _ => (fX1_fewestKeysTo 0 a0 12 0 hp).bind fun q6 => some ((.inl q6.1), q6.2)) (fun E => some (.inr E, hp)) q4) (fun E => some (.inr E, hp)) q2) = some v := h
  show Ex (d + 8) kX9_keysTo 0 [some (vR (9, 0, 0)), some (vI a0)] [] hp _
  refine Ex.go 1 (pc' := 1) (ls' := [some (vR (9, 0, 0)), some (vI a0)]) (st' := [vR (9, 0, 0)]) (hp' := hp) (fun _ => rfl) ?_
  obtain ⟨q2, hv, h⟩ := Option.bind_eq_some_iff.mp h
  rcases q2 with _ | E
  · replace h : ((fX9_requireCarriageColumn a0 hp).bind fun q4 => Sum.elim (fun _ => (fX1_fewestKeysTo 0 a0 12 0 hp).bind fun q6 => some ((.inl q6.1), q6.2)) (fun E => some (.inr E, hp)) q4) = some v := h
    refine Ex.call (args := [vR (9, 0, 0)]) (rest := []) rfl rfl rfl (exX9_requireLoaded (d := d + 1) hv) ?_
    show Ex (d + 8) kX9_keysTo 4 [some (vR (9, 0, 0)), some (vI a0)] [] hp _
    refine Ex.go 2 (pc' := 6) (ls' := [some (vR (9, 0, 0)), some (vI a0)]) (st' := [vI a0, vR (9, 0, 0)]) (hp' := hp) (fun _ => rfl) ?_
    obtain ⟨q4, hv, h⟩ := Option.bind_eq_some_iff.mp h
    rcases q4 with _ | E
    · replace h : ((fX1_fewestKeysTo 0 a0 12 0 hp).bind fun q6 => some ((.inl q6.1), q6.2)) = some v := h
      refine Ex.call (args := [vR (9, 0, 0), vI a0]) (rest := []) rfl rfl rfl (exX9_requireCarriageColumn (d := d + 0) hv) ?_
      show Ex (d + 8) kX9_keysTo 9 [some (vR (9, 0, 0)), some (vI a0)] [] hp _
      refine Ex.go 6 (pc' := 21) (ls' := [some (vR (9, 0, 0)), some (vI a0)]) (st' := [vR (7, 12, 0), vI a0, vR (1, 0, 0)]) (hp' := hp) (fun _ => rfl) ?_
      obtain ⟨q6, hv, h⟩ := Option.bind_eq_some_iff.mp h
      refine Ex.call (args := [vR (1, 0, 0), vI a0, vR (7, 12, 0)]) (rest := []) rfl rfl rfl (exX1_fewestKeysTo (d := d + 3) hv) ?_
      show Ex (d + 8) kX9_keysTo 24 [some (vR (9, 0, 0)), some (vI a0)] [vI q6.1] q6.2 _
      cases h
      exact Ex.ret rfl rfl rfl
    · cases h
      exact Ex.callT (args := [vR (9, 0, 0), vI a0]) (rest := []) rfl rfl rfl (exX9_requireCarriageColumn (d := d + 0) hv) rfl
  · cases h
    exact Ex.callT (args := [vR (9, 0, 0)]) (rest := []) rfl rfl rfl (exX9_requireLoaded (d := d + 1) hv) rfl
def fX9_printsLeft_42 (n : Nat) (mr1 : Nat) (x2 : Int32) (hp : HP) : Option ((Int32 ⊕ Nat) × HP) := match n with
  | 0 => none
  | n + 1 => if 540 < x2 then (some ((.inl m1), hp)) else ((fX6_feed mr1 hp).bind fun q2 => if q2.1 = 0 then (some ((.inl x2), q2.2)) else (fX9_printsLeft_42 n mr1 (x2 + 1) q2.2))
theorem exX9_printsLeft_42 {d : Nat} : ∀ (n : Nat) (mr1 : Nat) (x2 : Int32) (hp : HP) (v : ((Int32 ⊕ Nat) × HP)), fX9_printsLeft_42 n mr1 x2 hp = some v → Ex (d + 7) kX9_printsLeft 42 [some (vR (9, 0, 0)), some (vR (6, 0, mr1)), some (vI x2)] [] hp (rsT rsI v.1 v.2) := by
  intro n
  induction n with
  | zero =>
    intro mr1 x2 hp v h
    cases h
  | succ n ih =>
    intro mr1 x2 hp v h
    replace h : (if 540 < x2 then (some ((.inl m1), hp)) else ((fX6_feed mr1 hp).bind fun q2 => if q2.1 = 0 then (some ((.inl x2), q2.2)) else (fX9_printsLeft_42 n mr1 (x2 + 1) q2.2))) = some v := h
    refine Ex.go 2 (pc' := 46) (ls' := [some (vR (9, 0, 0)), some (vR (6, 0, mr1)), some (vI x2)]) (st' := [vI 540, vI x2]) (hp' := hp) (fun _ => rfl) ?_
    refine Ex.icmp rfl ?_
    by_cases hc : 540 < x2
    · rw [if_pos hc] at h
      rw [brI_gt_p hc]
      show Ex (d + 7) kX9_printsLeft 64 [some (vR (9, 0, 0)), some (vR (6, 0, mr1)), some (vI x2)] [] hp _
      refine Ex.go 1 (pc' := 65) (ls' := [some (vR (9, 0, 0)), some (vR (6, 0, mr1)), some (vI x2)]) (st' := [vI m1]) (hp' := hp) (fun _ => rfl) ?_
      cases h
      exact Ex.ret rfl rfl rfl
    · rw [if_neg hc] at h
      rw [brI_gt_n hc]
      show Ex (d + 7) kX9_printsLeft 49 [some (vR (9, 0, 0)), some (vR (6, 0, mr1)), some (vI x2)] [] hp _
      refine Ex.go 1 (pc' := 50) (ls' := [some (vR (9, 0, 0)), some (vR (6, 0, mr1)), some (vI x2)]) (st' := [vR (6, 0, mr1)]) (hp' := hp) (fun _ => rfl) ?_
      obtain ⟨q2, hv, h⟩ := Option.bind_eq_some_iff.mp h
      refine Ex.call (args := [vR (6, 0, mr1)]) (rest := []) rfl rfl rfl (exX6_feed (d := d + 5) hv) ?_
      show Ex (d + 7) kX9_printsLeft 53 [some (vR (9, 0, 0)), some (vR (6, 0, mr1)), some (vI x2)] [vI q2.1] q2.2 _
      refine Ex.ifc rfl ?_
      by_cases hc : q2.1 = 0
      · rw [if_pos hc] at h
        rw [brI_ne_p hc]
        show Ex (d + 7) kX9_printsLeft 56 [some (vR (9, 0, 0)), some (vR (6, 0, mr1)), some (vI x2)] [] q2.2 _
        refine Ex.go 1 (pc' := 57) (ls' := [some (vR (9, 0, 0)), some (vR (6, 0, mr1)), some (vI x2)]) (st' := [vI x2]) (hp' := q2.2) (fun _ => rfl) ?_
        cases h
        exact Ex.ret rfl rfl rfl
      · rw [if_neg hc] at h
        rw [brI_ne_n hc]
        show Ex (d + 7) kX9_printsLeft 58 [some (vR (9, 0, 0)), some (vR (6, 0, mr1)), some (vI x2)] [] q2.2 _
        refine Ex.go 2 (pc' := 42) (ls' := [some (vR (9, 0, 0)), some (vR (6, 0, mr1)), some (vI (x2 + 1))]) (st' := []) (hp' := q2.2) (fun _ => rfl) ?_
        exact ih _ _ _ _ h
def fX9_printsLeft (hp : HP) : Option ((Int32 ⊕ Nat) × HP) := (fX9_requireLoaded hp).bind fun q4 => Sum.elim (fun _ => (fX7_copyFrom 0 1 0 0 hp).bind fun hp7 => (fX6_copyFrom 1 0 hp7).bind fun hp10 => fX9_printsLeft_42 FU 1 0 hp10) (fun E => some (.inr E, hp)) q4
theorem exX9_printsLeft {d : Nat} {hp : HP} {v : ((Int32 ⊕ Nat) × HP)} (h : fX9_printsLeft hp = some v) : Calls (d + 7) 120 [vR (9, 0, 0)] hp (rsT rsI v.1 v.2) := by
  replace h : ((fX9_requireLoaded hp).bind fun q4 => Sum.elim (fun _ => (fX7_copyFrom 0 1 0 0 hp).bind fun hp7 => (fX6_copyFrom 1 0 hp7).bind fun hp10 => fX9_printsLeft_42 FU 1 0 hp10) (fun E => some (.inr E, hp)) q4) = some v := h
  show Ex (d + 7) kX9_printsLeft 0 [some (vR (9, 0, 0)), none, none] [] hp _
  refine Ex.go 1 (pc' := 1) (ls' := [some (vR (9, 0, 0)), none, none]) (st' := [vR (9, 0, 0)]) (hp' := hp) (fun _ => rfl) ?_
  obtain ⟨q4, hv, h⟩ := Option.bind_eq_some_iff.mp h
  rcases q4 with _ | E
  · replace h : ((fX7_copyFrom 0 1 0 0 hp).bind fun hp7 => (fX6_copyFrom 1 0 hp7).bind fun hp10 => fX9_printsLeft_42 FU 1 0 hp10) = some v := h
    refine Ex.call (args := [vR (9, 0, 0)]) (rest := []) rfl rfl rfl (exX9_requireLoaded (d := d + 0) hv) ?_
    show Ex (d + 7) kX9_printsLeft 4 [some (vR (9, 0, 0)), none, none] [] hp _
    refine Ex.go 10 (pc' := 26) (ls' := [some (vR (9, 0, 0)), some (vR (6, 0, 1)), none]) (st' := [vR (7, 0, 0), vR (7, 0, 1)]) (hp' := hp) (fun _ => rfl) ?_
    obtain ⟨hp7, hv, h⟩ := Option.bind_eq_some_iff.mp h
    refine Ex.call (args := [vR (7, 0, 1), vR (7, 0, 0)]) (rest := []) rfl rfl rfl (exX7_copyFrom (d := d + 4) hv) ?_
    show Ex (d + 7) kX9_printsLeft 29 [some (vR (9, 0, 0)), some (vR (6, 0, 1)), none] [] hp7 _
    refine Ex.go 4 (pc' := 37) (ls' := [some (vR (9, 0, 0)), some (vR (6, 0, 1)), none]) (st' := [vR (6, 0, 0), vR (6, 0, 1)]) (hp' := hp7) (fun _ => rfl) ?_
    obtain ⟨hp10, hv, h⟩ := Option.bind_eq_some_iff.mp h
    refine Ex.call (args := [vR (6, 0, 1), vR (6, 0, 0)]) (rest := []) rfl rfl rfl (exX6_copyFrom (d := d + 3) hv) ?_
    show Ex (d + 7) kX9_printsLeft 40 [some (vR (9, 0, 0)), some (vR (6, 0, 1)), none] [] hp10 _
    refine Ex.go 2 (pc' := 42) (ls' := [some (vR (9, 0, 0)), some (vR (6, 0, 1)), some (vI 0)]) (st' := []) (hp' := hp10) (fun _ => rfl) ?_
    exact exX9_printsLeft_42 FU _ _ _ _ h
  · cases h
    exact Ex.callT (args := [vR (9, 0, 0)]) (rest := []) rfl rfl rfl (exX9_requireLoaded (d := d + 0) hv) rfl
def fX9_writeLine_26 (n : Nat) (x1 : Int32) (x2 : Int32) (hp : HP) : Option ((Int32 ⊕ Nat) × HP) := match n with
  | 0 => none
  | n + 1 => if x2 < (hp (9, 0, 0) 10) then ((fX4_placeOf 0 x1 x2 hp).bind fun v1 => (fX7_at 2 0 v1 hp).bind fun v2 => (fX7_put 11 0 x2 v2 hp).bind fun hp5 => fX9_writeLine_26 n x1 (x2 + 1) hp5) else (some ((.inl (hp (9, 0, 0) 10)), hp))
theorem exX9_writeLine_26 {d : Nat} : ∀ (n : Nat) (x1 : Int32) (x2 : Int32) (hp : HP) (v : ((Int32 ⊕ Nat) × HP)), fX9_writeLine_26 n x1 x2 hp = some v → Ex (d + 8) kX9_writeLine 26 [some (vR (9, 0, 0)), some (vI x1), some (vI x2)] [] hp (rsT rsI v.1 v.2) := by
  intro n
  induction n with
  | zero =>
    intro x1 x2 hp v h
    cases h
  | succ n ih =>
    intro x1 x2 hp v h
    replace h : (if x2 < (hp (9, 0, 0) 10) then ((fX4_placeOf 0 x1 x2 hp).bind fun v1 => (fX7_at 2 0 v1 hp).bind fun v2 => (fX7_put 11 0 x2 v2 hp).bind fun hp5 => fX9_writeLine_26 n x1 (x2 + 1) hp5) else (some ((.inl (hp (9, 0, 0) 10)), hp))) = some v := h
    refine Ex.go 3 (pc' := 31) (ls' := [some (vR (9, 0, 0)), some (vI x1), some (vI x2)]) (st' := [vI (hp (9, 0, 0) 10), vI x2]) (hp' := hp) (fun _ => rfl) ?_
    refine Ex.icmp rfl ?_
    by_cases hc : x2 < (hp (9, 0, 0) 10)
    · rw [if_pos hc] at h
      rw [brI_ge_p hc]
      show Ex (d + 8) kX9_writeLine 34 [some (vR (9, 0, 0)), some (vI x1), some (vI x2)] [] hp _
      refine Ex.go 12 (pc' := 58) (ls' := [some (vR (9, 0, 0)), some (vI x1), some (vI x2)]) (st' := [vI x2, vI x1, vR (4, 0, 0), vR (7, 2, 0), vI x2, vR (7, 11, 0)]) (hp' := hp) (fun _ => rfl) ?_
      obtain ⟨v1, hv, h⟩ := Option.bind_eq_some_iff.mp h
      refine Ex.call (args := [vR (4, 0, 0), vI x1, vI x2]) (rest := [vR (7, 2, 0), vI x2, vR (7, 11, 0)]) rfl rfl rfl (exX4_placeOf (d := d + 6) hv) ?_
      show Ex (d + 8) kX9_writeLine 61 [some (vR (9, 0, 0)), some (vI x1), some (vI x2)] [vI v1, vR (7, 2, 0), vI x2, vR (7, 11, 0)] hp _
      obtain ⟨v2, hv, h⟩ := Option.bind_eq_some_iff.mp h
      refine Ex.call (args := [vR (7, 2, 0), vI v1]) (rest := [vI x2, vR (7, 11, 0)]) rfl rfl rfl (exX7_at (d := d + 7) hv) ?_
      show Ex (d + 8) kX9_writeLine 64 [some (vR (9, 0, 0)), some (vI x1), some (vI x2)] [vI v2, vI x2, vR (7, 11, 0)] hp _
      obtain ⟨hp5, hv, h⟩ := Option.bind_eq_some_iff.mp h
      refine Ex.call (args := [vR (7, 11, 0), vI x2, vI v2]) (rest := []) rfl rfl rfl (exX7_put (d := d + 7) hv) ?_
      show Ex (d + 8) kX9_writeLine 67 [some (vR (9, 0, 0)), some (vI x1), some (vI x2)] [] hp5 _
      refine Ex.go 2 (pc' := 26) (ls' := [some (vR (9, 0, 0)), some (vI x1), some (vI (x2 + 1))]) (st' := []) (hp' := hp5) (fun _ => rfl) ?_
      exact ih _ _ _ _ h
    · rw [if_neg hc] at h
      rw [brI_ge_n hc]
      show Ex (d + 8) kX9_writeLine 73 [some (vR (9, 0, 0)), some (vI x1), some (vI x2)] [] hp _
      refine Ex.go 2 (pc' := 77) (ls' := [some (vR (9, 0, 0)), some (vI x1), some (vI x2)]) (st' := [vI (hp (9, 0, 0) 10)]) (hp' := hp) (fun _ => rfl) ?_
      cases h
      exact Ex.ret rfl rfl rfl
def fX9_writeLine (a0 : Int32) (hp : HP) : Option ((Int32 ⊕ Nat) × HP) := (fX9_requireLoaded hp).bind fun q7 => Sum.elim (fun _ => (fX9_requireLine a0 hp).bind fun q9 => Sum.elim (fun _ => (fX4_endOf 0 a0 hp).bind fun v10 => fX9_writeLine_26 FU a0 0 (up hp (9, 0, 0) 10 v10)) (fun E => some (.inr E, hp)) q9) (fun E => some (.inr E, hp)) q7
theorem exX9_writeLine {d : Nat} {a0 : Int32} {hp : HP} {v : ((Int32 ⊕ Nat) × HP)} (h : fX9_writeLine a0 hp = some v) : Calls (d + 8) 121 [vR (9, 0, 0), vI a0] hp (rsT rsI v.1 v.2) := by
  replace h : ((fX9_requireLoaded hp).bind fun q7 => Sum.elim (fun _ => (fX9_requireLine a0 hp).bind fun q9 => Sum.elim (fun _ => (fX4_endOf 0 a0 hp).bind fun v10 => fX9_writeLine_26 FU a0 0 (up hp (9, 0, 0) 10 v10)) (fun E => some (.inr E, hp)) q9) (fun E => some (.inr E, hp)) q7) = some v := h
  show Ex (d + 8) kX9_writeLine 0 [some (vR (9, 0, 0)), some (vI a0), none] [] hp _
  refine Ex.go 1 (pc' := 1) (ls' := [some (vR (9, 0, 0)), some (vI a0), none]) (st' := [vR (9, 0, 0)]) (hp' := hp) (fun _ => rfl) ?_
  obtain ⟨q7, hv, h⟩ := Option.bind_eq_some_iff.mp h
  rcases q7 with _ | E
  · replace h : ((fX9_requireLine a0 hp).bind fun q9 => Sum.elim (fun _ => (fX4_endOf 0 a0 hp).bind fun v10 => fX9_writeLine_26 FU a0 0 (up hp (9, 0, 0) 10 v10)) (fun E => some (.inr E, hp)) q9) = some v := h
    refine Ex.call (args := [vR (9, 0, 0)]) (rest := []) rfl rfl rfl (exX9_requireLoaded (d := d + 1) hv) ?_
    show Ex (d + 8) kX9_writeLine 4 [some (vR (9, 0, 0)), some (vI a0), none] [] hp _
    refine Ex.go 2 (pc' := 6) (ls' := [some (vR (9, 0, 0)), some (vI a0), none]) (st' := [vI a0, vR (9, 0, 0)]) (hp' := hp) (fun _ => rfl) ?_
    obtain ⟨q9, hv, h⟩ := Option.bind_eq_some_iff.mp h
    rcases q9 with _ | E
    · replace h : ((fX4_endOf 0 a0 hp).bind fun v10 => fX9_writeLine_26 FU a0 0 (up hp (9, 0, 0) 10 v10)) = some v := h
      refine Ex.call (args := [vR (9, 0, 0), vI a0]) (rest := []) rfl rfl rfl (exX9_requireLine (d := d + 0) hv) ?_
      show Ex (d + 8) kX9_writeLine 9 [some (vR (9, 0, 0)), some (vI a0), none] [] hp _
      refine Ex.go 5 (pc' := 18) (ls' := [some (vR (9, 0, 0)), some (vI a0), none]) (st' := [vI a0, vR (4, 0, 0), vR (9, 0, 0)]) (hp' := hp) (fun _ => rfl) ?_
      obtain ⟨v10, hv, h⟩ := Option.bind_eq_some_iff.mp h
      refine Ex.call (args := [vR (4, 0, 0), vI a0]) (rest := [vR (9, 0, 0)]) rfl rfl rfl (exX4_endOf (d := d + 5) hv) ?_
      show Ex (d + 8) kX9_writeLine 21 [some (vR (9, 0, 0)), some (vI a0), none] [vI v10, vR (9, 0, 0)] hp _
      refine Ex.go 3 (pc' := 26) (ls' := [some (vR (9, 0, 0)), some (vI a0), some (vI 0)]) (st' := []) (hp' := (up hp (9, 0, 0) 10 v10)) (fun _ => rfl) ?_
      exact exX9_writeLine_26 FU _ _ _ _ h
    · cases h
      exact Ex.callT (args := [vR (9, 0, 0), vI a0]) (rest := []) rfl rfl rfl (exX9_requireLine (d := d + 0) hv) rfl
  · cases h
    exact Ex.callT (args := [vR (9, 0, 0)]) (rest := []) rfl rfl rfl (exX9_requireLoaded (d := d + 1) hv) rfl
def fX9_writeShades_88 (x1 : Int32) (x2 : Int32) (ws0 : Nat) (ms0 : Nat) (y1 : Int32) (y2 : Int32) (k26 : Int32 → Int32 → HP → Option ((Int32 ⊕ Nat) × HP)) (hp : HP) : Option ((Int32 ⊕ Nat) × HP) := (fX7_put ws0 ms0 y1 y2 hp).bind fun hp3 => k26 x1 (x2 + 1) hp3
theorem exX9_writeShades_88 {d : Nat} {x1 : Int32} {x2 : Int32} {ws0 : Nat} {ms0 : Nat} {y1 : Int32} {y2 : Int32} {j3 : Option VL} {hp : HP} {v : ((Int32 ⊕ Nat) × HP)} {k26 : Int32 → Int32 → HP → Option ((Int32 ⊕ Nat) × HP)} (hk26 : ∀ (x1 : Int32) (x2 : Int32) (j3 : Option VL) (hp : HP) (v : ((Int32 ⊕ Nat) × HP)), k26 x1 x2 hp = some v → Ex (d + 8) kX9_writeShades 26 [some (vR (9, 0, 0)), some (vI x1), some (vI x2), j3] [] hp (rsT rsI v.1 v.2)) (h : fX9_writeShades_88 x1 x2 ws0 ms0 y1 y2 k26 hp = some v) : Ex (d + 8) kX9_writeShades 88 [some (vR (9, 0, 0)), some (vI x1), some (vI x2), j3] [vI y2, vI y1, vR (7, ws0, ms0)] hp (rsT rsI v.1 v.2) := by
  replace h : ((fX7_put ws0 ms0 y1 y2 hp).bind fun hp3 => k26 x1 (x2 + 1) hp3) = some v := h
  obtain ⟨hp3, hv, h⟩ := Option.bind_eq_some_iff.mp h
  refine Ex.call (args := [vR (7, ws0, ms0), vI y1, vI y2]) (rest := []) rfl rfl rfl (exX7_put (d := d + 7) hv) ?_
  show Ex (d + 8) kX9_writeShades 91 [some (vR (9, 0, 0)), some (vI x1), some (vI x2), j3] [] hp3 _
  refine Ex.go 2 (pc' := 26) (ls' := [some (vR (9, 0, 0)), some (vI x1), some (vI (x2 + 1)), j3]) (st' := []) (hp' := hp3) (fun _ => rfl) ?_
  exact hk26 _ _ _ _ _ h
def fX9_writeShades_26 (n : Nat) (x1 : Int32) (x2 : Int32) (hp : HP) : Option ((Int32 ⊕ Nat) × HP) := match n with
  | 0 => none
  | n + 1 => if x2 < (hp (9, 0, 0) 10) then ((fX4_placeOf 0 x1 x2 hp).bind fun v4 => (fX4_isEmpty 0 v4 hp).bind fun v5 => if v5 = 0 then ((fX7_at 3 0 v4 hp).bind fun v6 => fX9_writeShades_88 x1 x2 11 0 x2 (48 + v6) (fun x1 x2 hq => fX9_writeShades_26 n x1 x2 hq) hp) else (fX9_writeShades_88 x1 x2 11 0 x2 32 (fun x1 x2 hq => fX9_writeShades_26 n x1 x2 hq) hp)) else (some ((.inl (hp (9, 0, 0) 10)), hp))
theorem exX9_writeShades_26 {d : Nat} : ∀ (n : Nat) (x1 : Int32) (x2 : Int32) (j3 : Option VL) (hp : HP) (v : ((Int32 ⊕ Nat) × HP)), fX9_writeShades_26 n x1 x2 hp = some v → Ex (d + 8) kX9_writeShades 26 [some (vR (9, 0, 0)), some (vI x1), some (vI x2), j3] [] hp (rsT rsI v.1 v.2) := by
  intro n
  induction n with
  | zero =>
    intro x1 x2 j3 hp v h
    cases h
  | succ n ih =>
    intro x1 x2 j3 hp v h
    replace h : (if x2 < (hp (9, 0, 0) 10) then ((fX4_placeOf 0 x1 x2 hp).bind fun v4 => (fX4_isEmpty 0 v4 hp).bind fun v5 => if v5 = 0 then ((fX7_at 3 0 v4 hp).bind fun v6 => fX9_writeShades_88 x1 x2 11 0 x2 (48 + v6) (fun x1 x2 hq => fX9_writeShades_26 n x1 x2 hq) hp) else (fX9_writeShades_88 x1 x2 11 0 x2 32 (fun x1 x2 hq => fX9_writeShades_26 n x1 x2 hq) hp)) else (some ((.inl (hp (9, 0, 0) 10)), hp))) = some v := h
    refine Ex.go 3 (pc' := 31) (ls' := [some (vR (9, 0, 0)), some (vI x1), some (vI x2), j3]) (st' := [vI (hp (9, 0, 0) 10), vI x2]) (hp' := hp) (fun _ => rfl) ?_
    refine Ex.icmp rfl ?_
    by_cases hc : x2 < (hp (9, 0, 0) 10)
    · rw [if_pos hc] at h
      rw [brI_ge_p hc]
      show Ex (d + 8) kX9_writeShades 34 [some (vR (9, 0, 0)), some (vI x1), some (vI x2), j3] [] hp _
      refine Ex.go 5 (pc' := 43) (ls' := [some (vR (9, 0, 0)), some (vI x1), some (vI x2), j3]) (st' := [vI x2, vI x1, vR (4, 0, 0)]) (hp' := hp) (fun _ => rfl) ?_
      obtain ⟨v4, hv, h⟩ := Option.bind_eq_some_iff.mp h
      refine Ex.call (args := [vR (4, 0, 0), vI x1, vI x2]) (rest := []) rfl rfl rfl (exX4_placeOf (d := d + 6) hv) ?_
      show Ex (d + 8) kX9_writeShades 46 [some (vR (9, 0, 0)), some (vI x1), some (vI x2), j3] [vI v4] hp _
      refine Ex.go 8 (pc' := 60) (ls' := [some (vR (9, 0, 0)), some (vI x1), some (vI x2), some (vI v4)]) (st' := [vI v4, vR (4, 0, 0), vI x2, vR (7, 11, 0)]) (hp' := hp) (fun _ => rfl) ?_
      obtain ⟨v5, hv, h⟩ := Option.bind_eq_some_iff.mp h
      refine Ex.call (args := [vR (4, 0, 0), vI v4]) (rest := [vI x2, vR (7, 11, 0)]) rfl rfl rfl (exX4_isEmpty (d := d + 6) hv) ?_
      show Ex (d + 8) kX9_writeShades 63 [some (vR (9, 0, 0)), some (vI x1), some (vI x2), some (vI v4)] [vI v5, vI x2, vR (7, 11, 0)] hp _
      refine Ex.ifc rfl ?_
      by_cases hc : v5 = 0
      · rw [if_pos hc] at h
        rw [brI_eq_p hc]
        show Ex (d + 8) kX9_writeShades 71 [some (vR (9, 0, 0)), some (vI x1), some (vI x2), some (vI v4)] [vI x2, vR (7, 11, 0)] hp _
        refine Ex.go 6 (pc' := 84) (ls' := [some (vR (9, 0, 0)), some (vI x1), some (vI x2), some (vI v4)]) (st' := [vI v4, vR (7, 3, 0), vI 48, vI x2, vR (7, 11, 0)]) (hp' := hp) (fun _ => rfl) ?_
        obtain ⟨v6, hv, h⟩ := Option.bind_eq_some_iff.mp h
        refine Ex.call (args := [vR (7, 3, 0), vI v4]) (rest := [vI 48, vI x2, vR (7, 11, 0)]) rfl rfl rfl (exX7_at (d := d + 7) hv) ?_
        show Ex (d + 8) kX9_writeShades 87 [some (vR (9, 0, 0)), some (vI x1), some (vI x2), some (vI v4)] [vI v6, vI 48, vI x2, vR (7, 11, 0)] hp _
        refine Ex.go 1 (pc' := 88) (ls' := [some (vR (9, 0, 0)), some (vI x1), some (vI x2), some (vI v4)]) (st' := [vI (48 + v6), vI x2, vR (7, 11, 0)]) (hp' := hp) (fun _ => rfl) ?_
        exact exX9_writeShades_88 (fun q0 q1 q2 q3 q4 hv => ih q0 q1 q2 q3 q4 hv) h
      · rw [if_neg hc] at h
        rw [brI_eq_n hc]
        show Ex (d + 8) kX9_writeShades 66 [some (vR (9, 0, 0)), some (vI x1), some (vI x2), some (vI v4)] [vI x2, vR (7, 11, 0)] hp _
        refine Ex.go 2 (pc' := 88) (ls' := [some (vR (9, 0, 0)), some (vI x1), some (vI x2), some (vI v4)]) (st' := [vI 32, vI x2, vR (7, 11, 0)]) (hp' := hp) (fun _ => rfl) ?_
        exact exX9_writeShades_88 (fun q0 q1 q2 q3 q4 hv => ih q0 q1 q2 q3 q4 hv) h
    · rw [if_neg hc] at h
      rw [brI_ge_n hc]
      show Ex (d + 8) kX9_writeShades 97 [some (vR (9, 0, 0)), some (vI x1), some (vI x2), j3] [] hp _
      refine Ex.go 2 (pc' := 101) (ls' := [some (vR (9, 0, 0)), some (vI x1), some (vI x2), j3]) (st' := [vI (hp (9, 0, 0) 10)]) (hp' := hp) (fun _ => rfl) ?_
      cases h
      exact Ex.ret rfl rfl rfl
def fX9_writeShades (a0 : Int32) (hp : HP) : Option ((Int32 ⊕ Nat) × HP) := (fX9_requireLoaded hp).bind fun q8 => Sum.elim (fun _ => (fX9_requireLine a0 hp).bind fun q10 => Sum.elim (fun _ => (fX4_endOf 0 a0 hp).bind fun v11 => fX9_writeShades_26 FU a0 0 (up hp (9, 0, 0) 10 v11)) (fun E => some (.inr E, hp)) q10) (fun E => some (.inr E, hp)) q8
theorem exX9_writeShades {d : Nat} {a0 : Int32} {hp : HP} {v : ((Int32 ⊕ Nat) × HP)} (h : fX9_writeShades a0 hp = some v) : Calls (d + 8) 122 [vR (9, 0, 0), vI a0] hp (rsT rsI v.1 v.2) := by
  replace h : ((fX9_requireLoaded hp).bind fun q8 => Sum.elim (fun _ => (fX9_requireLine a0 hp).bind fun q10 => Sum.elim (fun _ => (fX4_endOf 0 a0 hp).bind fun v11 => fX9_writeShades_26 FU a0 0 (up hp (9, 0, 0) 10 v11)) (fun E => some (.inr E, hp)) q10) (fun E => some (.inr E, hp)) q8) = some v := h
  show Ex (d + 8) kX9_writeShades 0 [some (vR (9, 0, 0)), some (vI a0), none, none] [] hp _
  refine Ex.go 1 (pc' := 1) (ls' := [some (vR (9, 0, 0)), some (vI a0), none, none]) (st' := [vR (9, 0, 0)]) (hp' := hp) (fun _ => rfl) ?_
  obtain ⟨q8, hv, h⟩ := Option.bind_eq_some_iff.mp h
  rcases q8 with _ | E
  · replace h : ((fX9_requireLine a0 hp).bind fun q10 => Sum.elim (fun _ => (fX4_endOf 0 a0 hp).bind fun v11 => fX9_writeShades_26 FU a0 0 (up hp (9, 0, 0) 10 v11)) (fun E => some (.inr E, hp)) q10) = some v := h
    refine Ex.call (args := [vR (9, 0, 0)]) (rest := []) rfl rfl rfl (exX9_requireLoaded (d := d + 1) hv) ?_
    show Ex (d + 8) kX9_writeShades 4 [some (vR (9, 0, 0)), some (vI a0), none, none] [] hp _
    refine Ex.go 2 (pc' := 6) (ls' := [some (vR (9, 0, 0)), some (vI a0), none, none]) (st' := [vI a0, vR (9, 0, 0)]) (hp' := hp) (fun _ => rfl) ?_
    obtain ⟨q10, hv, h⟩ := Option.bind_eq_some_iff.mp h
    rcases q10 with _ | E
    · replace h : ((fX4_endOf 0 a0 hp).bind fun v11 => fX9_writeShades_26 FU a0 0 (up hp (9, 0, 0) 10 v11)) = some v := h
      refine Ex.call (args := [vR (9, 0, 0), vI a0]) (rest := []) rfl rfl rfl (exX9_requireLine (d := d + 0) hv) ?_
      show Ex (d + 8) kX9_writeShades 9 [some (vR (9, 0, 0)), some (vI a0), none, none] [] hp _
      refine Ex.go 5 (pc' := 18) (ls' := [some (vR (9, 0, 0)), some (vI a0), none, none]) (st' := [vI a0, vR (4, 0, 0), vR (9, 0, 0)]) (hp' := hp) (fun _ => rfl) ?_
      obtain ⟨v11, hv, h⟩ := Option.bind_eq_some_iff.mp h
      refine Ex.call (args := [vR (4, 0, 0), vI a0]) (rest := [vR (9, 0, 0)]) rfl rfl rfl (exX4_endOf (d := d + 5) hv) ?_
      show Ex (d + 8) kX9_writeShades 21 [some (vR (9, 0, 0)), some (vI a0), none, none] [vI v11, vR (9, 0, 0)] hp _
      refine Ex.go 3 (pc' := 26) (ls' := [some (vR (9, 0, 0)), some (vI a0), some (vI 0), none]) (st' := []) (hp' := (up hp (9, 0, 0) 10 v11)) (fun _ => rfl) ?_
      exact exX9_writeShades_26 FU _ _ _ _ _ h
    · cases h
      exact Ex.callT (args := [vR (9, 0, 0), vI a0]) (rest := []) rfl rfl rfl (exX9_requireLine (d := d + 0) hv) rfl
  · cases h
    exact Ex.callT (args := [vR (9, 0, 0)]) (rest := []) rfl rfl rfl (exX9_requireLoaded (d := d + 1) hv) rfl
def fX9_rulerMark (a0 : Int32) (hp : HP) : Option Int32 := if a0 = (hp (1, 0, 0) 3) then (some 86) else ((fX7_at 0 0 2 hp).bind fun v1 => if a0 = v1 then (some 76) else ((fX7_at 0 0 3 hp).bind fun v2 => if a0 = v2 then (some 82) else ((fX1_stopsAt 0 a0 hp).bind fun v3 => if v3 = 0 then (some 46) else (some 84))))
theorem exX9_rulerMark {d : Nat} {a0 : Int32} {hp : HP} {v : Int32} (h : fX9_rulerMark a0 hp = some v) : Calls (d + 2) 124 [vR (9, 0, 0), vI a0] hp (rsI v hp) := by
  replace h : (if a0 = (hp (1, 0, 0) 3) then (some 86) else ((fX7_at 0 0 2 hp).bind fun v1 => if a0 = v1 then (some 76) else ((fX7_at 0 0 3 hp).bind fun v2 => if a0 = v2 then (some 82) else ((fX1_stopsAt 0 a0 hp).bind fun v3 => if v3 = 0 then (some 46) else (some 84))))) = some v := h
  show Ex (d + 2) kX9_rulerMark 0 [some (vR (9, 0, 0)), some (vI a0)] [] hp _
  refine Ex.go 5 (pc' := 11) (ls' := [some (vR (9, 0, 0)), some (vI a0)]) (st' := [vI (hp (1, 0, 0) 3), vI a0]) (hp' := hp) (fun _ => rfl) ?_
  refine Ex.icmp rfl ?_
  by_cases hc : a0 = (hp (1, 0, 0) 3)
  · rw [if_pos hc] at h
    rw [brI_ne_p hc]
    show Ex (d + 2) kX9_rulerMark 14 [some (vR (9, 0, 0)), some (vI a0)] [] hp _
    refine Ex.go 1 (pc' := 16) (ls' := [some (vR (9, 0, 0)), some (vI a0)]) (st' := [vI 86]) (hp' := hp) (fun _ => rfl) ?_
    cases h
    exact Ex.ret rfl rfl rfl
  · rw [if_neg hc] at h
    rw [brI_ne_n hc]
    show Ex (d + 2) kX9_rulerMark 17 [some (vR (9, 0, 0)), some (vI a0)] [] hp _
    refine Ex.go 5 (pc' := 26) (ls' := [some (vR (9, 0, 0)), some (vI a0)]) (st' := [vI 2, vR (7, 0, 0), vI a0]) (hp' := hp) (fun _ => rfl) ?_
    obtain ⟨v1, hv, h⟩ := Option.bind_eq_some_iff.mp h
    refine Ex.call (args := [vR (7, 0, 0), vI 2]) (rest := [vI a0]) rfl rfl rfl (exX7_at (d := d + 1) hv) ?_
    show Ex (d + 2) kX9_rulerMark 29 [some (vR (9, 0, 0)), some (vI a0)] [vI v1, vI a0] hp _
    refine Ex.icmp rfl ?_
    by_cases hc : a0 = v1
    · rw [if_pos hc] at h
      rw [brI_ne_p hc]
      show Ex (d + 2) kX9_rulerMark 32 [some (vR (9, 0, 0)), some (vI a0)] [] hp _
      refine Ex.go 1 (pc' := 34) (ls' := [some (vR (9, 0, 0)), some (vI a0)]) (st' := [vI 76]) (hp' := hp) (fun _ => rfl) ?_
      cases h
      exact Ex.ret rfl rfl rfl
    · rw [if_neg hc] at h
      rw [brI_ne_n hc]
      show Ex (d + 2) kX9_rulerMark 35 [some (vR (9, 0, 0)), some (vI a0)] [] hp _
      refine Ex.go 5 (pc' := 44) (ls' := [some (vR (9, 0, 0)), some (vI a0)]) (st' := [vI 3, vR (7, 0, 0), vI a0]) (hp' := hp) (fun _ => rfl) ?_
      obtain ⟨v2, hv, h⟩ := Option.bind_eq_some_iff.mp h
      refine Ex.call (args := [vR (7, 0, 0), vI 3]) (rest := [vI a0]) rfl rfl rfl (exX7_at (d := d + 1) hv) ?_
      show Ex (d + 2) kX9_rulerMark 47 [some (vR (9, 0, 0)), some (vI a0)] [vI v2, vI a0] hp _
      refine Ex.icmp rfl ?_
      by_cases hc : a0 = v2
      · rw [if_pos hc] at h
        rw [brI_ne_p hc]
        show Ex (d + 2) kX9_rulerMark 50 [some (vR (9, 0, 0)), some (vI a0)] [] hp _
        refine Ex.go 1 (pc' := 52) (ls' := [some (vR (9, 0, 0)), some (vI a0)]) (st' := [vI 82]) (hp' := hp) (fun _ => rfl) ?_
        cases h
        exact Ex.ret rfl rfl rfl
      · rw [if_neg hc] at h
        rw [brI_ne_n hc]
        show Ex (d + 2) kX9_rulerMark 53 [some (vR (9, 0, 0)), some (vI a0)] [] hp _
        refine Ex.go 4 (pc' := 61) (ls' := [some (vR (9, 0, 0)), some (vI a0)]) (st' := [vI a0, vR (1, 0, 0)]) (hp' := hp) (fun _ => rfl) ?_
        obtain ⟨v3, hv, h⟩ := Option.bind_eq_some_iff.mp h
        refine Ex.call (args := [vR (1, 0, 0), vI a0]) (rest := []) rfl rfl rfl (exX1_stopsAt (d := d + 0) hv) ?_
        show Ex (d + 2) kX9_rulerMark 64 [some (vR (9, 0, 0)), some (vI a0)] [vI v3] hp _
        refine Ex.ifc rfl ?_
        by_cases hc : v3 = 0
        · rw [if_pos hc] at h
          rw [brI_eq_p hc]
          show Ex (d + 2) kX9_rulerMark 72 [some (vR (9, 0, 0)), some (vI a0)] [] hp _
          refine Ex.go 1 (pc' := 74) (ls' := [some (vR (9, 0, 0)), some (vI a0)]) (st' := [vI 46]) (hp' := hp) (fun _ => rfl) ?_
          cases h
          exact Ex.ret rfl rfl rfl
        · rw [if_neg hc] at h
          rw [brI_eq_n hc]
          show Ex (d + 2) kX9_rulerMark 67 [some (vR (9, 0, 0)), some (vI a0)] [] hp _
          refine Ex.go 2 (pc' := 74) (ls' := [some (vR (9, 0, 0)), some (vI a0)]) (st' := [vI 84]) (hp' := hp) (fun _ => rfl) ?_
          cases h
          exact Ex.ret rfl rfl rfl
def fX9_writeRuler_21 (n : Nat) (x1 : Int32) (hp : HP) : Option ((Int32 ⊕ Nat) × HP) := match n with
  | 0 => none
  | n + 1 => if x1 < (hp (9, 0, 0) 10) then ((fX9_rulerMark x1 hp).bind fun v1 => (fX7_put 11 0 x1 v1 hp).bind fun hp4 => fX9_writeRuler_21 n (x1 + 1) hp4) else (some ((.inl (hp (9, 0, 0) 10)), hp))
theorem exX9_writeRuler_21 {d : Nat} : ∀ (n : Nat) (x1 : Int32) (hp : HP) (v : ((Int32 ⊕ Nat) × HP)), fX9_writeRuler_21 n x1 hp = some v → Ex (d + 7) kX9_writeRuler 21 [some (vR (9, 0, 0)), some (vI x1)] [] hp (rsT rsI v.1 v.2) := by
  intro n
  induction n with
  | zero =>
    intro x1 hp v h
    cases h
  | succ n ih =>
    intro x1 hp v h
    replace h : (if x1 < (hp (9, 0, 0) 10) then ((fX9_rulerMark x1 hp).bind fun v1 => (fX7_put 11 0 x1 v1 hp).bind fun hp4 => fX9_writeRuler_21 n (x1 + 1) hp4) else (some ((.inl (hp (9, 0, 0) 10)), hp))) = some v := h
    refine Ex.go 3 (pc' := 26) (ls' := [some (vR (9, 0, 0)), some (vI x1)]) (st' := [vI (hp (9, 0, 0) 10), vI x1]) (hp' := hp) (fun _ => rfl) ?_
    refine Ex.icmp rfl ?_
    by_cases hc : x1 < (hp (9, 0, 0) 10)
    · rw [if_pos hc] at h
      rw [brI_ge_p hc]
      show Ex (d + 7) kX9_writeRuler 29 [some (vR (9, 0, 0)), some (vI x1)] [] hp _
      refine Ex.go 5 (pc' := 36) (ls' := [some (vR (9, 0, 0)), some (vI x1)]) (st' := [vI x1, vR (9, 0, 0), vI x1, vR (7, 11, 0)]) (hp' := hp) (fun _ => rfl) ?_
      obtain ⟨v1, hv, h⟩ := Option.bind_eq_some_iff.mp h
      refine Ex.call (args := [vR (9, 0, 0), vI x1]) (rest := [vI x1, vR (7, 11, 0)]) rfl rfl rfl (exX9_rulerMark (d := d + 4) hv) ?_
      show Ex (d + 7) kX9_writeRuler 39 [some (vR (9, 0, 0)), some (vI x1)] [vI v1, vI x1, vR (7, 11, 0)] hp _
      obtain ⟨hp4, hv, h⟩ := Option.bind_eq_some_iff.mp h
      refine Ex.call (args := [vR (7, 11, 0), vI x1, vI v1]) (rest := []) rfl rfl rfl (exX7_put (d := d + 6) hv) ?_
      show Ex (d + 7) kX9_writeRuler 42 [some (vR (9, 0, 0)), some (vI x1)] [] hp4 _
      refine Ex.go 2 (pc' := 21) (ls' := [some (vR (9, 0, 0)), some (vI (x1 + 1))]) (st' := []) (hp' := hp4) (fun _ => rfl) ?_
      exact ih _ _ _ h
    · rw [if_neg hc] at h
      rw [brI_ge_n hc]
      show Ex (d + 7) kX9_writeRuler 48 [some (vR (9, 0, 0)), some (vI x1)] [] hp _
      refine Ex.go 2 (pc' := 52) (ls' := [some (vR (9, 0, 0)), some (vI x1)]) (st' := [vI (hp (9, 0, 0) 10)]) (hp' := hp) (fun _ => rfl) ?_
      cases h
      exact Ex.ret rfl rfl rfl
def fX9_writeRuler (hp : HP) : Option ((Int32 ⊕ Nat) × HP) := (fX9_requireLoaded hp).bind fun q6 => Sum.elim (fun _ => (fX7_at 0 0 0 hp).bind fun v7 => fX9_writeRuler_21 FU 0 (up hp (9, 0, 0) 10 v7)) (fun E => some (.inr E, hp)) q6
theorem exX9_writeRuler {d : Nat} {hp : HP} {v : ((Int32 ⊕ Nat) × HP)} (h : fX9_writeRuler hp = some v) : Calls (d + 7) 123 [vR (9, 0, 0)] hp (rsT rsI v.1 v.2) := by
  replace h : ((fX9_requireLoaded hp).bind fun q6 => Sum.elim (fun _ => (fX7_at 0 0 0 hp).bind fun v7 => fX9_writeRuler_21 FU 0 (up hp (9, 0, 0) 10 v7)) (fun E => some (.inr E, hp)) q6) = some v := h
  show Ex (d + 7) kX9_writeRuler 0 [some (vR (9, 0, 0)), none] [] hp _
  refine Ex.go 1 (pc' := 1) (ls' := [some (vR (9, 0, 0)), none]) (st' := [vR (9, 0, 0)]) (hp' := hp) (fun _ => rfl) ?_
  obtain ⟨q6, hv, h⟩ := Option.bind_eq_some_iff.mp h
  rcases q6 with _ | E
  · replace h : ((fX7_at 0 0 0 hp).bind fun v7 => fX9_writeRuler_21 FU 0 (up hp (9, 0, 0) 10 v7)) = some v := h
    refine Ex.call (args := [vR (9, 0, 0)]) (rest := []) rfl rfl rfl (exX9_requireLoaded (d := d + 0) hv) ?_
    show Ex (d + 7) kX9_writeRuler 4 [some (vR (9, 0, 0)), none] [] hp _
    refine Ex.go 5 (pc' := 13) (ls' := [some (vR (9, 0, 0)), none]) (st' := [vI 0, vR (7, 0, 0), vR (9, 0, 0)]) (hp' := hp) (fun _ => rfl) ?_
    obtain ⟨v7, hv, h⟩ := Option.bind_eq_some_iff.mp h
    refine Ex.call (args := [vR (7, 0, 0), vI 0]) (rest := [vR (9, 0, 0)]) rfl rfl rfl (exX7_at (d := d + 6) hv) ?_
    show Ex (d + 7) kX9_writeRuler 16 [some (vR (9, 0, 0)), none] [vI v7, vR (9, 0, 0)] hp _
    refine Ex.go 3 (pc' := 21) (ls' := [some (vR (9, 0, 0)), some (vI 0)]) (st' := []) (hp' := (up hp (9, 0, 0) 10 v7)) (fun _ => rfl) ?_
    exact exX9_writeRuler_21 FU _ _ _ h
  · cases h
    exact Ex.callT (args := [vR (9, 0, 0)]) (rest := []) rfl rfl rfl (exX9_requireLoaded (d := d + 0) hv) rfl
def fX9_textByte_17 (x1 : Int32) (y0 : Int32) (hp : HP) : Option (Int32 ⊕ Nat) := (fX9_requireIndex y0 hp).bind fun q2 => Sum.elim (fun _ => (fX7_at 11 0 x1 hp).bind fun v3 => some (.inl v3)) (fun E => some (.inr E)) q2
theorem exX9_textByte_17 {d : Nat} {x1 : Int32} {y0 : Int32} {hp : HP} {v : (Int32 ⊕ Nat)} (h : fX9_textByte_17 x1 y0 hp = some v) : Ex (d + 7) kX9_textByte 17 [some (vR (9, 0, 0)), some (vI x1)] [vI y0] hp (rsT rsI v hp) := by
  replace h : ((fX9_requireIndex y0 hp).bind fun q2 => Sum.elim (fun _ => (fX7_at 11 0 x1 hp).bind fun v3 => some (.inl v3)) (fun E => some (.inr E)) q2) = some v := h
  obtain ⟨q2, hv, h⟩ := Option.bind_eq_some_iff.mp h
  rcases q2 with _ | E
  · replace h : ((fX7_at 11 0 x1 hp).bind fun v3 => some (.inl v3)) = some v := h
    refine Ex.call (args := [vI y0]) (rest := []) rfl rfl rfl (exX9_requireIndex (d := d + 0) hv) ?_
    show Ex (d + 7) kX9_textByte 20 [some (vR (9, 0, 0)), some (vI x1)] [] hp _
    refine Ex.go 3 (pc' := 25) (ls' := [some (vR (9, 0, 0)), some (vI x1)]) (st' := [vI x1, vR (7, 11, 0)]) (hp' := hp) (fun _ => rfl) ?_
    obtain ⟨v3, hv, h⟩ := Option.bind_eq_some_iff.mp h
    refine Ex.call (args := [vR (7, 11, 0), vI x1]) (rest := []) rfl rfl rfl (exX7_at (d := d + 6) hv) ?_
    show Ex (d + 7) kX9_textByte 28 [some (vR (9, 0, 0)), some (vI x1)] [vI v3] hp _
    cases h
    exact Ex.ret rfl rfl rfl
  · cases h
    exact Ex.callT (args := [vI y0]) (rest := []) rfl rfl rfl (exX9_requireIndex (d := d + 0) hv) rfl
def fX9_textByte_16 (x1 : Int32) (hp : HP) : Option (Int32 ⊕ Nat) := fX9_textByte_17 x1 0 hp
theorem exX9_textByte_16 {d : Nat} {x1 : Int32} {hp : HP} {v : (Int32 ⊕ Nat)} (h : fX9_textByte_16 x1 hp = some v) : Ex (d + 7) kX9_textByte 16 [some (vR (9, 0, 0)), some (vI x1)] [] hp (rsT rsI v hp) := by
  replace h : (fX9_textByte_17 x1 0 hp) = some v := h
  refine Ex.go 1 (pc' := 17) (ls' := [some (vR (9, 0, 0)), some (vI x1)]) (st' := [vI 0]) (hp' := hp) (fun _ => rfl) ?_
  exact exX9_textByte_17 h
def fX9_textByte (a0 : Int32) (hp : HP) : Option (Int32 ⊕ Nat) := if a0 < 0 then (fX9_textByte_16 a0 hp) else (if a0 < (hp (9, 0, 0) 10) then (fX9_textByte_17 a0 1 hp) else (fX9_textByte_16 a0 hp))
theorem exX9_textByte {d : Nat} {a0 : Int32} {hp : HP} {v : (Int32 ⊕ Nat)} (h : fX9_textByte a0 hp = some v) : Calls (d + 7) 125 [vR (9, 0, 0), vI a0] hp (rsT rsI v hp) := by
  replace h : (if a0 < 0 then (fX9_textByte_16 a0 hp) else (if a0 < (hp (9, 0, 0) 10) then (fX9_textByte_17 a0 1 hp) else (fX9_textByte_16 a0 hp))) = some v := h
  show Ex (d + 7) kX9_textByte 0 [some (vR (9, 0, 0)), some (vI a0)] [] hp _
  refine Ex.go 1 (pc' := 1) (ls' := [some (vR (9, 0, 0)), some (vI a0)]) (st' := [vI a0]) (hp' := hp) (fun _ => rfl) ?_
  refine Ex.ifc rfl ?_
  by_cases hc : a0 < 0
  · rw [if_pos hc] at h
    rw [brI_lt_p hc]
    show Ex (d + 7) kX9_textByte 16 [some (vR (9, 0, 0)), some (vI a0)] [] hp _
    exact exX9_textByte_16 h
  · rw [if_neg hc] at h
    rw [brI_lt_n hc]
    show Ex (d + 7) kX9_textByte 4 [some (vR (9, 0, 0)), some (vI a0)] [] hp _
    refine Ex.go 3 (pc' := 9) (ls' := [some (vR (9, 0, 0)), some (vI a0)]) (st' := [vI (hp (9, 0, 0) 10), vI a0]) (hp' := hp) (fun _ => rfl) ?_
    refine Ex.icmp rfl ?_
    by_cases hc : a0 < (hp (9, 0, 0) 10)
    · rw [if_pos hc] at h
      rw [brI_ge_p hc]
      show Ex (d + 7) kX9_textByte 12 [some (vR (9, 0, 0)), some (vI a0)] [] hp _
      refine Ex.go 2 (pc' := 17) (ls' := [some (vR (9, 0, 0)), some (vI a0)]) (st' := [vI 1]) (hp' := hp) (fun _ => rfl) ?_
      exact exX9_textByte_17 h
    · rw [if_neg hc] at h
      rw [brI_ge_n hc]
      show Ex (d + 7) kX9_textByte 16 [some (vR (9, 0, 0)), some (vI a0)] [] hp _
      exact exX9_textByte_16 h
def fX9_strike (a0 : Int32) (a1 : Int32) (hp : HP) : Option ((Int32 ⊕ Nat) × HP) := (fX9_requireLoaded hp).bind fun q2 => Sum.elim (fun _ => (fX9_requireBar a0 hp).bind fun q4 => Sum.elim (fun _ => (fX2_keep 0 hp).bind fun hp7 => (fX3_letterKey 0 a0 a1 hp7).bind fun q9 => (fX3_noteKey 0 q9.1 q9.2).bind fun q11 => some ((.inl q11.1), q11.2)) (fun E => some (.inr E, hp)) q4) (fun E => some (.inr E, hp)) q2
theorem exX9_strike {d : Nat} {a0 : Int32} {a1 : Int32} {hp : HP} {v : ((Int32 ⊕ Nat) × HP)} (h : fX9_strike a0 a1 hp = some v) : Calls (d + 8) 126 [vR (9, 0, 0), vI a0, vI a1] hp (rsT rsI v.1 v.2) := by
  replace h : ((fX9_requireLoaded hp).bind fun q2 => Sum.elim (fun _ => (fX9_requireBar a0 hp).bind fun q4 => Sum.elim (fun _ => (fX2_keep 0 hp).bind fun hp7 => (fX3_letterKey 0 a0 a1 hp7).bind fun q9 => (fX3_noteKey 0 q9.1 q9.2).bind fun q11 => some ((.inl q11.1), q11.2)) (fun E => some (.inr E, hp)) q4) (fun E => some (.inr E, hp)) q2) = some v := h
  show Ex (d + 8) kX9_strike 0 [some (vR (9, 0, 0)), some (vI a0), some (vI a1)] [] hp _
  refine Ex.go 1 (pc' := 1) (ls' := [some (vR (9, 0, 0)), some (vI a0), some (vI a1)]) (st' := [vR (9, 0, 0)]) (hp' := hp) (fun _ => rfl) ?_
  obtain ⟨q2, hv, h⟩ := Option.bind_eq_some_iff.mp h
  rcases q2 with _ | E
  · replace h : ((fX9_requireBar a0 hp).bind fun q4 => Sum.elim (fun _ => (fX2_keep 0 hp).bind fun hp7 => (fX3_letterKey 0 a0 a1 hp7).bind fun q9 => (fX3_noteKey 0 q9.1 q9.2).bind fun q11 => some ((.inl q11.1), q11.2)) (fun E => some (.inr E, hp)) q4) = some v := h
    refine Ex.call (args := [vR (9, 0, 0)]) (rest := []) rfl rfl rfl (exX9_requireLoaded (d := d + 1) hv) ?_
    show Ex (d + 8) kX9_strike 4 [some (vR (9, 0, 0)), some (vI a0), some (vI a1)] [] hp _
    refine Ex.go 2 (pc' := 6) (ls' := [some (vR (9, 0, 0)), some (vI a0), some (vI a1)]) (st' := [vI a0, vR (9, 0, 0)]) (hp' := hp) (fun _ => rfl) ?_
    obtain ⟨q4, hv, h⟩ := Option.bind_eq_some_iff.mp h
    rcases q4 with _ | E
    · replace h : ((fX2_keep 0 hp).bind fun hp7 => (fX3_letterKey 0 a0 a1 hp7).bind fun q9 => (fX3_noteKey 0 q9.1 q9.2).bind fun q11 => some ((.inl q11.1), q11.2)) = some v := h
      refine Ex.call (args := [vR (9, 0, 0), vI a0]) (rest := []) rfl rfl rfl (exX9_requireBar (d := d + 0) hv) ?_
      show Ex (d + 8) kX9_strike 9 [some (vR (9, 0, 0)), some (vI a0), some (vI a1)] [] hp _
      refine Ex.go 4 (pc' := 17) (ls' := [some (vR (9, 0, 0)), some (vI a0), some (vI a1)]) (st' := [vR (3, 0, 0), vR (2, 0, 0)]) (hp' := hp) (fun _ => rfl) ?_
      obtain ⟨hp7, hv, h⟩ := Option.bind_eq_some_iff.mp h
      refine Ex.call (args := [vR (2, 0, 0), vR (3, 0, 0)]) (rest := []) rfl rfl rfl (exX2_keep (d := d + 1) hv) ?_
      show Ex (d + 8) kX9_strike 20 [some (vR (9, 0, 0)), some (vI a0), some (vI a1)] [] hp7 _
      refine Ex.go 6 (pc' := 30) (ls' := [some (vR (9, 0, 0)), some (vI a0), some (vI a1)]) (st' := [vI a1, vI a0, vR (3, 0, 0), vR (3, 0, 0)]) (hp' := hp7) (fun _ => rfl) ?_
      obtain ⟨q9, hv, h⟩ := Option.bind_eq_some_iff.mp h
      refine Ex.call (args := [vR (3, 0, 0), vI a0, vI a1]) (rest := [vR (3, 0, 0)]) rfl rfl rfl (exX3_letterKey (d := d + 3) hv) ?_
      show Ex (d + 8) kX9_strike 33 [some (vR (9, 0, 0)), some (vI a0), some (vI a1)] [vI q9.1, vR (3, 0, 0)] q9.2 _
      obtain ⟨q11, hv, h⟩ := Option.bind_eq_some_iff.mp h
      refine Ex.call (args := [vR (3, 0, 0), vI q9.1]) (rest := []) rfl rfl rfl (exX3_noteKey (d := d + 7) hv) ?_
      show Ex (d + 8) kX9_strike 36 [some (vR (9, 0, 0)), some (vI a0), some (vI a1)] [vI q11.1] q11.2 _
      cases h
      exact Ex.ret rfl rfl rfl
    · cases h
      exact Ex.callT (args := [vR (9, 0, 0), vI a0]) (rest := []) rfl rfl rfl (exX9_requireBar (d := d + 0) hv) rfl
  · cases h
    exact Ex.callT (args := [vR (9, 0, 0)]) (rest := []) rfl rfl rfl (exX9_requireLoaded (d := d + 1) hv) rfl
def fX9_press_18 (x1 : Int32) (y0 : Int32) (hp : HP) : Option ((Int32 ⊕ Nat) × HP) := (fX9_requireArgument y0 hp).bind fun q2 => Sum.elim (fun _ => (fX2_keep 0 hp).bind fun hp5 => (fX3_plainKey 0 x1 hp5).bind fun q7 => (fX3_noteKey 0 q7.1 q7.2).bind fun q9 => some ((.inl q9.1), q9.2)) (fun E => some (.inr E, hp)) q2
theorem exX9_press_18 {d : Nat} {x1 : Int32} {y0 : Int32} {hp : HP} {v : ((Int32 ⊕ Nat) × HP)} (h : fX9_press_18 x1 y0 hp = some v) : Ex (d + 7) kX9_press 18 [some (vR (9, 0, 0)), some (vI x1)] [vI y0] hp (rsT rsI v.1 v.2) := by
  replace h : ((fX9_requireArgument y0 hp).bind fun q2 => Sum.elim (fun _ => (fX2_keep 0 hp).bind fun hp5 => (fX3_plainKey 0 x1 hp5).bind fun q7 => (fX3_noteKey 0 q7.1 q7.2).bind fun q9 => some ((.inl q9.1), q9.2)) (fun E => some (.inr E, hp)) q2) = some v := h
  obtain ⟨q2, hv, h⟩ := Option.bind_eq_some_iff.mp h
  rcases q2 with _ | E
  · replace h : ((fX2_keep 0 hp).bind fun hp5 => (fX3_plainKey 0 x1 hp5).bind fun q7 => (fX3_noteKey 0 q7.1 q7.2).bind fun q9 => some ((.inl q9.1), q9.2)) = some v := h
    refine Ex.call (args := [vI y0]) (rest := []) rfl rfl rfl (exX9_requireArgument (d := d + 0) hv) ?_
    show Ex (d + 7) kX9_press 21 [some (vR (9, 0, 0)), some (vI x1)] [] hp _
    refine Ex.go 4 (pc' := 29) (ls' := [some (vR (9, 0, 0)), some (vI x1)]) (st' := [vR (3, 0, 0), vR (2, 0, 0)]) (hp' := hp) (fun _ => rfl) ?_
    obtain ⟨hp5, hv, h⟩ := Option.bind_eq_some_iff.mp h
    refine Ex.call (args := [vR (2, 0, 0), vR (3, 0, 0)]) (rest := []) rfl rfl rfl (exX2_keep (d := d + 0) hv) ?_
    show Ex (d + 7) kX9_press 32 [some (vR (9, 0, 0)), some (vI x1)] [] hp5 _
    refine Ex.go 5 (pc' := 41) (ls' := [some (vR (9, 0, 0)), some (vI x1)]) (st' := [vI x1, vR (3, 0, 0), vR (3, 0, 0)]) (hp' := hp5) (fun _ => rfl) ?_
    obtain ⟨q7, hv, h⟩ := Option.bind_eq_some_iff.mp h
    refine Ex.call (args := [vR (3, 0, 0), vI x1]) (rest := [vR (3, 0, 0)]) rfl rfl rfl (exX3_plainKey (d := d + 2) hv) ?_
    show Ex (d + 7) kX9_press 44 [some (vR (9, 0, 0)), some (vI x1)] [vI q7.1, vR (3, 0, 0)] q7.2 _
    obtain ⟨q9, hv, h⟩ := Option.bind_eq_some_iff.mp h
    refine Ex.call (args := [vR (3, 0, 0), vI q7.1]) (rest := []) rfl rfl rfl (exX3_noteKey (d := d + 6) hv) ?_
    show Ex (d + 7) kX9_press 47 [some (vR (9, 0, 0)), some (vI x1)] [vI q9.1] q9.2 _
    cases h
    exact Ex.ret rfl rfl rfl
  · cases h
    exact Ex.callT (args := [vI y0]) (rest := []) rfl rfl rfl (exX9_requireArgument (d := d + 0) hv) rfl
def fX9_press_17 (x1 : Int32) (hp : HP) : Option ((Int32 ⊕ Nat) × HP) := fX9_press_18 x1 0 hp
theorem exX9_press_17 {d : Nat} {x1 : Int32} {hp : HP} {v : ((Int32 ⊕ Nat) × HP)} (h : fX9_press_17 x1 hp = some v) : Ex (d + 7) kX9_press 17 [some (vR (9, 0, 0)), some (vI x1)] [] hp (rsT rsI v.1 v.2) := by
  replace h : (fX9_press_18 x1 0 hp) = some v := h
  refine Ex.go 1 (pc' := 18) (ls' := [some (vR (9, 0, 0)), some (vI x1)]) (st' := [vI 0]) (hp' := hp) (fun _ => rfl) ?_
  exact exX9_press_18 h
def fX9_press (a0 : Int32) (hp : HP) : Option ((Int32 ⊕ Nat) × HP) := (fX9_requireLoaded hp).bind fun q11 => Sum.elim (fun _ => if a0 < 0 then (fX9_press_17 a0 hp) else (if 5 < a0 then (fX9_press_17 a0 hp) else (fX9_press_18 a0 1 hp))) (fun E => some (.inr E, hp)) q11
theorem exX9_press {d : Nat} {a0 : Int32} {hp : HP} {v : ((Int32 ⊕ Nat) × HP)} (h : fX9_press a0 hp = some v) : Calls (d + 7) 127 [vR (9, 0, 0), vI a0] hp (rsT rsI v.1 v.2) := by
  replace h : ((fX9_requireLoaded hp).bind fun q11 => Sum.elim (fun _ => if a0 < 0 then (fX9_press_17 a0 hp) else (if 5 < a0 then (fX9_press_17 a0 hp) else (fX9_press_18 a0 1 hp))) (fun E => some (.inr E, hp)) q11) = some v := h
  show Ex (d + 7) kX9_press 0 [some (vR (9, 0, 0)), some (vI a0)] [] hp _
  refine Ex.go 1 (pc' := 1) (ls' := [some (vR (9, 0, 0)), some (vI a0)]) (st' := [vR (9, 0, 0)]) (hp' := hp) (fun _ => rfl) ?_
  obtain ⟨q11, hv, h⟩ := Option.bind_eq_some_iff.mp h
  rcases q11 with _ | E
  · replace h : (if a0 < 0 then (fX9_press_17 a0 hp) else (if 5 < a0 then (fX9_press_17 a0 hp) else (fX9_press_18 a0 1 hp))) = some v := h
    refine Ex.call (args := [vR (9, 0, 0)]) (rest := []) rfl rfl rfl (exX9_requireLoaded (d := d + 0) hv) ?_
    show Ex (d + 7) kX9_press 4 [some (vR (9, 0, 0)), some (vI a0)] [] hp _
    refine Ex.go 1 (pc' := 5) (ls' := [some (vR (9, 0, 0)), some (vI a0)]) (st' := [vI a0]) (hp' := hp) (fun _ => rfl) ?_
    refine Ex.ifc rfl ?_
    by_cases hc : a0 < 0
    · rw [if_pos hc] at h
      rw [brI_lt_p hc]
      show Ex (d + 7) kX9_press 17 [some (vR (9, 0, 0)), some (vI a0)] [] hp _
      exact exX9_press_17 h
    · rw [if_neg hc] at h
      rw [brI_lt_n hc]
      show Ex (d + 7) kX9_press 8 [some (vR (9, 0, 0)), some (vI a0)] [] hp _
      refine Ex.go 2 (pc' := 10) (ls' := [some (vR (9, 0, 0)), some (vI a0)]) (st' := [vI 5, vI a0]) (hp' := hp) (fun _ => rfl) ?_
      refine Ex.icmp rfl ?_
      by_cases hc : 5 < a0
      · rw [if_pos hc] at h
        rw [brI_gt_p hc]
        show Ex (d + 7) kX9_press 17 [some (vR (9, 0, 0)), some (vI a0)] [] hp _
        exact exX9_press_17 h
      · rw [if_neg hc] at h
        rw [brI_gt_n hc]
        show Ex (d + 7) kX9_press 13 [some (vR (9, 0, 0)), some (vI a0)] [] hp _
        refine Ex.go 2 (pc' := 18) (ls' := [some (vR (9, 0, 0)), some (vI a0)]) (st' := [vI 1]) (hp' := hp) (fun _ => rfl) ?_
        exact exX9_press_18 h
  · cases h
    exact Ex.callT (args := [vR (9, 0, 0)]) (rest := []) rfl rfl rfl (exX9_requireLoaded (d := d + 0) hv) rfl
def fX9_type (a0 : Int32) (hp : HP) : Option ((Int32 ⊕ Nat) × HP) := (fX9_requireLoaded hp).bind fun q2 => Sum.elim (fun _ => (fX9_requireBytes a0 hp).bind fun q4 => Sum.elim (fun _ => (fX2_keep 0 hp).bind fun hp7 => (fX3_typeText 0 10 0 a0 (up hp7 (9, 0, 0) 1 0)).bind fun q9 => some ((.inl q9.1), q9.2)) (fun E => some (.inr E, hp)) q4) (fun E => some (.inr E, hp)) q2
theorem exX9_type {d : Nat} {a0 : Int32} {hp : HP} {v : ((Int32 ⊕ Nat) × HP)} (h : fX9_type a0 hp = some v) : Calls (d + 8) 128 [vR (9, 0, 0), vI a0] hp (rsT rsI v.1 v.2) := by
  replace h : ((fX9_requireLoaded hp).bind fun q2 => Sum.elim (fun _ => (fX9_requireBytes a0 hp).bind fun q4 => Sum.elim (fun _ => (fX2_keep 0 hp).bind fun hp7 => (fX3_typeText 0 10 0 a0 (up hp7 (9, 0, 0) 1 0)).bind fun q9 => some ((.inl q9.1), q9.2)) (fun E => some (.inr E, hp)) q4) (fun E => some (.inr E, hp)) q2) = some v := h
  show Ex (d + 8) kX9_type 0 [some (vR (9, 0, 0)), some (vI a0)] [] hp _
  refine Ex.go 1 (pc' := 1) (ls' := [some (vR (9, 0, 0)), some (vI a0)]) (st' := [vR (9, 0, 0)]) (hp' := hp) (fun _ => rfl) ?_
  obtain ⟨q2, hv, h⟩ := Option.bind_eq_some_iff.mp h
  rcases q2 with _ | E
  · replace h : ((fX9_requireBytes a0 hp).bind fun q4 => Sum.elim (fun _ => (fX2_keep 0 hp).bind fun hp7 => (fX3_typeText 0 10 0 a0 (up hp7 (9, 0, 0) 1 0)).bind fun q9 => some ((.inl q9.1), q9.2)) (fun E => some (.inr E, hp)) q4) = some v := h
    refine Ex.call (args := [vR (9, 0, 0)]) (rest := []) rfl rfl rfl (exX9_requireLoaded (d := d + 1) hv) ?_
    show Ex (d + 8) kX9_type 4 [some (vR (9, 0, 0)), some (vI a0)] [] hp _
    refine Ex.go 2 (pc' := 6) (ls' := [some (vR (9, 0, 0)), some (vI a0)]) (st' := [vI a0, vR (9, 0, 0)]) (hp' := hp) (fun _ => rfl) ?_
    obtain ⟨q4, hv, h⟩ := Option.bind_eq_some_iff.mp h
    rcases q4 with _ | E
    · replace h : ((fX2_keep 0 hp).bind fun hp7 => (fX3_typeText 0 10 0 a0 (up hp7 (9, 0, 0) 1 0)).bind fun q9 => some ((.inl q9.1), q9.2)) = some v := h
      refine Ex.call (args := [vR (9, 0, 0), vI a0]) (rest := []) rfl rfl rfl (exX9_requireBytes (d := d + 0) hv) ?_
      show Ex (d + 8) kX9_type 9 [some (vR (9, 0, 0)), some (vI a0)] [] hp _
      refine Ex.go 4 (pc' := 17) (ls' := [some (vR (9, 0, 0)), some (vI a0)]) (st' := [vR (3, 0, 0), vR (2, 0, 0)]) (hp' := hp) (fun _ => rfl) ?_
      obtain ⟨hp7, hv, h⟩ := Option.bind_eq_some_iff.mp h
      refine Ex.call (args := [vR (2, 0, 0), vR (3, 0, 0)]) (rest := []) rfl rfl rfl (exX2_keep (d := d + 1) hv) ?_
      show Ex (d + 8) kX9_type 20 [some (vR (9, 0, 0)), some (vI a0)] [] hp7 _
      refine Ex.go 8 (pc' := 34) (ls' := [some (vR (9, 0, 0)), some (vI a0)]) (st' := [vI a0, vR (7, 10, 0), vR (3, 0, 0)]) (hp' := (up hp7 (9, 0, 0) 1 0)) (fun _ => rfl) ?_
      obtain ⟨q9, hv, h⟩ := Option.bind_eq_some_iff.mp h
      refine Ex.call (args := [vR (3, 0, 0), vR (7, 10, 0), vI a0]) (rest := []) rfl rfl rfl (exX3_typeText (d := d + 2) hv) ?_
      show Ex (d + 8) kX9_type 37 [some (vR (9, 0, 0)), some (vI a0)] [vI q9.1] q9.2 _
      cases h
      exact Ex.ret rfl rfl rfl
    · cases h
      exact Ex.callT (args := [vR (9, 0, 0), vI a0]) (rest := []) rfl rfl rfl (exX9_requireBytes (d := d + 0) hv) rfl
  · cases h
    exact Ex.callT (args := [vR (9, 0, 0)]) (rest := []) rfl rfl rfl (exX9_requireLoaded (d := d + 1) hv) rfl
def fX9_setStop_52 (x3 : Int32) (ws0 : Nat) (ms0 : Nat) (y1 : Int32) (y2 : Int32) (hp : HP) : Option ((Int32 ⊕ Nat) × HP) := (fX7_put ws0 ms0 y1 y2 hp).bind fun hp3 => if isB x3 = true then some ((.inl x3), hp3) else none
theorem exX9_setStop_52 {d : Nat} {x3 : Int32} {ws0 : Nat} {ms0 : Nat} {y1 : Int32} {y2 : Int32} {j1 : Option VL} {j2 : Option VL} {hp : HP} {v : ((Int32 ⊕ Nat) × HP)} (h : fX9_setStop_52 x3 ws0 ms0 y1 y2 hp = some v) : Ex (d + 8) kX9_setStop 52 [some (vR (9, 0, 0)), j1, j2, some (vI x3)] [vI y2, vI y1, vR (7, ws0, ms0)] hp (rsT rsI v.1 v.2) := by
  replace h : ((fX7_put ws0 ms0 y1 y2 hp).bind fun hp3 => if isB x3 = true then some ((.inl x3), hp3) else none) = some v := h
  obtain ⟨hp3, hv, h⟩ := Option.bind_eq_some_iff.mp h
  refine Ex.call (args := [vR (7, ws0, ms0), vI y1, vI y2]) (rest := []) rfl rfl rfl (exX7_put (d := d + 7) hv) ?_
  show Ex (d + 8) kX9_setStop 55 [some (vR (9, 0, 0)), j1, j2, some (vI x3)] [] hp3 _
  refine Ex.go 1 (pc' := 56) (ls' := [some (vR (9, 0, 0)), j1, j2, some (vI x3)]) (st' := [vI x3]) (hp' := hp3) (fun _ => rfl) ?_
  by_cases hc : isB x3 = true
  · rw [if_pos hc] at h
    cases h
    exact Ex.retz rfl hc rfl
  · rw [if_neg hc] at h
    cases h
def fX9_setStop (a0 : Int32) (a1 : Int32) (hp : HP) : Option ((Int32 ⊕ Nat) × HP) := (fX9_requireLoaded hp).bind fun q5 => Sum.elim (fun _ => (fX9_requireColumn a0 hp).bind fun q7 => Sum.elim (fun _ => (fX2_keep 0 hp).bind fun hp10 => (fX1_stopsAt 0 a0 hp10).bind fun v11 => if a1 = 0 then (fX9_setStop_52 v11 4 0 a0 0 hp10) else (fX9_setStop_52 v11 4 0 a0 1 hp10)) (fun E => some (.inr E, hp)) q7) (fun E => some (.inr E, hp)) q5
theorem exX9_setStop {d : Nat} {a0 : Int32} {a1 : Int32} {hp : HP} {v : ((Int32 ⊕ Nat) × HP)} (h : fX9_setStop a0 a1 hp = some v) : Calls (d + 8) 129 [vR (9, 0, 0), vI a0, vI a1] hp (rsT rsI v.1 v.2) := by
  replace h : ((fX9_requireLoaded hp).bind fun q5 => Sum.elim (fun _ => (fX9_requireColumn a0 hp).bind fun q7 => Sum.elim (fun _ => (fX2_keep 0 hp).bind fun hp10 => (fX1_stopsAt 0 a0 hp10).bind fun v11 => if a1 = 0 then (fX9_setStop_52 v11 4 0 a0 0 hp10) else (fX9_setStop_52 v11 4 0 a0 1 hp10)) (fun E => some (.inr E, hp)) q7) (fun E => some (.inr E, hp)) q5) = some v := h
  show Ex (d + 8) kX9_setStop 0 [some (vR (9, 0, 0)), some (vI a0), some (vI a1), none] [] hp _
  refine Ex.go 1 (pc' := 1) (ls' := [some (vR (9, 0, 0)), some (vI a0), some (vI a1), none]) (st' := [vR (9, 0, 0)]) (hp' := hp) (fun _ => rfl) ?_
  obtain ⟨q5, hv, h⟩ := Option.bind_eq_some_iff.mp h
  rcases q5 with _ | E
  · replace h : ((fX9_requireColumn a0 hp).bind fun q7 => Sum.elim (fun _ => (fX2_keep 0 hp).bind fun hp10 => (fX1_stopsAt 0 a0 hp10).bind fun v11 => if a1 = 0 then (fX9_setStop_52 v11 4 0 a0 0 hp10) else (fX9_setStop_52 v11 4 0 a0 1 hp10)) (fun E => some (.inr E, hp)) q7) = some v := h
    refine Ex.call (args := [vR (9, 0, 0)]) (rest := []) rfl rfl rfl (exX9_requireLoaded (d := d + 1) hv) ?_
    show Ex (d + 8) kX9_setStop 4 [some (vR (9, 0, 0)), some (vI a0), some (vI a1), none] [] hp _
    refine Ex.go 2 (pc' := 6) (ls' := [some (vR (9, 0, 0)), some (vI a0), some (vI a1), none]) (st' := [vI a0, vR (9, 0, 0)]) (hp' := hp) (fun _ => rfl) ?_
    obtain ⟨q7, hv, h⟩ := Option.bind_eq_some_iff.mp h
    rcases q7 with _ | E
    · replace h : ((fX2_keep 0 hp).bind fun hp10 => (fX1_stopsAt 0 a0 hp10).bind fun v11 => if a1 = 0 then (fX9_setStop_52 v11 4 0 a0 0 hp10) else (fX9_setStop_52 v11 4 0 a0 1 hp10)) = some v := h
      refine Ex.call (args := [vR (9, 0, 0), vI a0]) (rest := []) rfl rfl rfl (exX9_requireColumn (d := d + 0) hv) ?_
      show Ex (d + 8) kX9_setStop 9 [some (vR (9, 0, 0)), some (vI a0), some (vI a1), none] [] hp _
      refine Ex.go 4 (pc' := 17) (ls' := [some (vR (9, 0, 0)), some (vI a0), some (vI a1), none]) (st' := [vR (3, 0, 0), vR (2, 0, 0)]) (hp' := hp) (fun _ => rfl) ?_
      obtain ⟨hp10, hv, h⟩ := Option.bind_eq_some_iff.mp h
      refine Ex.call (args := [vR (2, 0, 0), vR (3, 0, 0)]) (rest := []) rfl rfl rfl (exX2_keep (d := d + 1) hv) ?_
      show Ex (d + 8) kX9_setStop 20 [some (vR (9, 0, 0)), some (vI a0), some (vI a1), none] [] hp10 _
      refine Ex.go 4 (pc' := 28) (ls' := [some (vR (9, 0, 0)), some (vI a0), some (vI a1), none]) (st' := [vI a0, vR (1, 0, 0)]) (hp' := hp10) (fun _ => rfl) ?_
      obtain ⟨v11, hv, h⟩ := Option.bind_eq_some_iff.mp h
      refine Ex.call (args := [vR (1, 0, 0), vI a0]) (rest := []) rfl rfl rfl (exX1_stopsAt (d := d + 6) hv) ?_
      show Ex (d + 8) kX9_setStop 31 [some (vR (9, 0, 0)), some (vI a0), some (vI a1), none] [vI v11] hp10 _
      refine Ex.go 7 (pc' := 44) (ls' := [some (vR (9, 0, 0)), some (vI a0), some (vI a1), some (vI v11)]) (st' := [vI a1, vI a0, vR (7, 4, 0)]) (hp' := hp10) (fun _ => rfl) ?_
      refine Ex.ifc rfl ?_
      by_cases hc : a1 = 0
      · rw [if_pos hc] at h
        rw [brI_eq_p hc]
        show Ex (d + 8) kX9_setStop 51 [some (vR (9, 0, 0)), some (vI a0), some (vI a1), some (vI v11)] [vI a0, vR (7, 4, 0)] hp10 _
        refine Ex.go 1 (pc' := 52) (ls' := [some (vR (9, 0, 0)), some (vI a0), some (vI a1), some (vI v11)]) (st' := [vI 0, vI a0, vR (7, 4, 0)]) (hp' := hp10) (fun _ => rfl) ?_
        exact exX9_setStop_52 h
      · rw [if_neg hc] at h
        rw [brI_eq_n hc]
        show Ex (d + 8) kX9_setStop 47 [some (vR (9, 0, 0)), some (vI a0), some (vI a1), some (vI v11)] [vI a0, vR (7, 4, 0)] hp10 _
        refine Ex.go 2 (pc' := 52) (ls' := [some (vR (9, 0, 0)), some (vI a0), some (vI a1), some (vI v11)]) (st' := [vI 1, vI a0, vR (7, 4, 0)]) (hp' := hp10) (fun _ => rfl) ?_
        exact exX9_setStop_52 h
    · cases h
      exact Ex.callT (args := [vR (9, 0, 0), vI a0]) (rest := []) rfl rfl rfl (exX9_requireColumn (d := d + 0) hv) rfl
  · cases h
    exact Ex.callT (args := [vR (9, 0, 0)]) (rest := []) rfl rfl rfl (exX9_requireLoaded (d := d + 1) hv) rfl
def fX9_replaceSetting (a0 : Int32) (a1 : Int32) (hp : HP) : Option (Int32 × HP) := (fX7_at 0 0 a0 hp).bind fun v1 => (fX7_put 0 0 a0 a1 hp).bind fun hp4 => some (v1, hp4)
theorem exX9_replaceSetting {d : Nat} {a0 : Int32} {a1 : Int32} {hp : HP} {v : (Int32 × HP)} (h : fX9_replaceSetting a0 a1 hp = some v) : Calls (d + 1) 132 [vR (9, 0, 0), vI a0, vI a1] hp (rsI v.1 v.2) := by
  replace h : ((fX7_at 0 0 a0 hp).bind fun v1 => (fX7_put 0 0 a0 a1 hp).bind fun hp4 => some (v1, hp4)) = some v := h
  show Ex (d + 1) kX9_replaceSetting 0 [some (vR (9, 0, 0)), some (vI a0), some (vI a1), none] [] hp _
  refine Ex.go 4 (pc' := 8) (ls' := [some (vR (9, 0, 0)), some (vI a0), some (vI a1), none]) (st' := [vI a0, vR (7, 0, 0)]) (hp' := hp) (fun _ => rfl) ?_
  obtain ⟨v1, hv, h⟩ := Option.bind_eq_some_iff.mp h
  refine Ex.call (args := [vR (7, 0, 0), vI a0]) (rest := []) rfl rfl rfl (exX7_at (d := d + 0) hv) ?_
  show Ex (d + 1) kX9_replaceSetting 11 [some (vR (9, 0, 0)), some (vI a0), some (vI a1), none] [vI v1] hp _
  refine Ex.go 6 (pc' := 21) (ls' := [some (vR (9, 0, 0)), some (vI a0), some (vI a1), some (vI v1)]) (st' := [vI a1, vI a0, vR (7, 0, 0)]) (hp' := hp) (fun _ => rfl) ?_
  obtain ⟨hp4, hv, h⟩ := Option.bind_eq_some_iff.mp h
  refine Ex.call (args := [vR (7, 0, 0), vI a0, vI a1]) (rest := []) rfl rfl rfl (exX7_put (d := d + 0) hv) ?_
  show Ex (d + 1) kX9_replaceSetting 24 [some (vR (9, 0, 0)), some (vI a0), some (vI a1), some (vI v1)] [] hp4 _
  refine Ex.go 1 (pc' := 25) (ls' := [some (vR (9, 0, 0)), some (vI a0), some (vI a1), some (vI v1)]) (st' := [vI v1]) (hp' := hp4) (fun _ => rfl) ?_
  cases h
  exact Ex.ret rfl rfl rfl
def fX9_setMargin_119 (x2 : Int32) (y1 : Int32) (hp : HP) : Option ((Int32 ⊕ Nat) × HP) := (fX9_replaceSetting y1 x2 hp).bind fun q2 => some ((.inl q2.1), q2.2)
theorem exX9_setMargin_119 {d : Nat} {x2 : Int32} {y1 : Int32} {j1 : Option VL} {j3 : Option VL} {j4 : Option VL} {j5 : Option VL} {hp : HP} {v : ((Int32 ⊕ Nat) × HP)} (h : fX9_setMargin_119 x2 y1 hp = some v) : Ex (d + 7) kX9_setMargin 119 [some (vR (9, 0, 0)), j1, some (vI x2), j3, j4, j5] [vI y1, vR (9, 0, 0)] hp (rsT rsI v.1 v.2) := by
  replace h : ((fX9_replaceSetting y1 x2 hp).bind fun q2 => some ((.inl q2.1), q2.2)) = some v := h
  refine Ex.go 1 (pc' := 120) (ls' := [some (vR (9, 0, 0)), j1, some (vI x2), j3, j4, j5]) (st' := [vI x2, vI y1, vR (9, 0, 0)]) (hp' := hp) (fun _ => rfl) ?_
  obtain ⟨q2, hv, h⟩ := Option.bind_eq_some_iff.mp h
  refine Ex.call (args := [vR (9, 0, 0), vI y1, vI x2]) (rest := []) rfl rfl rfl (exX9_replaceSetting (d := d + 5) hv) ?_
  show Ex (d + 7) kX9_setMargin 123 [some (vR (9, 0, 0)), j1, some (vI x2), j3, j4, j5] [vI q2.1] q2.2 _
  cases h
  exact Ex.ret rfl rfl rfl
def fX9_setMargin_95 (x1 : Int32) (x2 : Int32) (y0 : Int32) (hp : HP) : Option ((Int32 ⊕ Nat) × HP) := (fX9_requireArgument y0 hp).bind fun q4 => Sum.elim (fun _ => (fX2_keep 0 hp).bind fun hp7 => if x1 = 0 then (fX9_setMargin_119 x2 2 hp7) else (fX9_setMargin_119 x2 3 hp7)) (fun E => some (.inr E, hp)) q4
theorem exX9_setMargin_95 {d : Nat} {x1 : Int32} {x2 : Int32} {y0 : Int32} {j3 : Option VL} {j4 : Option VL} {j5 : Option VL} {hp : HP} {v : ((Int32 ⊕ Nat) × HP)} (h : fX9_setMargin_95 x1 x2 y0 hp = some v) : Ex (d + 7) kX9_setMargin 95 [some (vR (9, 0, 0)), some (vI x1), some (vI x2), j3, j4, j5] [vI y0] hp (rsT rsI v.1 v.2) := by
  replace h : ((fX9_requireArgument y0 hp).bind fun q4 => Sum.elim (fun _ => (fX2_keep 0 hp).bind fun hp7 => if x1 = 0 then (fX9_setMargin_119 x2 2 hp7) else (fX9_setMargin_119 x2 3 hp7)) (fun E => some (.inr E, hp)) q4) = some v := h
  obtain ⟨q4, hv, h⟩ := Option.bind_eq_some_iff.mp h
  rcases q4 with _ | E
  · replace h : ((fX2_keep 0 hp).bind fun hp7 => if x1 = 0 then (fX9_setMargin_119 x2 2 hp7) else (fX9_setMargin_119 x2 3 hp7)) = some v := h
    refine Ex.call (args := [vI y0]) (rest := []) rfl rfl rfl (exX9_requireArgument (d := d + 0) hv) ?_
    show Ex (d + 7) kX9_setMargin 98 [some (vR (9, 0, 0)), some (vI x1), some (vI x2), j3, j4, j5] [] hp _
    refine Ex.go 4 (pc' := 106) (ls' := [some (vR (9, 0, 0)), some (vI x1), some (vI x2), j3, j4, j5]) (st' := [vR (3, 0, 0), vR (2, 0, 0)]) (hp' := hp) (fun _ => rfl) ?_
    obtain ⟨hp7, hv, h⟩ := Option.bind_eq_some_iff.mp h
    refine Ex.call (args := [vR (2, 0, 0), vR (3, 0, 0)]) (rest := []) rfl rfl rfl (exX2_keep (d := d + 0) hv) ?_
    show Ex (d + 7) kX9_setMargin 109 [some (vR (9, 0, 0)), some (vI x1), some (vI x2), j3, j4, j5] [] hp7 _
    refine Ex.go 2 (pc' := 111) (ls' := [some (vR (9, 0, 0)), some (vI x1), some (vI x2), j3, j4, j5]) (st' := [vI x1, vR (9, 0, 0)]) (hp' := hp7) (fun _ => rfl) ?_
    refine Ex.ifc rfl ?_
    by_cases hc : x1 = 0
    · rw [if_pos hc] at h
      rw [brI_eq_p hc]
      show Ex (d + 7) kX9_setMargin 118 [some (vR (9, 0, 0)), some (vI x1), some (vI x2), j3, j4, j5] [vR (9, 0, 0)] hp7 _
      refine Ex.go 1 (pc' := 119) (ls' := [some (vR (9, 0, 0)), some (vI x1), some (vI x2), j3, j4, j5]) (st' := [vI 2, vR (9, 0, 0)]) (hp' := hp7) (fun _ => rfl) ?_
      exact exX9_setMargin_119 h
    · rw [if_neg hc] at h
      rw [brI_eq_n hc]
      show Ex (d + 7) kX9_setMargin 114 [some (vR (9, 0, 0)), some (vI x1), some (vI x2), j3, j4, j5] [vR (9, 0, 0)] hp7 _
      refine Ex.go 2 (pc' := 119) (ls' := [some (vR (9, 0, 0)), some (vI x1), some (vI x2), j3, j4, j5]) (st' := [vI 3, vR (9, 0, 0)]) (hp' := hp7) (fun _ => rfl) ?_
      exact exX9_setMargin_119 h
  · cases h
    exact Ex.callT (args := [vI y0]) (rest := []) rfl rfl rfl (exX9_requireArgument (d := d + 0) hv) rfl
def fX9_setMargin_94 (x1 : Int32) (x2 : Int32) (hp : HP) : Option ((Int32 ⊕ Nat) × HP) := fX9_setMargin_95 x1 x2 0 hp
theorem exX9_setMargin_94 {d : Nat} {x1 : Int32} {x2 : Int32} {j3 : Option VL} {j4 : Option VL} {j5 : Option VL} {hp : HP} {v : ((Int32 ⊕ Nat) × HP)} (h : fX9_setMargin_94 x1 x2 hp = some v) : Ex (d + 7) kX9_setMargin 94 [some (vR (9, 0, 0)), some (vI x1), some (vI x2), j3, j4, j5] [] hp (rsT rsI v.1 v.2) := by
  replace h : (fX9_setMargin_95 x1 x2 0 hp) = some v := h
  refine Ex.go 1 (pc' := 95) (ls' := [some (vR (9, 0, 0)), some (vI x1), some (vI x2), j3, j4, j5]) (st' := [vI 0]) (hp' := hp) (fun _ => rfl) ?_
  exact exX9_setMargin_95 h
def fX9_setMargin_76 (x1 : Int32) (x2 : Int32) (x4 : Int32) (y0 : Int32) (hp : HP) : Option ((Int32 ⊕ Nat) × HP) := if x2 < x4 then (fX9_setMargin_94 x1 x2 hp) else (if y0 < x2 then (fX9_setMargin_94 x1 x2 hp) else (fX9_setMargin_95 x1 x2 1 hp))
theorem exX9_setMargin_76 {d : Nat} {x1 : Int32} {x2 : Int32} {x4 : Int32} {y0 : Int32} {j3 : Option VL} {j5 : Option VL} {hp : HP} {v : ((Int32 ⊕ Nat) × HP)} (h : fX9_setMargin_76 x1 x2 x4 y0 hp = some v) : Ex (d + 7) kX9_setMargin 76 [some (vR (9, 0, 0)), some (vI x1), some (vI x2), j3, some (vI x4), j5] [vI y0] hp (rsT rsI v.1 v.2) := by
  replace h : (if x2 < x4 then (fX9_setMargin_94 x1 x2 hp) else (if y0 < x2 then (fX9_setMargin_94 x1 x2 hp) else (fX9_setMargin_95 x1 x2 1 hp))) = some v := h
  refine Ex.go 3 (pc' := 81) (ls' := [some (vR (9, 0, 0)), some (vI x1), some (vI x2), j3, some (vI x4), some (vI y0)]) (st' := [vI x4, vI x2]) (hp' := hp) (fun _ => rfl) ?_
  refine Ex.icmp rfl ?_
  by_cases hc : x2 < x4
  · rw [if_pos hc] at h
    rw [brI_lt_p hc]
    show Ex (d + 7) kX9_setMargin 94 [some (vR (9, 0, 0)), some (vI x1), some (vI x2), j3, some (vI x4), some (vI y0)] [] hp _
    exact exX9_setMargin_94 h
  · rw [if_neg hc] at h
    rw [brI_lt_n hc]
    show Ex (d + 7) kX9_setMargin 84 [some (vR (9, 0, 0)), some (vI x1), some (vI x2), j3, some (vI x4), some (vI y0)] [] hp _
    refine Ex.go 2 (pc' := 87) (ls' := [some (vR (9, 0, 0)), some (vI x1), some (vI x2), j3, some (vI x4), some (vI y0)]) (st' := [vI y0, vI x2]) (hp' := hp) (fun _ => rfl) ?_
    refine Ex.icmp rfl ?_
    by_cases hc : y0 < x2
    · rw [if_pos hc] at h
      rw [brI_gt_p hc]
      show Ex (d + 7) kX9_setMargin 94 [some (vR (9, 0, 0)), some (vI x1), some (vI x2), j3, some (vI x4), some (vI y0)] [] hp _
      exact exX9_setMargin_94 h
    · rw [if_neg hc] at h
      rw [brI_gt_n hc]
      show Ex (d + 7) kX9_setMargin 90 [some (vR (9, 0, 0)), some (vI x1), some (vI x2), j3, some (vI x4), some (vI y0)] [] hp _
      refine Ex.go 2 (pc' := 95) (ls' := [some (vR (9, 0, 0)), some (vI x1), some (vI x2), j3, some (vI x4), some (vI y0)]) (st' := [vI 1]) (hp' := hp) (fun _ => rfl) ?_
      exact exX9_setMargin_95 h
def fX9_setMargin_41 (x1 : Int32) (x2 : Int32) (x3 : Int32) (y0 : Int32) (hp : HP) : Option ((Int32 ⊕ Nat) × HP) := if x1 = 0 then ((fX7_at 0 0 3 hp).bind fun v8 => fX9_setMargin_76 x1 x2 y0 (v8 - x3) hp) else ((fX7_at 0 0 0 hp).bind fun v9 => fX9_setMargin_76 x1 x2 y0 (v9 - 1) hp)
theorem exX9_setMargin_41 {d : Nat} {x1 : Int32} {x2 : Int32} {x3 : Int32} {y0 : Int32} {j4 : Option VL} {j5 : Option VL} {hp : HP} {v : ((Int32 ⊕ Nat) × HP)} (h : fX9_setMargin_41 x1 x2 x3 y0 hp = some v) : Ex (d + 7) kX9_setMargin 41 [some (vR (9, 0, 0)), some (vI x1), some (vI x2), some (vI x3), j4, j5] [vI y0] hp (rsT rsI v.1 v.2) := by
  replace h : (if x1 = 0 then ((fX7_at 0 0 3 hp).bind fun v8 => fX9_setMargin_76 x1 x2 y0 (v8 - x3) hp) else ((fX7_at 0 0 0 hp).bind fun v9 => fX9_setMargin_76 x1 x2 y0 (v9 - 1) hp)) = some v := h
  refine Ex.go 2 (pc' := 44) (ls' := [some (vR (9, 0, 0)), some (vI x1), some (vI x2), some (vI x3), some (vI y0), j5]) (st' := [vI x1]) (hp' := hp) (fun _ => rfl) ?_
  refine Ex.ifc rfl ?_
  by_cases hc : x1 = 0
  · rw [if_pos hc] at h
    rw [brI_eq_p hc]
    show Ex (d + 7) kX9_setMargin 63 [some (vR (9, 0, 0)), some (vI x1), some (vI x2), some (vI x3), some (vI y0), j5] [] hp _
    refine Ex.go 4 (pc' := 71) (ls' := [some (vR (9, 0, 0)), some (vI x1), some (vI x2), some (vI x3), some (vI y0), j5]) (st' := [vI 3, vR (7, 0, 0)]) (hp' := hp) (fun _ => rfl) ?_
    obtain ⟨v8, hv, h⟩ := Option.bind_eq_some_iff.mp h
    refine Ex.call (args := [vR (7, 0, 0), vI 3]) (rest := []) rfl rfl rfl (exX7_at (d := d + 6) hv) ?_
    show Ex (d + 7) kX9_setMargin 74 [some (vR (9, 0, 0)), some (vI x1), some (vI x2), some (vI x3), some (vI y0), j5] [vI v8] hp _
    refine Ex.go 2 (pc' := 76) (ls' := [some (vR (9, 0, 0)), some (vI x1), some (vI x2), some (vI x3), some (vI y0), j5]) (st' := [vI (v8 - x3)]) (hp' := hp) (fun _ => rfl) ?_
    exact exX9_setMargin_76 h
  · rw [if_neg hc] at h
    rw [brI_eq_n hc]
    show Ex (d + 7) kX9_setMargin 47 [some (vR (9, 0, 0)), some (vI x1), some (vI x2), some (vI x3), some (vI y0), j5] [] hp _
    refine Ex.go 4 (pc' := 55) (ls' := [some (vR (9, 0, 0)), some (vI x1), some (vI x2), some (vI x3), some (vI y0), j5]) (st' := [vI 0, vR (7, 0, 0)]) (hp' := hp) (fun _ => rfl) ?_
    obtain ⟨v9, hv, h⟩ := Option.bind_eq_some_iff.mp h
    refine Ex.call (args := [vR (7, 0, 0), vI 0]) (rest := []) rfl rfl rfl (exX7_at (d := d + 6) hv) ?_
    show Ex (d + 7) kX9_setMargin 58 [some (vR (9, 0, 0)), some (vI x1), some (vI x2), some (vI x3), some (vI y0), j5] [vI v9] hp _
    refine Ex.go 3 (pc' := 76) (ls' := [some (vR (9, 0, 0)), some (vI x1), some (vI x2), some (vI x3), some (vI y0), j5]) (st' := [vI (v9 - 1)]) (hp' := hp) (fun _ => rfl) ?_
    exact exX9_setMargin_76 h
def fX9_setMargin (a0 : Int32) (a1 : Int32) (hp : HP) : Option ((Int32 ⊕ Nat) × HP) := (fX9_requireLoaded hp).bind fun q11 => Sum.elim (fun _ => (fX7_at 0 0 4 hp).bind fun v12 => if a0 = 0 then (fX9_setMargin_41 a0 a1 (imax 1 v12) 0 hp) else ((fX7_at 0 0 2 hp).bind fun v13 => fX9_setMargin_41 a0 a1 (imax 1 v12) (v13 + (imax 1 v12)) hp)) (fun E => some (.inr E, hp)) q11
theorem exX9_setMargin {d : Nat} {a0 : Int32} {a1 : Int32} {hp : HP} {v : ((Int32 ⊕ Nat) × HP)} (h : fX9_setMargin a0 a1 hp = some v) : Calls (d + 7) 130 [vR (9, 0, 0), vI a0, vI a1] hp (rsT rsI v.1 v.2) := by
  replace h : ((fX9_requireLoaded hp).bind fun q11 => Sum.elim (fun _ => (fX7_at 0 0 4 hp).bind fun v12 => if a0 = 0 then (fX9_setMargin_41 a0 a1 (imax 1 v12) 0 hp) else ((fX7_at 0 0 2 hp).bind fun v13 => fX9_setMargin_41 a0 a1 (imax 1 v12) (v13 + (imax 1 v12)) hp)) (fun E => some (.inr E, hp)) q11) = some v := h
  show Ex (d + 7) kX9_setMargin 0 [some (vR (9, 0, 0)), some (vI a0), some (vI a1), none, none, none] [] hp _
  refine Ex.go 1 (pc' := 1) (ls' := [some (vR (9, 0, 0)), some (vI a0), some (vI a1), none, none, none]) (st' := [vR (9, 0, 0)]) (hp' := hp) (fun _ => rfl) ?_
  obtain ⟨q11, hv, h⟩ := Option.bind_eq_some_iff.mp h
  rcases q11 with _ | E
  · replace h : ((fX7_at 0 0 4 hp).bind fun v12 => if a0 = 0 then (fX9_setMargin_41 a0 a1 (imax 1 v12) 0 hp) else ((fX7_at 0 0 2 hp).bind fun v13 => fX9_setMargin_41 a0 a1 (imax 1 v12) (v13 + (imax 1 v12)) hp)) = some v := h
    refine Ex.call (args := [vR (9, 0, 0)]) (rest := []) rfl rfl rfl (exX9_requireLoaded (d := d + 0) hv) ?_
    show Ex (d + 7) kX9_setMargin 4 [some (vR (9, 0, 0)), some (vI a0), some (vI a1), none, none, none] [] hp _
    refine Ex.go 5 (pc' := 13) (ls' := [some (vR (9, 0, 0)), some (vI a0), some (vI a1), none, none, none]) (st' := [vI 4, vR (7, 0, 0), vI 1]) (hp' := hp) (fun _ => rfl) ?_
    obtain ⟨v12, hv, h⟩ := Option.bind_eq_some_iff.mp h
    refine Ex.call (args := [vR (7, 0, 0), vI 4]) (rest := [vI 1]) rfl rfl rfl (exX7_at (d := d + 6) hv) ?_
    show Ex (d + 7) kX9_setMargin 16 [some (vR (9, 0, 0)), some (vI a0), some (vI a1), none, none, none] [vI v12, vI 1] hp _
    refine Ex.go 3 (pc' := 21) (ls' := [some (vR (9, 0, 0)), some (vI a0), some (vI a1), some (vI (imax 1 v12)), none, none]) (st' := [vI a0]) (hp' := hp) (fun _ => rfl) ?_
    refine Ex.ifc rfl ?_
    by_cases hc : a0 = 0
    · rw [if_pos hc] at h
      rw [brI_eq_p hc]
      show Ex (d + 7) kX9_setMargin 40 [some (vR (9, 0, 0)), some (vI a0), some (vI a1), some (vI (imax 1 v12)), none, none] [] hp _
      refine Ex.go 1 (pc' := 41) (ls' := [some (vR (9, 0, 0)), some (vI a0), some (vI a1), some (vI (imax 1 v12)), none, none]) (st' := [vI 0]) (hp' := hp) (fun _ => rfl) ?_
      exact exX9_setMargin_41 h
    · rw [if_neg hc] at h
      rw [brI_eq_n hc]
      show Ex (d + 7) kX9_setMargin 24 [some (vR (9, 0, 0)), some (vI a0), some (vI a1), some (vI (imax 1 v12)), none, none] [] hp _
      refine Ex.go 4 (pc' := 32) (ls' := [some (vR (9, 0, 0)), some (vI a0), some (vI a1), some (vI (imax 1 v12)), none, none]) (st' := [vI 2, vR (7, 0, 0)]) (hp' := hp) (fun _ => rfl) ?_
      obtain ⟨v13, hv, h⟩ := Option.bind_eq_some_iff.mp h
      refine Ex.call (args := [vR (7, 0, 0), vI 2]) (rest := []) rfl rfl rfl (exX7_at (d := d + 6) hv) ?_
      show Ex (d + 7) kX9_setMargin 35 [some (vR (9, 0, 0)), some (vI a0), some (vI a1), some (vI (imax 1 v12)), none, none] [vI v13] hp _
      refine Ex.go 3 (pc' := 41) (ls' := [some (vR (9, 0, 0)), some (vI a0), some (vI a1), some (vI (imax 1 v12)), none, none]) (st' := [vI (v13 + (imax 1 v12))]) (hp' := hp) (fun _ => rfl) ?_
      exact exX9_setMargin_41 h
  · cases h
    exact Ex.callT (args := [vR (9, 0, 0)]) (rest := []) rfl rfl rfl (exX9_requireLoaded (d := d + 0) hv) rfl
def fX9_isSettable_11 (x0 : Int32) (hp : HP) : Option Int32 := if x0 = 11 then (some 1) else (if x0 = 12 then (some 1) else (some 0))
theorem exX9_isSettable_11 {d : Nat} {x0 : Int32} {hp : HP} {v : Int32} (h : fX9_isSettable_11 x0 hp = some v) : Ex (d + 0) kX9_isSettable 11 [some (vI x0)] [] hp (rsI v hp) := by
  replace h : (if x0 = 11 then (some 1) else (if x0 = 12 then (some 1) else (some 0))) = some v := h
  refine Ex.go 2 (pc' := 14) (ls' := [some (vI x0)]) (st' := [vI 11, vI x0]) (hp' := hp) (fun _ => rfl) ?_
  refine Ex.icmp rfl ?_
  by_cases hc : x0 = 11
  · rw [if_pos hc] at h
    rw [brI_eq_p hc]
    show Ex (d + 0) kX9_isSettable 23 [some (vI x0)] [] hp _
    refine Ex.go 2 (pc' := 28) (ls' := [some (vI x0)]) (st' := [vI 1]) (hp' := hp) (fun _ => rfl) ?_
    cases h
    exact Ex.ret rfl rfl rfl
  · rw [if_neg hc] at h
    rw [brI_eq_n hc]
    show Ex (d + 0) kX9_isSettable 17 [some (vI x0)] [] hp _
    refine Ex.go 2 (pc' := 20) (ls' := [some (vI x0)]) (st' := [vI 12, vI x0]) (hp' := hp) (fun _ => rfl) ?_
    refine Ex.icmp rfl ?_
    by_cases hc : x0 = 12
    · rw [if_pos hc] at h
      rw [brI_ne_p hc]
      show Ex (d + 0) kX9_isSettable 23 [some (vI x0)] [] hp _
      refine Ex.go 2 (pc' := 28) (ls' := [some (vI x0)]) (st' := [vI 1]) (hp' := hp) (fun _ => rfl) ?_
      cases h
      exact Ex.ret rfl rfl rfl
    · rw [if_neg hc] at h
      rw [brI_ne_n hc]
      show Ex (d + 0) kX9_isSettable 27 [some (vI x0)] [] hp _
      refine Ex.go 1 (pc' := 28) (ls' := [some (vI x0)]) (st' := [vI 0]) (hp' := hp) (fun _ => rfl) ?_
      cases h
      exact Ex.ret rfl rfl rfl
def fX9_isSettable (a0 : Int32) (hp : HP) : Option Int32 := if a0 < 4 then (fX9_isSettable_11 a0 hp) else (if 8 < a0 then (fX9_isSettable_11 a0 hp) else (some 1))
theorem exX9_isSettable {d : Nat} {a0 : Int32} {hp : HP} {v : Int32} (h : fX9_isSettable a0 hp = some v) : Calls (d + 0) 150 [vI a0] hp (rsI v hp) := by
  replace h : (if a0 < 4 then (fX9_isSettable_11 a0 hp) else (if 8 < a0 then (fX9_isSettable_11 a0 hp) else (some 1))) = some v := h
  show Ex (d + 0) kX9_isSettable 0 [some (vI a0)] [] hp _
  refine Ex.go 2 (pc' := 2) (ls' := [some (vI a0)]) (st' := [vI 4, vI a0]) (hp' := hp) (fun _ => rfl) ?_
  refine Ex.icmp rfl ?_
  by_cases hc : a0 < 4
  · rw [if_pos hc] at h
    rw [brI_lt_p hc]
    show Ex (d + 0) kX9_isSettable 11 [some (vI a0)] [] hp _
    exact exX9_isSettable_11 h
  · rw [if_neg hc] at h
    rw [brI_lt_n hc]
    show Ex (d + 0) kX9_isSettable 5 [some (vI a0)] [] hp _
    refine Ex.go 2 (pc' := 8) (ls' := [some (vI a0)]) (st' := [vI 8, vI a0]) (hp' := hp) (fun _ => rfl) ?_
    refine Ex.icmp rfl ?_
    by_cases hc : 8 < a0
    · rw [if_pos hc] at h
      rw [brI_le_p hc]
      show Ex (d + 0) kX9_isSettable 11 [some (vI a0)] [] hp _
      exact exX9_isSettable_11 h
    · rw [if_neg hc] at h
      rw [brI_le_n hc]
      show Ex (d + 0) kX9_isSettable 23 [some (vI a0)] [] hp _
      refine Ex.go 2 (pc' := 28) (ls' := [some (vI a0)]) (st' := [vI 1]) (hp' := hp) (fun _ => rfl) ?_
      cases h
      exact Ex.ret rfl rfl rfl
def fX9_set_46 (x1 : Int32) (x2 : Int32) (y0 : Int32) (hp : HP) : Option ((Int32 ⊕ Nat) × HP) := (fX9_requireArgument y0 hp).bind fun q2 => Sum.elim (fun _ => (fX2_keep 0 hp).bind fun hp5 => (fX9_replaceSetting x1 x2 hp5).bind fun q7 => some ((.inl q7.1), q7.2)) (fun E => some (.inr E, hp)) q2
theorem exX9_set_46 {d : Nat} {x1 : Int32} {x2 : Int32} {y0 : Int32} {hp : HP} {v : ((Int32 ⊕ Nat) × HP)} (h : fX9_set_46 x1 x2 y0 hp = some v) : Ex (d + 7) kX9_set 46 [some (vR (9, 0, 0)), some (vI x1), some (vI x2)] [vI y0] hp (rsT rsI v.1 v.2) := by
  replace h : ((fX9_requireArgument y0 hp).bind fun q2 => Sum.elim (fun _ => (fX2_keep 0 hp).bind fun hp5 => (fX9_replaceSetting x1 x2 hp5).bind fun q7 => some ((.inl q7.1), q7.2)) (fun E => some (.inr E, hp)) q2) = some v := h
  obtain ⟨q2, hv, h⟩ := Option.bind_eq_some_iff.mp h
  rcases q2 with _ | E
  · replace h : ((fX2_keep 0 hp).bind fun hp5 => (fX9_replaceSetting x1 x2 hp5).bind fun q7 => some ((.inl q7.1), q7.2)) = some v := h
    refine Ex.call (args := [vI y0]) (rest := []) rfl rfl rfl (exX9_requireArgument (d := d + 0) hv) ?_
    show Ex (d + 7) kX9_set 49 [some (vR (9, 0, 0)), some (vI x1), some (vI x2)] [] hp _
    refine Ex.go 4 (pc' := 57) (ls' := [some (vR (9, 0, 0)), some (vI x1), some (vI x2)]) (st' := [vR (3, 0, 0), vR (2, 0, 0)]) (hp' := hp) (fun _ => rfl) ?_
    obtain ⟨hp5, hv, h⟩ := Option.bind_eq_some_iff.mp h
    refine Ex.call (args := [vR (2, 0, 0), vR (3, 0, 0)]) (rest := []) rfl rfl rfl (exX2_keep (d := d + 0) hv) ?_
    show Ex (d + 7) kX9_set 60 [some (vR (9, 0, 0)), some (vI x1), some (vI x2)] [] hp5 _
    refine Ex.go 3 (pc' := 63) (ls' := [some (vR (9, 0, 0)), some (vI x1), some (vI x2)]) (st' := [vI x2, vI x1, vR (9, 0, 0)]) (hp' := hp5) (fun _ => rfl) ?_
    obtain ⟨q7, hv, h⟩ := Option.bind_eq_some_iff.mp h
    refine Ex.call (args := [vR (9, 0, 0), vI x1, vI x2]) (rest := []) rfl rfl rfl (exX9_replaceSetting (d := d + 5) hv) ?_
    show Ex (d + 7) kX9_set 66 [some (vR (9, 0, 0)), some (vI x1), some (vI x2)] [vI q7.1] q7.2 _
    cases h
    exact Ex.ret rfl rfl rfl
  · cases h
    exact Ex.callT (args := [vI y0]) (rest := []) rfl rfl rfl (exX9_requireArgument (d := d + 0) hv) rfl
def fX9_set_45 (x1 : Int32) (x2 : Int32) (hp : HP) : Option ((Int32 ⊕ Nat) × HP) := fX9_set_46 x1 x2 0 hp
theorem exX9_set_45 {d : Nat} {x1 : Int32} {x2 : Int32} {hp : HP} {v : ((Int32 ⊕ Nat) × HP)} (h : fX9_set_45 x1 x2 hp = some v) : Ex (d + 7) kX9_set 45 [some (vR (9, 0, 0)), some (vI x1), some (vI x2)] [] hp (rsT rsI v.1 v.2) := by
  replace h : (fX9_set_46 x1 x2 0 hp) = some v := h
  refine Ex.go 1 (pc' := 46) (ls' := [some (vR (9, 0, 0)), some (vI x1), some (vI x2)]) (st' := [vI 0]) (hp' := hp) (fun _ => rfl) ?_
  exact exX9_set_46 h
def fX9_set (a0 : Int32) (a1 : Int32) (hp : HP) : Option ((Int32 ⊕ Nat) × HP) := (fX9_requireLoaded hp).bind fun q9 => Sum.elim (fun _ => (fX9_isSettable a0 hp).bind fun v10 => (fX9_requireArgument v10 hp).bind fun q12 => Sum.elim (fun _ => (fX9_lowest 0 0 a0 hp).bind fun v13 => if a1 < v13 then (fX9_set_45 a0 a1 hp) else ((fX9_highest 0 0 a0 hp).bind fun v14 => if v14 < a1 then (fX9_set_45 a0 a1 hp) else (fX9_set_46 a0 a1 1 hp))) (fun E => some (.inr E, hp)) q12) (fun E => some (.inr E, hp)) q9
theorem exX9_set {d : Nat} {a0 : Int32} {a1 : Int32} {hp : HP} {v : ((Int32 ⊕ Nat) × HP)} (h : fX9_set a0 a1 hp = some v) : Calls (d + 7) 131 [vR (9, 0, 0), vI a0, vI a1] hp (rsT rsI v.1 v.2) := by
  replace h : ((fX9_requireLoaded hp).bind fun q9 => Sum.elim (fun _ => (fX9_isSettable a0 hp).bind fun v10 => (fX9_requireArgument v10 hp).bind fun q12 => Sum.elim (fun _ => (fX9_lowest 0 0 a0 hp).bind fun v13 => if a1 < v13 then (fX9_set_45 a0 a1 hp) else ((fX9_highest 0 0 a0 hp).bind fun v14 => if v14 < a1 then (fX9_set_45 a0 a1 hp) else (fX9_set_46 a0 a1 1 hp))) (fun E => some (.inr E, hp)) q12) (fun E => some (.inr E, hp)) q9) = some v := h
  show Ex (d + 7) kX9_set 0 [some (vR (9, 0, 0)), some (vI a0), some (vI a1)] [] hp _
  refine Ex.go 1 (pc' := 1) (ls' := [some (vR (9, 0, 0)), some (vI a0), some (vI a1)]) (st' := [vR (9, 0, 0)]) (hp' := hp) (fun _ => rfl) ?_
  obtain ⟨q9, hv, h⟩ := Option.bind_eq_some_iff.mp h
  rcases q9 with _ | E
  · replace h : ((fX9_isSettable a0 hp).bind fun v10 => (fX9_requireArgument v10 hp).bind fun q12 => Sum.elim (fun _ => (fX9_lowest 0 0 a0 hp).bind fun v13 => if a1 < v13 then (fX9_set_45 a0 a1 hp) else ((fX9_highest 0 0 a0 hp).bind fun v14 => if v14 < a1 then (fX9_set_45 a0 a1 hp) else (fX9_set_46 a0 a1 1 hp))) (fun E => some (.inr E, hp)) q12) = some v := h
    refine Ex.call (args := [vR (9, 0, 0)]) (rest := []) rfl rfl rfl (exX9_requireLoaded (d := d + 0) hv) ?_
    show Ex (d + 7) kX9_set 4 [some (vR (9, 0, 0)), some (vI a0), some (vI a1)] [] hp _
    refine Ex.go 1 (pc' := 5) (ls' := [some (vR (9, 0, 0)), some (vI a0), some (vI a1)]) (st' := [vI a0]) (hp' := hp) (fun _ => rfl) ?_
    obtain ⟨v10, hv, h⟩ := Option.bind_eq_some_iff.mp h
    refine Ex.call (args := [vI a0]) (rest := []) rfl rfl rfl (exX9_isSettable (d := d + 6) hv) ?_
    show Ex (d + 7) kX9_set 8 [some (vR (9, 0, 0)), some (vI a0), some (vI a1)] [vI v10] hp _
    obtain ⟨q12, hv, h⟩ := Option.bind_eq_some_iff.mp h
    rcases q12 with _ | E
    · replace h : ((fX9_lowest 0 0 a0 hp).bind fun v13 => if a1 < v13 then (fX9_set_45 a0 a1 hp) else ((fX9_highest 0 0 a0 hp).bind fun v14 => if v14 < a1 then (fX9_set_45 a0 a1 hp) else (fX9_set_46 a0 a1 1 hp))) = some v := h
      refine Ex.call (args := [vI v10]) (rest := []) rfl rfl rfl (exX9_requireArgument (d := d + 0) hv) ?_
      show Ex (d + 7) kX9_set 11 [some (vR (9, 0, 0)), some (vI a0), some (vI a1)] [] hp _
      refine Ex.go 5 (pc' := 20) (ls' := [some (vR (9, 0, 0)), some (vI a0), some (vI a1)]) (st' := [vI a0, vR (7, 0, 0), vI a1]) (hp' := hp) (fun _ => rfl) ?_
      obtain ⟨v13, hv, h⟩ := Option.bind_eq_some_iff.mp h
      refine Ex.call (args := [vR (7, 0, 0), vI a0]) (rest := [vI a1]) rfl rfl rfl (exX9_lowest (d := d + 5) hv) ?_
      show Ex (d + 7) kX9_set 23 [some (vR (9, 0, 0)), some (vI a0), some (vI a1)] [vI v13, vI a1] hp _
      refine Ex.icmp rfl ?_
      by_cases hc : a1 < v13
      · rw [if_pos hc] at h
        rw [brI_lt_p hc]
        show Ex (d + 7) kX9_set 45 [some (vR (9, 0, 0)), some (vI a0), some (vI a1)] [] hp _
        exact exX9_set_45 h
      · rw [if_neg hc] at h
        rw [brI_lt_n hc]
        show Ex (d + 7) kX9_set 26 [some (vR (9, 0, 0)), some (vI a0), some (vI a1)] [] hp _
        refine Ex.go 5 (pc' := 35) (ls' := [some (vR (9, 0, 0)), some (vI a0), some (vI a1)]) (st' := [vI a0, vR (7, 0, 0), vI a1]) (hp' := hp) (fun _ => rfl) ?_
        obtain ⟨v14, hv, h⟩ := Option.bind_eq_some_iff.mp h
        refine Ex.call (args := [vR (7, 0, 0), vI a0]) (rest := [vI a1]) rfl rfl rfl (exX9_highest (d := d + 5) hv) ?_
        show Ex (d + 7) kX9_set 38 [some (vR (9, 0, 0)), some (vI a0), some (vI a1)] [vI v14, vI a1] hp _
        refine Ex.icmp rfl ?_
        by_cases hc : v14 < a1
        · rw [if_pos hc] at h
          rw [brI_gt_p hc]
          show Ex (d + 7) kX9_set 45 [some (vR (9, 0, 0)), some (vI a0), some (vI a1)] [] hp _
          exact exX9_set_45 h
        · rw [if_neg hc] at h
          rw [brI_gt_n hc]
          show Ex (d + 7) kX9_set 41 [some (vR (9, 0, 0)), some (vI a0), some (vI a1)] [] hp _
          refine Ex.go 2 (pc' := 46) (ls' := [some (vR (9, 0, 0)), some (vI a0), some (vI a1)]) (st' := [vI 1]) (hp' := hp) (fun _ => rfl) ?_
          exact exX9_set_46 h
    · cases h
      exact Ex.callT (args := [vI v10]) (rest := []) rfl rfl rfl (exX9_requireArgument (d := d + 0) hv) rfl
  · cases h
    exact Ex.callT (args := [vR (9, 0, 0)]) (rest := []) rfl rfl rfl (exX9_requireLoaded (d := d + 0) hv) rfl
end
