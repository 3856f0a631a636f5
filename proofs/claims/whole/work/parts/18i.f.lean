noncomputable section
def fX10_writeLine_47 (x1 : Int32) (x2 : Int32) (y1 : Int32) (k17 : Int32 → Int32 → HP → Option (Int32 × HP)) (hp : HP) : Option (Int32 × HP) := (fX10_says y1 hp).bind fun hp3 => k17 x1 (x2 + 1) hp3
theorem exX10_writeLine_47 {d : Nat} {x1 : Int32} {x2 : Int32} {y1 : Int32} {hp : HP} {v : (Int32 × HP)} {k17 : Int32 → Int32 → HP → Option (Int32 × HP)} (hk17 : ∀ (x1 : Int32) (x2 : Int32) (hp : HP) (v : (Int32 × HP)), k17 x1 x2 hp = some v → Ex (d + 3) kX10_writeLine 17 [some (vR (10, 0, 0)), some (vI x1), some (vI x2)] [] hp (rsI v.1 v.2)) (h : fX10_writeLine_47 x1 x2 y1 k17 hp = some v) : Ex (d + 3) kX10_writeLine 47 [some (vR (10, 0, 0)), some (vI x1), some (vI x2)] [vI y1, vR (10, 0, 0)] hp (rsI v.1 v.2) := by
  replace h : ((fX10_says y1 hp).bind fun hp3 => k17 x1 (x2 + 1) hp3) = some v := h
  obtain ⟨hp3, hv, h⟩ := Option.bind_eq_some_iff.mp h
  refine Ex.call (args := [vR (10, 0, 0), vI y1]) (rest := []) rfl rfl rfl (exX10_says (d := d + 2) hv) ?_
  show Ex (d + 3) kX10_writeLine 50 [some (vR (10, 0, 0)), some (vI x1), some (vI x2)] [] hp3 _
  refine Ex.go 2 (pc' := 17) (ls' := [some (vR (10, 0, 0)), some (vI x1), some (vI (x2 + 1))]) (st' := []) (hp' := hp3) (fun _ => rfl) ?_
  exact hk17 _ _ _ _ h
def fX10_writeLine_17 (n : Nat) (x1 : Int32) (x2 : Int32) (hp : HP) : Option (Int32 × HP) := match n with
  | 0 => none
  | n + 1 => (fX10_longOf x1 hp).bind fun v4 => if x2 < v4 then ((fX10_signAt x1 x2 hp).bind fun v5 => if v5 = 0 then (fX10_writeLine_47 x1 x2 32 (fun x1 x2 hq => fX10_writeLine_17 n x1 x2 hq) hp) else ((fX10_signAt x1 x2 hp).bind fun v6 => fX10_writeLine_47 x1 x2 v6 (fun x1 x2 hq => fX10_writeLine_17 n x1 x2 hq) hp)) else (some ((hp (10, 0, 0) 30), hp))
theorem exX10_writeLine_17 {d : Nat} : ∀ (n : Nat) (x1 : Int32) (x2 : Int32) (hp : HP) (v : (Int32 × HP)), fX10_writeLine_17 n x1 x2 hp = some v → Ex (d + 3) kX10_writeLine 17 [some (vR (10, 0, 0)), some (vI x1), some (vI x2)] [] hp (rsI v.1 v.2) := by
  intro n
  induction n with
  | zero =>
    intro x1 x2 hp v h
    cases h
  | succ n ih =>
    intro x1 x2 hp v h
    replace h : ((fX10_longOf x1 hp).bind fun v4 => if x2 < v4 then ((fX10_signAt x1 x2 hp).bind fun v5 => if v5 = 0 then (fX10_writeLine_47 x1 x2 32 (fun x1 x2 hq => fX10_writeLine_17 n x1 x2 hq) hp) else ((fX10_signAt x1 x2 hp).bind fun v6 => fX10_writeLine_47 x1 x2 v6 (fun x1 x2 hq => fX10_writeLine_17 n x1 x2 hq) hp)) else (some ((hp (10, 0, 0) 30), hp))) = some v := h
    refine Ex.go 3 (pc' := 20) (ls' := [some (vR (10, 0, 0)), some (vI x1), some (vI x2)]) (st' := [vI x1, vR (10, 0, 0), vI x2]) (hp' := hp) (fun _ => rfl) ?_
    obtain ⟨v4, hv, h⟩ := Option.bind_eq_some_iff.mp h
    refine Ex.call (args := [vR (10, 0, 0), vI x1]) (rest := [vI x2]) rfl rfl rfl (exX10_longOf (d := d + 1) hv) ?_
    show Ex (d + 3) kX10_writeLine 23 [some (vR (10, 0, 0)), some (vI x1), some (vI x2)] [vI v4, vI x2] hp _
    refine Ex.icmp rfl ?_
    by_cases hc : x2 < v4
    · rw [if_pos hc] at h
      rw [brI_ge_p hc]
      show Ex (d + 3) kX10_writeLine 26 [some (vR (10, 0, 0)), some (vI x1), some (vI x2)] [] hp _
      refine Ex.go 4 (pc' := 30) (ls' := [some (vR (10, 0, 0)), some (vI x1), some (vI x2)]) (st' := [vI x2, vI x1, vR (10, 0, 0), vR (10, 0, 0)]) (hp' := hp) (fun _ => rfl) ?_
      obtain ⟨v5, hv, h⟩ := Option.bind_eq_some_iff.mp h
      refine Ex.call (args := [vR (10, 0, 0), vI x1, vI x2]) (rest := [vR (10, 0, 0)]) rfl rfl rfl (exX10_signAt (d := d + 2) hv) ?_
      show Ex (d + 3) kX10_writeLine 33 [some (vR (10, 0, 0)), some (vI x1), some (vI x2)] [vI v5, vR (10, 0, 0)] hp _
      refine Ex.ifc rfl ?_
      by_cases hc : v5 = 0
      · rw [if_pos hc] at h
        rw [brI_ne_p hc]
        show Ex (d + 3) kX10_writeLine 36 [some (vR (10, 0, 0)), some (vI x1), some (vI x2)] [vR (10, 0, 0)] hp _
        refine Ex.go 2 (pc' := 47) (ls' := [some (vR (10, 0, 0)), some (vI x1), some (vI x2)]) (st' := [vI 32, vR (10, 0, 0)]) (hp' := hp) (fun _ => rfl) ?_
        exact exX10_writeLine_47 (fun q0 q1 q2 q3 hv => ih q0 q1 q2 q3 hv) h
      · rw [if_neg hc] at h
        rw [brI_ne_n hc]
        show Ex (d + 3) kX10_writeLine 41 [some (vR (10, 0, 0)), some (vI x1), some (vI x2)] [vR (10, 0, 0)] hp _
        refine Ex.go 3 (pc' := 44) (ls' := [some (vR (10, 0, 0)), some (vI x1), some (vI x2)]) (st' := [vI x2, vI x1, vR (10, 0, 0), vR (10, 0, 0)]) (hp' := hp) (fun _ => rfl) ?_
        obtain ⟨v6, hv, h⟩ := Option.bind_eq_some_iff.mp h
        refine Ex.call (args := [vR (10, 0, 0), vI x1, vI x2]) (rest := [vR (10, 0, 0)]) rfl rfl rfl (exX10_signAt (d := d + 2) hv) ?_
        show Ex (d + 3) kX10_writeLine 47 [some (vR (10, 0, 0)), some (vI x1), some (vI x2)] [vI v6, vR (10, 0, 0)] hp _
        exact exX10_writeLine_47 (fun q0 q1 q2 q3 hv => ih q0 q1 q2 q3 hv) h
    · rw [if_neg hc] at h
      rw [brI_ge_n hc]
      show Ex (d + 3) kX10_writeLine 56 [some (vR (10, 0, 0)), some (vI x1), some (vI x2)] [] hp _
      refine Ex.go 2 (pc' := 60) (ls' := [some (vR (10, 0, 0)), some (vI x1), some (vI x2)]) (st' := [vI (hp (10, 0, 0) 30)]) (hp' := hp) (fun _ => rfl) ?_
      cases h
      exact Ex.ret rfl rfl rfl
def fX10_writeLine (a0 : Int32) (hp : HP) : Option (Int32 × HP) := (fX10_noLine a0 hp).bind fun q8 => if q8.1 = 0 then (fX10_writeLine_17 FU a0 0 (up q8.2 (10, 0, 0) 30 0)) else (some (0, q8.2))
theorem exX10_writeLine {d : Nat} {a0 : Int32} {hp : HP} {v : (Int32 × HP)} (h : fX10_writeLine a0 hp = some v) : Calls (d + 3) 267 [vR (10, 0, 0), vI a0] hp (rsI v.1 v.2) := by
  replace h : ((fX10_noLine a0 hp).bind fun q8 => if q8.1 = 0 then (fX10_writeLine_17 FU a0 0 (up q8.2 (10, 0, 0) 30 0)) else (some (0, q8.2))) = some v := h
  show Ex (d + 3) kX10_writeLine 0 [some (vR (10, 0, 0)), some (vI a0), none] [] hp _
  refine Ex.go 2 (pc' := 2) (ls' := [some (vR (10, 0, 0)), some (vI a0), none]) (st' := [vI a0, vR (10, 0, 0)]) (hp' := hp) (fun _ => rfl) ?_
  obtain ⟨q8, hv, h⟩ := Option.bind_eq_some_iff.mp h
  refine Ex.call (args := [vR (10, 0, 0), vI a0]) (rest := []) rfl rfl rfl (exX10_noLine (d := d + 0) hv) ?_
  show Ex (d + 3) kX10_writeLine 5 [some (vR (10, 0, 0)), some (vI a0), none] [vI q8.1] q8.2 _
  refine Ex.ifc rfl ?_
  by_cases hc : q8.1 = 0
  · rw [if_pos hc] at h
    rw [brI_eq_p hc]
    show Ex (d + 3) kX10_writeLine 10 [some (vR (10, 0, 0)), some (vI a0), none] [] q8.2 _
    refine Ex.go 5 (pc' := 17) (ls' := [some (vR (10, 0, 0)), some (vI a0), some (vI 0)]) (st' := []) (hp' := (up q8.2 (10, 0, 0) 30 0)) (fun _ => rfl) ?_
    exact exX10_writeLine_17 FU _ _ _ _ h
  · rw [if_neg hc] at h
    rw [brI_eq_n hc]
    show Ex (d + 3) kX10_writeLine 8 [some (vR (10, 0, 0)), some (vI a0), none] [] q8.2 _
    refine Ex.go 1 (pc' := 9) (ls' := [some (vR (10, 0, 0)), some (vI a0), none]) (st' := [vI 0]) (hp' := q8.2) (fun _ => rfl) ?_
    cases h
    exact Ex.ret rfl rfl rfl
def fX10_writeShades_50 (x1 : Int32) (x2 : Int32) (y1 : Int32) (k17 : Int32 → Int32 → HP → Option (Int32 × HP)) (hp : HP) : Option (Int32 × HP) := (fX10_says y1 hp).bind fun hp3 => k17 x1 (x2 + 1) hp3
theorem exX10_writeShades_50 {d : Nat} {x1 : Int32} {x2 : Int32} {y1 : Int32} {hp : HP} {v : (Int32 × HP)} {k17 : Int32 → Int32 → HP → Option (Int32 × HP)} (hk17 : ∀ (x1 : Int32) (x2 : Int32) (hp : HP) (v : (Int32 × HP)), k17 x1 x2 hp = some v → Ex (d + 3) kX10_writeShades 17 [some (vR (10, 0, 0)), some (vI x1), some (vI x2)] [] hp (rsI v.1 v.2)) (h : fX10_writeShades_50 x1 x2 y1 k17 hp = some v) : Ex (d + 3) kX10_writeShades 50 [some (vR (10, 0, 0)), some (vI x1), some (vI x2)] [vI y1, vR (10, 0, 0)] hp (rsI v.1 v.2) := by
  replace h : ((fX10_says y1 hp).bind fun hp3 => k17 x1 (x2 + 1) hp3) = some v := h
  obtain ⟨hp3, hv, h⟩ := Option.bind_eq_some_iff.mp h
  refine Ex.call (args := [vR (10, 0, 0), vI y1]) (rest := []) rfl rfl rfl (exX10_says (d := d + 2) hv) ?_
  show Ex (d + 3) kX10_writeShades 53 [some (vR (10, 0, 0)), some (vI x1), some (vI x2)] [] hp3 _
  refine Ex.go 2 (pc' := 17) (ls' := [some (vR (10, 0, 0)), some (vI x1), some (vI (x2 + 1))]) (st' := []) (hp' := hp3) (fun _ => rfl) ?_
  exact hk17 _ _ _ _ h
def fX10_writeShades_17 (n : Nat) (x1 : Int32) (x2 : Int32) (hp : HP) : Option (Int32 × HP) := match n with
  | 0 => none
  | n + 1 => (fX10_longOf x1 hp).bind fun v4 => if x2 < v4 then ((fX10_signAt x1 x2 hp).bind fun v5 => if v5 = 0 then (fX10_writeShades_50 x1 x2 32 (fun x1 x2 hq => fX10_writeShades_17 n x1 x2 hq) hp) else ((fX10_darkAt x1 x2 hp).bind fun v6 => fX10_writeShades_50 x1 x2 (48 + v6) (fun x1 x2 hq => fX10_writeShades_17 n x1 x2 hq) hp)) else (some ((hp (10, 0, 0) 30), hp))
theorem exX10_writeShades_17 {d : Nat} : ∀ (n : Nat) (x1 : Int32) (x2 : Int32) (hp : HP) (v : (Int32 × HP)), fX10_writeShades_17 n x1 x2 hp = some v → Ex (d + 3) kX10_writeShades 17 [some (vR (10, 0, 0)), some (vI x1), some (vI x2)] [] hp (rsI v.1 v.2) := by
  intro n
  induction n with
  | zero =>
    intro x1 x2 hp v h
    cases h
  | succ n ih =>
    intro x1 x2 hp v h
    replace h : ((fX10_longOf x1 hp).bind fun v4 => if x2 < v4 then ((fX10_signAt x1 x2 hp).bind fun v5 => if v5 = 0 then (fX10_writeShades_50 x1 x2 32 (fun x1 x2 hq => fX10_writeShades_17 n x1 x2 hq) hp) else ((fX10_darkAt x1 x2 hp).bind fun v6 => fX10_writeShades_50 x1 x2 (48 + v6) (fun x1 x2 hq => fX10_writeShades_17 n x1 x2 hq) hp)) else (some ((hp (10, 0, 0) 30), hp))) = some v := h
    refine Ex.go 3 (pc' := 20) (ls' := [some (vR (10, 0, 0)), some (vI x1), some (vI x2)]) (st' := [vI x1, vR (10, 0, 0), vI x2]) (hp' := hp) (fun _ => rfl) ?_
    obtain ⟨v4, hv, h⟩ := Option.bind_eq_some_iff.mp h
    refine Ex.call (args := [vR (10, 0, 0), vI x1]) (rest := [vI x2]) rfl rfl rfl (exX10_longOf (d := d + 1) hv) ?_
    show Ex (d + 3) kX10_writeShades 23 [some (vR (10, 0, 0)), some (vI x1), some (vI x2)] [vI v4, vI x2] hp _
    refine Ex.icmp rfl ?_
    by_cases hc : x2 < v4
    · rw [if_pos hc] at h
      rw [brI_ge_p hc]
      show Ex (d + 3) kX10_writeShades 26 [some (vR (10, 0, 0)), some (vI x1), some (vI x2)] [] hp _
      refine Ex.go 4 (pc' := 30) (ls' := [some (vR (10, 0, 0)), some (vI x1), some (vI x2)]) (st' := [vI x2, vI x1, vR (10, 0, 0), vR (10, 0, 0)]) (hp' := hp) (fun _ => rfl) ?_
      obtain ⟨v5, hv, h⟩ := Option.bind_eq_some_iff.mp h
      refine Ex.call (args := [vR (10, 0, 0), vI x1, vI x2]) (rest := [vR (10, 0, 0)]) rfl rfl rfl (exX10_signAt (d := d + 2) hv) ?_
      show Ex (d + 3) kX10_writeShades 33 [some (vR (10, 0, 0)), some (vI x1), some (vI x2)] [vI v5, vR (10, 0, 0)] hp _
      refine Ex.ifc rfl ?_
      by_cases hc : v5 = 0
      · rw [if_pos hc] at h
        rw [brI_ne_p hc]
        show Ex (d + 3) kX10_writeShades 36 [some (vR (10, 0, 0)), some (vI x1), some (vI x2)] [vR (10, 0, 0)] hp _
        refine Ex.go 2 (pc' := 50) (ls' := [some (vR (10, 0, 0)), some (vI x1), some (vI x2)]) (st' := [vI 32, vR (10, 0, 0)]) (hp' := hp) (fun _ => rfl) ?_
        exact exX10_writeShades_50 (fun q0 q1 q2 q3 hv => ih q0 q1 q2 q3 hv) h
      · rw [if_neg hc] at h
        rw [brI_ne_n hc]
        show Ex (d + 3) kX10_writeShades 41 [some (vR (10, 0, 0)), some (vI x1), some (vI x2)] [vR (10, 0, 0)] hp _
        refine Ex.go 4 (pc' := 46) (ls' := [some (vR (10, 0, 0)), some (vI x1), some (vI x2)]) (st' := [vI x2, vI x1, vR (10, 0, 0), vI 48, vR (10, 0, 0)]) (hp' := hp) (fun _ => rfl) ?_
        obtain ⟨v6, hv, h⟩ := Option.bind_eq_some_iff.mp h
        refine Ex.call (args := [vR (10, 0, 0), vI x1, vI x2]) (rest := [vI 48, vR (10, 0, 0)]) rfl rfl rfl (exX10_darkAt (d := d + 2) hv) ?_
        show Ex (d + 3) kX10_writeShades 49 [some (vR (10, 0, 0)), some (vI x1), some (vI x2)] [vI v6, vI 48, vR (10, 0, 0)] hp _
        refine Ex.go 1 (pc' := 50) (ls' := [some (vR (10, 0, 0)), some (vI x1), some (vI x2)]) (st' := [vI (48 + v6), vR (10, 0, 0)]) (hp' := hp) (fun _ => rfl) ?_
        exact exX10_writeShades_50 (fun q0 q1 q2 q3 hv => ih q0 q1 q2 q3 hv) h
    · rw [if_neg hc] at h
      rw [brI_ge_n hc]
      show Ex (d + 3) kX10_writeShades 59 [some (vR (10, 0, 0)), some (vI x1), some (vI x2)] [] hp _
      refine Ex.go 2 (pc' := 63) (ls' := [some (vR (10, 0, 0)), some (vI x1), some (vI x2)]) (st' := [vI (hp (10, 0, 0) 30)]) (hp' := hp) (fun _ => rfl) ?_
      cases h
      exact Ex.ret rfl rfl rfl
def fX10_writeShades (a0 : Int32) (hp : HP) : Option (Int32 × HP) := (fX10_noLine a0 hp).bind fun q8 => if q8.1 = 0 then (fX10_writeShades_17 FU a0 0 (up q8.2 (10, 0, 0) 30 0)) else (some (0, q8.2))
theorem exX10_writeShades {d : Nat} {a0 : Int32} {hp : HP} {v : (Int32 × HP)} (h : fX10_writeShades a0 hp = some v) : Calls (d + 3) 268 [vR (10, 0, 0), vI a0] hp (rsI v.1 v.2) := by
  replace h : ((fX10_noLine a0 hp).bind fun q8 => if q8.1 = 0 then (fX10_writeShades_17 FU a0 0 (up q8.2 (10, 0, 0) 30 0)) else (some (0, q8.2))) = some v := h
  show Ex (d + 3) kX10_writeShades 0 [some (vR (10, 0, 0)), some (vI a0), none] [] hp _
  refine Ex.go 2 (pc' := 2) (ls' := [some (vR (10, 0, 0)), some (vI a0), none]) (st' := [vI a0, vR (10, 0, 0)]) (hp' := hp) (fun _ => rfl) ?_
  obtain ⟨q8, hv, h⟩ := Option.bind_eq_some_iff.mp h
  refine Ex.call (args := [vR (10, 0, 0), vI a0]) (rest := []) rfl rfl rfl (exX10_noLine (d := d + 0) hv) ?_
  show Ex (d + 3) kX10_writeShades 5 [some (vR (10, 0, 0)), some (vI a0), none] [vI q8.1] q8.2 _
  refine Ex.ifc rfl ?_
  by_cases hc : q8.1 = 0
  · rw [if_pos hc] at h
    rw [brI_eq_p hc]
    show Ex (d + 3) kX10_writeShades 10 [some (vR (10, 0, 0)), some (vI a0), none] [] q8.2 _
    refine Ex.go 5 (pc' := 17) (ls' := [some (vR (10, 0, 0)), some (vI a0), some (vI 0)]) (st' := []) (hp' := (up q8.2 (10, 0, 0) 30 0)) (fun _ => rfl) ?_
    exact exX10_writeShades_17 FU _ _ _ _ h
  · rw [if_neg hc] at h
    rw [brI_eq_n hc]
    show Ex (d + 3) kX10_writeShades 8 [some (vR (10, 0, 0)), some (vI a0), none] [] q8.2 _
    refine Ex.go 1 (pc' := 9) (ls' := [some (vR (10, 0, 0)), some (vI a0), none]) (st' := [vI 0]) (hp' := q8.2) (fun _ => rfl) ?_
    cases h
    exact Ex.ret rfl rfl rfl
def fX10_rulerSign (a0 : Int32) (hp : HP) : Option Int32 := if a0 = (hp (11, 22, 0) 1) then (some 86) else ((fX10_its 2 hp).bind fun v1 => if a0 = v1 then (some 76) else ((fX10_its 3 hp).bind fun v2 => if a0 = v2 then (some 82) else (if inb (90 + a0) (alen (11, 22, 0)) = true then (if (hp (11, 22, 0) (90 + a0).toNatClampNeg) = 1 then (some 84) else (some 46)) else none)))
theorem exX10_rulerSign {d : Nat} {a0 : Int32} {hp : HP} {v : Int32} (h : fX10_rulerSign a0 hp = some v) : Calls (d + 1) 269 [vR (10, 0, 0), vI a0] hp (rsI v hp) := by
  replace h : (if a0 = (hp (11, 22, 0) 1) then (some 86) else ((fX10_its 2 hp).bind fun v1 => if a0 = v1 then (some 76) else ((fX10_its 3 hp).bind fun v2 => if a0 = v2 then (some 82) else (if inb (90 + a0) (alen (11, 22, 0)) = true then (if (hp (11, 22, 0) (90 + a0).toNatClampNeg) = 1 then (some 84) else (some 46)) else none)))) = some v := h
  show Ex (d + 1) kX10_rulerSign 0 [some (vR (10, 0, 0)), some (vI a0)] [] hp _
  refine Ex.go 4 (pc' := 6) (ls' := [some (vR (10, 0, 0)), some (vI a0)]) (st' := [vI 1, vR (11, 22, 0), vI a0]) (hp' := hp) (fun _ => rfl) ?_
  refine Ex.iald (k := 1) rfl rfl (by decide) (by decide) ?_
  show Ex (d + 1) kX10_rulerSign 7 [some (vR (10, 0, 0)), some (vI a0)] [vI (hp (11, 22, 0) 1), vI a0] hp _
  refine Ex.icmp rfl ?_
  by_cases hc : a0 = (hp (11, 22, 0) 1)
  · rw [if_pos hc] at h
    rw [brI_ne_p hc]
    show Ex (d + 1) kX10_rulerSign 10 [some (vR (10, 0, 0)), some (vI a0)] [] hp _
    refine Ex.go 1 (pc' := 12) (ls' := [some (vR (10, 0, 0)), some (vI a0)]) (st' := [vI 86]) (hp' := hp) (fun _ => rfl) ?_
    cases h
    exact Ex.ret rfl rfl rfl
  · rw [if_neg hc] at h
    rw [brI_ne_n hc]
    show Ex (d + 1) kX10_rulerSign 13 [some (vR (10, 0, 0)), some (vI a0)] [] hp _
    refine Ex.go 3 (pc' := 16) (ls' := [some (vR (10, 0, 0)), some (vI a0)]) (st' := [vI 2, vR (10, 0, 0), vI a0]) (hp' := hp) (fun _ => rfl) ?_
    obtain ⟨v1, hv, h⟩ := Option.bind_eq_some_iff.mp h
    refine Ex.call (args := [vR (10, 0, 0), vI 2]) (rest := [vI a0]) rfl rfl rfl (exX10_its (d := d + 0) hv) ?_
    show Ex (d + 1) kX10_rulerSign 19 [some (vR (10, 0, 0)), some (vI a0)] [vI v1, vI a0] hp _
    refine Ex.icmp rfl ?_
    by_cases hc : a0 = v1
    · rw [if_pos hc] at h
      rw [brI_ne_p hc]
      show Ex (d + 1) kX10_rulerSign 22 [some (vR (10, 0, 0)), some (vI a0)] [] hp _
      refine Ex.go 1 (pc' := 24) (ls' := [some (vR (10, 0, 0)), some (vI a0)]) (st' := [vI 76]) (hp' := hp) (fun _ => rfl) ?_
      cases h
      exact Ex.ret rfl rfl rfl
    · rw [if_neg hc] at h
      rw [brI_ne_n hc]
      show Ex (d + 1) kX10_rulerSign 25 [some (vR (10, 0, 0)), some (vI a0)] [] hp _
      refine Ex.go 3 (pc' := 28) (ls' := [some (vR (10, 0, 0)), some (vI a0)]) (st' := [vI 3, vR (10, 0, 0), vI a0]) (hp' := hp) (fun _ => rfl) ?_
      obtain ⟨v2, hv, h⟩ := Option.bind_eq_some_iff.mp h
      refine Ex.call (args := [vR (10, 0, 0), vI 3]) (rest := [vI a0]) rfl rfl rfl (exX10_its (d := d + 0) hv) ?_
      show Ex (d + 1) kX10_rulerSign 31 [some (vR (10, 0, 0)), some (vI a0)] [vI v2, vI a0] hp _
      refine Ex.icmp rfl ?_
      by_cases hc : a0 = v2
      · rw [if_pos hc] at h
        rw [brI_ne_p hc]
        show Ex (d + 1) kX10_rulerSign 34 [some (vR (10, 0, 0)), some (vI a0)] [] hp _
        refine Ex.go 1 (pc' := 36) (ls' := [some (vR (10, 0, 0)), some (vI a0)]) (st' := [vI 82]) (hp' := hp) (fun _ => rfl) ?_
        cases h
        exact Ex.ret rfl rfl rfl
      · rw [if_neg hc] at h
        rw [brI_ne_n hc]
        show Ex (d + 1) kX10_rulerSign 37 [some (vR (10, 0, 0)), some (vI a0)] [] hp _
        refine Ex.go 5 (pc' := 45) (ls' := [some (vR (10, 0, 0)), some (vI a0)]) (st' := [vI (90 + a0), vR (11, 22, 0)]) (hp' := hp) (fun _ => rfl) ?_
        by_cases hc : inb (90 + a0) (alen (11, 22, 0)) = true
        · rw [if_pos hc] at h
          refine Ex.iald rfl rfl hc rfl ?_
          show Ex (d + 1) kX10_rulerSign 46 [some (vR (10, 0, 0)), some (vI a0)] [vI (hp (11, 22, 0) (90 + a0).toNatClampNeg)] hp _
          refine Ex.go 1 (pc' := 47) (ls' := [some (vR (10, 0, 0)), some (vI a0)]) (st' := [vI 1, vI (hp (11, 22, 0) (90 + a0).toNatClampNeg)]) (hp' := hp) (fun _ => rfl) ?_
          refine Ex.icmp rfl ?_
          by_cases hc : (hp (11, 22, 0) (90 + a0).toNatClampNeg) = 1
          · rw [if_pos hc] at h
            rw [brI_ne_p hc]
            show Ex (d + 1) kX10_rulerSign 50 [some (vR (10, 0, 0)), some (vI a0)] [] hp _
            refine Ex.go 2 (pc' := 57) (ls' := [some (vR (10, 0, 0)), some (vI a0)]) (st' := [vI 84]) (hp' := hp) (fun _ => rfl) ?_
            cases h
            exact Ex.ret rfl rfl rfl
          · rw [if_neg hc] at h
            rw [brI_ne_n hc]
            show Ex (d + 1) kX10_rulerSign 55 [some (vR (10, 0, 0)), some (vI a0)] [] hp _
            refine Ex.go 1 (pc' := 57) (ls' := [some (vR (10, 0, 0)), some (vI a0)]) (st' := [vI 46]) (hp' := hp) (fun _ => rfl) ?_
            cases h
            exact Ex.ret rfl rfl rfl
        · rw [if_neg hc] at h
          cases h
def fX10_writeRuler_16 (n : Nat) (x1 : Int32) (hp : HP) : Option (Int32 × HP) := match n with
  | 0 => none
  | n + 1 => (fX10_its 0 hp).bind fun v1 => if x1 < v1 then ((fX10_rulerSign x1 hp).bind fun v2 => (fX10_says v2 hp).bind fun hp5 => fX10_writeRuler_16 n (x1 + 1) hp5) else (some ((hp (10, 0, 0) 30), hp))
theorem exX10_writeRuler_16 {d : Nat} : ∀ (n : Nat) (x1 : Int32) (hp : HP) (v : (Int32 × HP)), fX10_writeRuler_16 n x1 hp = some v → Ex (d + 2) kX10_writeRuler 16 [some (vR (10, 0, 0)), some (vI x1)] [] hp (rsI v.1 v.2) := by
  intro n
  induction n with
  | zero =>
    intro x1 hp v h
    cases h
  | succ n ih =>
    intro x1 hp v h
    replace h : ((fX10_its 0 hp).bind fun v1 => if x1 < v1 then ((fX10_rulerSign x1 hp).bind fun v2 => (fX10_says v2 hp).bind fun hp5 => fX10_writeRuler_16 n (x1 + 1) hp5) else (some ((hp (10, 0, 0) 30), hp))) = some v := h
    refine Ex.go 3 (pc' := 19) (ls' := [some (vR (10, 0, 0)), some (vI x1)]) (st' := [vI 0, vR (10, 0, 0), vI x1]) (hp' := hp) (fun _ => rfl) ?_
    obtain ⟨v1, hv, h⟩ := Option.bind_eq_some_iff.mp h
    refine Ex.call (args := [vR (10, 0, 0), vI 0]) (rest := [vI x1]) rfl rfl rfl (exX10_its (d := d + 1) hv) ?_
    show Ex (d + 2) kX10_writeRuler 22 [some (vR (10, 0, 0)), some (vI x1)] [vI v1, vI x1] hp _
    refine Ex.icmp rfl ?_
    by_cases hc : x1 < v1
    · rw [if_pos hc] at h
      rw [brI_ge_p hc]
      show Ex (d + 2) kX10_writeRuler 25 [some (vR (10, 0, 0)), some (vI x1)] [] hp _
      refine Ex.go 3 (pc' := 28) (ls' := [some (vR (10, 0, 0)), some (vI x1)]) (st' := [vI x1, vR (10, 0, 0), vR (10, 0, 0)]) (hp' := hp) (fun _ => rfl) ?_
      obtain ⟨v2, hv, h⟩ := Option.bind_eq_some_iff.mp h
      refine Ex.call (args := [vR (10, 0, 0), vI x1]) (rest := [vR (10, 0, 0)]) rfl rfl rfl (exX10_rulerSign (d := d + 0) hv) ?_
      show Ex (d + 2) kX10_writeRuler 31 [some (vR (10, 0, 0)), some (vI x1)] [vI v2, vR (10, 0, 0)] hp _
      obtain ⟨hp5, hv, h⟩ := Option.bind_eq_some_iff.mp h
      refine Ex.call (args := [vR (10, 0, 0), vI v2]) (rest := []) rfl rfl rfl (exX10_says (d := d + 1) hv) ?_
      show Ex (d + 2) kX10_writeRuler 34 [some (vR (10, 0, 0)), some (vI x1)] [] hp5 _
      refine Ex.go 2 (pc' := 16) (ls' := [some (vR (10, 0, 0)), some (vI (x1 + 1))]) (st' := []) (hp' := hp5) (fun _ => rfl) ?_
      exact ih _ _ _ h
    · rw [if_neg hc] at h
      rw [brI_ge_n hc]
      show Ex (d + 2) kX10_writeRuler 40 [some (vR (10, 0, 0)), some (vI x1)] [] hp _
      refine Ex.go 2 (pc' := 44) (ls' := [some (vR (10, 0, 0)), some (vI x1)]) (st' := [vI (hp (10, 0, 0) 30)]) (hp' := hp) (fun _ => rfl) ?_
      cases h
      exact Ex.ret rfl rfl rfl
def fX10_writeRuler (hp : HP) : Option (Int32 × HP) := (fX10_notLoaded hp).bind fun q7 => if q7.1 = 0 then (fX10_writeRuler_16 FU 0 (up q7.2 (10, 0, 0) 30 0)) else (some (0, q7.2))
theorem exX10_writeRuler {d : Nat} {hp : HP} {v : (Int32 × HP)} (h : fX10_writeRuler hp = some v) : Calls (d + 2) 270 [vR (10, 0, 0)] hp (rsI v.1 v.2) := by
  replace h : ((fX10_notLoaded hp).bind fun q7 => if q7.1 = 0 then (fX10_writeRuler_16 FU 0 (up q7.2 (10, 0, 0) 30 0)) else (some (0, q7.2))) = some v := h
  show Ex (d + 2) kX10_writeRuler 0 [some (vR (10, 0, 0)), none] [] hp _
  refine Ex.go 1 (pc' := 1) (ls' := [some (vR (10, 0, 0)), none]) (st' := [vR (10, 0, 0)]) (hp' := hp) (fun _ => rfl) ?_
  obtain ⟨q7, hv, h⟩ := Option.bind_eq_some_iff.mp h
  refine Ex.call (args := [vR (10, 0, 0)]) (rest := []) rfl rfl rfl (exX10_notLoaded (d := d + 0) hv) ?_
  show Ex (d + 2) kX10_writeRuler 4 [some (vR (10, 0, 0)), none] [vI q7.1] q7.2 _
  refine Ex.ifc rfl ?_
  by_cases hc : q7.1 = 0
  · rw [if_pos hc] at h
    rw [brI_eq_p hc]
    show Ex (d + 2) kX10_writeRuler 9 [some (vR (10, 0, 0)), none] [] q7.2 _
    refine Ex.go 5 (pc' := 16) (ls' := [some (vR (10, 0, 0)), some (vI 0)]) (st' := []) (hp' := (up q7.2 (10, 0, 0) 30 0)) (fun _ => rfl) ?_
    exact exX10_writeRuler_16 FU _ _ _ h
  · rw [if_neg hc] at h
    rw [brI_eq_n hc]
    show Ex (d + 2) kX10_writeRuler 7 [some (vR (10, 0, 0)), none] [] q7.2 _
    refine Ex.go 1 (pc' := 8) (ls' := [some (vR (10, 0, 0)), none]) (st' := [vI 0]) (hp' := q7.2) (fun _ => rfl) ?_
    cases h
    exact Ex.ret rfl rfl rfl
def fX10_textByte_25 (x1 : Int32) (y1 : Int32) (hp : HP) : Option (Int32 × HP) := (fX10_refuse y1 1 hp).bind fun q2 => if q2.1 = 0 then (if inb x1 (alen (11, 31, 0)) = true then (some ((q2.2 (11, 31, 0) x1.toNatClampNeg), q2.2)) else none) else (some (0, q2.2))
theorem exX10_textByte_25 {d : Nat} {x1 : Int32} {y1 : Int32} {hp : HP} {v : (Int32 × HP)} (h : fX10_textByte_25 x1 y1 hp = some v) : Ex (d + 1) kX10_textByte 25 [some (vR (10, 0, 0)), some (vI x1)] [vI y1, vR (10, 0, 0)] hp (rsI v.1 v.2) := by
  replace h : ((fX10_refuse y1 1 hp).bind fun q2 => if q2.1 = 0 then (if inb x1 (alen (11, 31, 0)) = true then (some ((q2.2 (11, 31, 0) x1.toNatClampNeg), q2.2)) else none) else (some (0, q2.2))) = some v := h
  refine Ex.go 1 (pc' := 26) (ls' := [some (vR (10, 0, 0)), some (vI x1)]) (st' := [vI 1, vI y1, vR (10, 0, 0)]) (hp' := hp) (fun _ => rfl) ?_
  obtain ⟨q2, hv, h⟩ := Option.bind_eq_some_iff.mp h
  refine Ex.call (args := [vR (10, 0, 0), vI y1, vI 1]) (rest := []) rfl rfl rfl (exX10_refuse (d := d + 0) hv) ?_
  show Ex (d + 1) kX10_textByte 29 [some (vR (10, 0, 0)), some (vI x1)] [vI q2.1] q2.2 _
  refine Ex.ifc rfl ?_
  by_cases hc : q2.1 = 0
  · rw [if_pos hc] at h
    rw [brI_eq_p hc]
    show Ex (d + 1) kX10_textByte 36 [some (vR (10, 0, 0)), some (vI x1)] [] q2.2 _
    refine Ex.go 3 (pc' := 41) (ls' := [some (vR (10, 0, 0)), some (vI x1)]) (st' := [vI x1, vR (11, 31, 0)]) (hp' := q2.2) (fun _ => rfl) ?_
    by_cases hc : inb x1 (alen (11, 31, 0)) = true
    · rw [if_pos hc] at h
      refine Ex.iald rfl rfl hc rfl ?_
      show Ex (d + 1) kX10_textByte 42 [some (vR (10, 0, 0)), some (vI x1)] [vI (q2.2 (11, 31, 0) x1.toNatClampNeg)] q2.2 _
      cases h
      exact Ex.ret rfl rfl rfl
    · rw [if_neg hc] at h
      cases h
  · rw [if_neg hc] at h
    rw [brI_eq_n hc]
    show Ex (d + 1) kX10_textByte 32 [some (vR (10, 0, 0)), some (vI x1)] [] q2.2 _
    refine Ex.go 2 (pc' := 42) (ls' := [some (vR (10, 0, 0)), some (vI x1)]) (st' := [vI 0]) (hp' := q2.2) (fun _ => rfl) ?_
    cases h
    exact Ex.ret rfl rfl rfl
def fX10_textByte_5 (x1 : Int32) (hp : HP) : Option (Int32 × HP) := (fX10_in x1 0 ((hp (10, 0, 0) 30) - 1) hp).bind fun v3 => if v3 = 0 then (fX10_textByte_25 x1 1 hp) else (fX10_textByte_25 x1 0 hp)
theorem exX10_textByte_5 {d : Nat} {x1 : Int32} {hp : HP} {v : (Int32 × HP)} (h : fX10_textByte_5 x1 hp = some v) : Ex (d + 1) kX10_textByte 5 [some (vR (10, 0, 0)), some (vI x1)] [] hp (rsI v.1 v.2) := by
  replace h : ((fX10_in x1 0 ((hp (10, 0, 0) 30) - 1) hp).bind fun v3 => if v3 = 0 then (fX10_textByte_25 x1 1 hp) else (fX10_textByte_25 x1 0 hp)) = some v := h
  refine Ex.go 7 (pc' := 14) (ls' := [some (vR (10, 0, 0)), some (vI x1)]) (st' := [vI ((hp (10, 0, 0) 30) - 1), vI 0, vI x1, vR (10, 0, 0)]) (hp' := hp) (fun _ => rfl) ?_
  obtain ⟨v3, hv, h⟩ := Option.bind_eq_some_iff.mp h
  refine Ex.call (args := [vI x1, vI 0, vI ((hp (10, 0, 0) 30) - 1)]) (rest := [vR (10, 0, 0)]) rfl rfl rfl (exX10_in (d := d + 0) hv) ?_
  show Ex (d + 1) kX10_textByte 17 [some (vR (10, 0, 0)), some (vI x1)] [vI v3, vR (10, 0, 0)] hp _
  refine Ex.ifc rfl ?_
  by_cases hc : v3 = 0
  · rw [if_pos hc] at h
    rw [brI_ne_p hc]
    show Ex (d + 1) kX10_textByte 20 [some (vR (10, 0, 0)), some (vI x1)] [vR (10, 0, 0)] hp _
    refine Ex.go 2 (pc' := 25) (ls' := [some (vR (10, 0, 0)), some (vI x1)]) (st' := [vI 1, vR (10, 0, 0)]) (hp' := hp) (fun _ => rfl) ?_
    exact exX10_textByte_25 h
  · rw [if_neg hc] at h
    rw [brI_ne_n hc]
    show Ex (d + 1) kX10_textByte 24 [some (vR (10, 0, 0)), some (vI x1)] [vR (10, 0, 0)] hp _
    refine Ex.go 1 (pc' := 25) (ls' := [some (vR (10, 0, 0)), some (vI x1)]) (st' := [vI 0, vR (10, 0, 0)]) (hp' := hp) (fun _ => rfl) ?_
    exact exX10_textByte_25 h
def fX10_textByte (a0 : Int32) (hp : HP) : Option (Int32 × HP) := fX10_textByte_5 a0 (up hp (10, 0, 0) 0 0)
theorem exX10_textByte {d : Nat} {a0 : Int32} {hp : HP} {v : (Int32 × HP)} (h : fX10_textByte a0 hp = some v) : Calls (d + 1) 271 [vR (10, 0, 0), vI a0] hp (rsI v.1 v.2) := by
  replace h : (fX10_textByte_5 a0 (up hp (10, 0, 0) 0 0)) = some v := h
  show Ex (d + 1) kX10_textByte 0 [some (vR (10, 0, 0)), some (vI a0)] [] hp _
  refine Ex.go 3 (pc' := 5) (ls' := [some (vR (10, 0, 0)), some (vI a0)]) (st' := []) (hp' := (up hp (10, 0, 0) 0 0)) (fun _ => rfl) ?_
  exact exX10_textByte_5 h
def fX10_keeps_2 (n : Nat) (x1 : Int32) (x2 : Int32) (hp : HP) : Option HP := match n with
  | 0 => none
  | n + 1 => if x2 < 1150 then (if inb x2 (alen (11, 22, 0)) = true then (if inb ((1150 * x1) + x2) (alen (11, 24, 0)) = true then (fX10_keeps_2 n x1 (x2 + 1) (up hp (11, 24, 0) (((1150 * x1) + x2).toNatClampNeg) (hp (11, 22, 0) x2.toNatClampNeg))) else none) else none) else (some hp)
theorem exX10_keeps_2 {d : Nat} : ∀ (n : Nat) (x1 : Int32) (x2 : Int32) (hp : HP) (v : HP), fX10_keeps_2 n x1 x2 hp = some v → Ex (d + 0) kX10_keeps 2 [some (vR (10, 0, 0)), some (vI x1), some (vI x2)] [] hp (rsV () v) := by
  intro n
  induction n with
  | zero =>
    intro x1 x2 hp v h
    cases h
  | succ n ih =>
    intro x1 x2 hp v h
    replace h : (if x2 < 1150 then (if inb x2 (alen (11, 22, 0)) = true then (if inb ((1150 * x1) + x2) (alen (11, 24, 0)) = true then (fX10_keeps_2 n x1 (x2 + 1) (up hp (11, 24, 0) (((1150 * x1) + x2).toNatClampNeg) (hp (11, 22, 0) x2.toNatClampNeg))) else none) else none) else (some hp)) = some v := h
    refine Ex.go 2 (pc' := 6) (ls' := [some (vR (10, 0, 0)), some (vI x1), some (vI x2)]) (st' := [vI 1150, vI x2]) (hp' := hp) (fun _ => rfl) ?_
    refine Ex.icmp rfl ?_
    by_cases hc : x2 < 1150
    · rw [if_pos hc] at h
      rw [brI_ge_p hc]
      show Ex (d + 0) kX10_keeps 9 [some (vR (10, 0, 0)), some (vI x1), some (vI x2)] [] hp _
      refine Ex.go 10 (pc' := 25) (ls' := [some (vR (10, 0, 0)), some (vI x1), some (vI x2)]) (st' := [vI x2, vR (11, 22, 0), vI ((1150 * x1) + x2), vR (11, 24, 0)]) (hp' := hp) (fun _ => rfl) ?_
      by_cases hc : inb x2 (alen (11, 22, 0)) = true
      · rw [if_pos hc] at h
        refine Ex.iald rfl rfl hc rfl ?_
        show Ex (d + 0) kX10_keeps 26 [some (vR (10, 0, 0)), some (vI x1), some (vI x2)] [vI (hp (11, 22, 0) x2.toNatClampNeg), vI ((1150 * x1) + x2), vR (11, 24, 0)] hp _
        by_cases hc : inb ((1150 * x1) + x2) (alen (11, 24, 0)) = true
        · rw [if_pos hc] at h
          refine Ex.iast rfl rfl hc rfl ?_
          show Ex (d + 0) kX10_keeps 27 [some (vR (10, 0, 0)), some (vI x1), some (vI x2)] [] (up hp (11, 24, 0) (((1150 * x1) + x2).toNatClampNeg) (hp (11, 22, 0) x2.toNatClampNeg)) _
          refine Ex.go 2 (pc' := 2) (ls' := [some (vR (10, 0, 0)), some (vI x1), some (vI (x2 + 1))]) (st' := []) (hp' := (up hp (11, 24, 0) (((1150 * x1) + x2).toNatClampNeg) (hp (11, 22, 0) x2.toNatClampNeg))) (fun _ => rfl) ?_
          exact ih _ _ _ _ h
        · rw [if_neg hc] at h
          cases h
      · rw [if_neg hc] at h
        cases h
    · rw [if_neg hc] at h
      rw [brI_ge_n hc]
      show Ex (d + 0) kX10_keeps 33 [some (vR (10, 0, 0)), some (vI x1), some (vI x2)] [] hp _
      cases h
      exact Ex.ret rfl rfl rfl
def fX10_keeps (a0 : Int32) (hp : HP) : Option HP := fX10_keeps_2 FU a0 0 hp
theorem exX10_keeps {d : Nat} {a0 : Int32} {hp : HP} {v : HP} (h : fX10_keeps a0 hp = some v) : Calls (d + 0) 272 [vR (10, 0, 0), vI a0] hp (rsV () v) := by
  replace h : (fX10_keeps_2 FU a0 0 hp) = some v := h
  show Ex (d + 0) kX10_keeps 0 [some (vR (10, 0, 0)), some (vI a0), none] [] hp _
  refine Ex.go 2 (pc' := 2) (ls' := [some (vR (10, 0, 0)), some (vI a0), some (vI 0)]) (st' := []) (hp' := hp) (fun _ => rfl) ?_
  exact exX10_keeps_2 FU _ _ _ _ h
def fX10_fetches_2 (n : Nat) (x1 : Int32) (x2 : Int32) (hp : HP) : Option HP := match n with
  | 0 => none
  | n + 1 => if x2 < 1150 then (if inb ((1150 * x1) + x2) (alen (11, 24, 0)) = true then (if inb x2 (alen (11, 22, 0)) = true then (fX10_fetches_2 n x1 (x2 + 1) (up hp (11, 22, 0) (x2.toNatClampNeg) (hp (11, 24, 0) ((1150 * x1) + x2).toNatClampNeg))) else none) else none) else (some hp)
theorem exX10_fetches_2 {d : Nat} : ∀ (n : Nat) (x1 : Int32) (x2 : Int32) (hp : HP) (v : HP), fX10_fetches_2 n x1 x2 hp = some v → Ex (d + 0) kX10_fetches 2 [some (vR (10, 0, 0)), some (vI x1), some (vI x2)] [] hp (rsV () v) := by
  intro n
  induction n with
  | zero =>
    intro x1 x2 hp v h
    cases h
  | succ n ih =>
    intro x1 x2 hp v h
    replace h : (if x2 < 1150 then (if inb ((1150 * x1) + x2) (alen (11, 24, 0)) = true then (if inb x2 (alen (11, 22, 0)) = true then (fX10_fetches_2 n x1 (x2 + 1) (up hp (11, 22, 0) (x2.toNatClampNeg) (hp (11, 24, 0) ((1150 * x1) + x2).toNatClampNeg))) else none) else none) else (some hp)) = some v := h
    refine Ex.go 2 (pc' := 6) (ls' := [some (vR (10, 0, 0)), some (vI x1), some (vI x2)]) (st' := [vI 1150, vI x2]) (hp' := hp) (fun _ => rfl) ?_
    refine Ex.icmp rfl ?_
    by_cases hc : x2 < 1150
    · rw [if_pos hc] at h
      rw [brI_ge_p hc]
      show Ex (d + 0) kX10_fetches 9 [some (vR (10, 0, 0)), some (vI x1), some (vI x2)] [] hp _
      refine Ex.go 10 (pc' := 25) (ls' := [some (vR (10, 0, 0)), some (vI x1), some (vI x2)]) (st' := [vI ((1150 * x1) + x2), vR (11, 24, 0), vI x2, vR (11, 22, 0)]) (hp' := hp) (fun _ => rfl) ?_
      by_cases hc : inb ((1150 * x1) + x2) (alen (11, 24, 0)) = true
      · rw [if_pos hc] at h
        refine Ex.iald rfl rfl hc rfl ?_
        show Ex (d + 0) kX10_fetches 26 [some (vR (10, 0, 0)), some (vI x1), some (vI x2)] [vI (hp (11, 24, 0) ((1150 * x1) + x2).toNatClampNeg), vI x2, vR (11, 22, 0)] hp _
        by_cases hc : inb x2 (alen (11, 22, 0)) = true
        · rw [if_pos hc] at h
          refine Ex.iast rfl rfl hc rfl ?_
          show Ex (d + 0) kX10_fetches 27 [some (vR (10, 0, 0)), some (vI x1), some (vI x2)] [] (up hp (11, 22, 0) (x2.toNatClampNeg) (hp (11, 24, 0) ((1150 * x1) + x2).toNatClampNeg)) _
          refine Ex.go 2 (pc' := 2) (ls' := [some (vR (10, 0, 0)), some (vI x1), some (vI (x2 + 1))]) (st' := []) (hp' := (up hp (11, 22, 0) (x2.toNatClampNeg) (hp (11, 24, 0) ((1150 * x1) + x2).toNatClampNeg))) (fun _ => rfl) ?_
          exact ih _ _ _ _ h
        · rw [if_neg hc] at h
          cases h
      · rw [if_neg hc] at h
        cases h
    · rw [if_neg hc] at h
      rw [brI_ge_n hc]
      show Ex (d + 0) kX10_fetches 33 [some (vR (10, 0, 0)), some (vI x1), some (vI x2)] [] hp _
      cases h
      exact Ex.ret rfl rfl rfl
def fX10_fetches (a0 : Int32) (hp : HP) : Option HP := fX10_fetches_2 FU a0 0 hp
theorem exX10_fetches {d : Nat} {a0 : Int32} {hp : HP} {v : HP} (h : fX10_fetches a0 hp = some v) : Calls (d + 0) 273 [vR (10, 0, 0), vI a0] hp (rsV () v) := by
  replace h : (fX10_fetches_2 FU a0 0 hp) = some v := h
  show Ex (d + 0) kX10_fetches 0 [some (vR (10, 0, 0)), some (vI a0), none] [] hp _
  refine Ex.go 2 (pc' := 2) (ls' := [some (vR (10, 0, 0)), some (vI a0), some (vI 0)]) (st' := []) (hp' := hp) (fun _ => rfl) ?_
  exact exX10_fetches_2 FU _ _ _ _ h
def fX10_keepsAll_50 (hp : HP) : Option HP := (fX10_keeps (0 + (hp (10, 0, 0) 8)) hp).bind fun hp3 => some (up hp3 (10, 0, 0) 8 ((hp3 (10, 0, 0) 8) + 1))
theorem exX10_keepsAll_50 {d : Nat} {j1 : Option VL} {hp : HP} {v : HP} (h : fX10_keepsAll_50 hp = some v) : Ex (d + 1) kX10_keepsAll 50 [some (vR (10, 0, 0)), j1] [] hp (rsV () v) := by
  replace h : ((fX10_keeps (0 + (hp (10, 0, 0) 8)) hp).bind fun hp3 => some (up hp3 (10, 0, 0) 8 ((hp3 (10, 0, 0) 8) + 1))) = some v := h
  refine Ex.go 5 (pc' := 57) (ls' := [some (vR (10, 0, 0)), j1]) (st' := [vI (0 + (hp (10, 0, 0) 8)), vR (10, 0, 0)]) (hp' := hp) (fun _ => rfl) ?_
  obtain ⟨hp3, hv, h⟩ := Option.bind_eq_some_iff.mp h
  refine Ex.call (args := [vR (10, 0, 0), vI (0 + (hp (10, 0, 0) 8))]) (rest := []) rfl rfl rfl (exX10_keeps (d := d + 0) hv) ?_
  show Ex (d + 1) kX10_keepsAll 60 [some (vR (10, 0, 0)), j1] [] hp3 _
  refine Ex.go 6 (pc' := 70) (ls' := [some (vR (10, 0, 0)), j1]) (st' := []) (hp' := (up hp3 (10, 0, 0) 8 ((hp3 (10, 0, 0) 8) + 1))) (fun _ => rfl) ?_
  cases h
  exact Ex.ret rfl rfl rfl
def fX10_keepsAll_11 (n : Nat) (x1 : Int32) (hp : HP) : Option HP := match n with
  | 0 => none
  | n + 1 => if x1 < 8050 then (if inb (x1 + 1150) (alen (11, 24, 0)) = true then (if inb x1 (alen (11, 24, 0)) = true then (fX10_keepsAll_11 n (x1 + 1) (up hp (11, 24, 0) (x1.toNatClampNeg) (hp (11, 24, 0) (x1 + 1150).toNatClampNeg))) else none) else none) else (fX10_keepsAll_50 (up hp (10, 0, 0) 8 ((hp (10, 0, 0) 8) - 1)))
theorem exX10_keepsAll_11 {d : Nat} : ∀ (n : Nat) (x1 : Int32) (hp : HP) (v : HP), fX10_keepsAll_11 n x1 hp = some v → Ex (d + 1) kX10_keepsAll 11 [some (vR (10, 0, 0)), some (vI x1)] [] hp (rsV () v) := by
  intro n
  induction n with
  | zero =>
    intro x1 hp v h
    cases h
  | succ n ih =>
    intro x1 hp v h
    replace h : (if x1 < 8050 then (if inb (x1 + 1150) (alen (11, 24, 0)) = true then (if inb x1 (alen (11, 24, 0)) = true then (fX10_keepsAll_11 n (x1 + 1) (up hp (11, 24, 0) (x1.toNatClampNeg) (hp (11, 24, 0) (x1 + 1150).toNatClampNeg))) else none) else none) else (fX10_keepsAll_50 (up hp (10, 0, 0) 8 ((hp (10, 0, 0) 8) - 1)))) = some v := h
    refine Ex.go 2 (pc' := 15) (ls' := [some (vR (10, 0, 0)), some (vI x1)]) (st' := [vI 8050, vI x1]) (hp' := hp) (fun _ => rfl) ?_
    refine Ex.icmp rfl ?_
    by_cases hc : x1 < 8050
    · rw [if_pos hc] at h
      rw [brI_ge_p hc]
      show Ex (d + 1) kX10_keepsAll 18 [some (vR (10, 0, 0)), some (vI x1)] [] hp _
      refine Ex.go 8 (pc' := 32) (ls' := [some (vR (10, 0, 0)), some (vI x1)]) (st' := [vI (x1 + 1150), vR (11, 24, 0), vI x1, vR (11, 24, 0)]) (hp' := hp) (fun _ => rfl) ?_
      by_cases hc : inb (x1 + 1150) (alen (11, 24, 0)) = true
      · rw [if_pos hc] at h
        refine Ex.iald rfl rfl hc rfl ?_
        show Ex (d + 1) kX10_keepsAll 33 [some (vR (10, 0, 0)), some (vI x1)] [vI (hp (11, 24, 0) (x1 + 1150).toNatClampNeg), vI x1, vR (11, 24, 0)] hp _
        by_cases hc : inb x1 (alen (11, 24, 0)) = true
        · rw [if_pos hc] at h
          refine Ex.iast rfl rfl hc rfl ?_
          show Ex (d + 1) kX10_keepsAll 34 [some (vR (10, 0, 0)), some (vI x1)] [] (up hp (11, 24, 0) (x1.toNatClampNeg) (hp (11, 24, 0) (x1 + 1150).toNatClampNeg)) _
          refine Ex.go 2 (pc' := 11) (ls' := [some (vR (10, 0, 0)), some (vI (x1 + 1))]) (st' := []) (hp' := (up hp (11, 24, 0) (x1.toNatClampNeg) (hp (11, 24, 0) (x1 + 1150).toNatClampNeg))) (fun _ => rfl) ?_
          exact ih _ _ _ h
        · rw [if_neg hc] at h
          cases h
      · rw [if_neg hc] at h
        cases h
    · rw [if_neg hc] at h
      rw [brI_ge_n hc]
      show Ex (d + 1) kX10_keepsAll 40 [some (vR (10, 0, 0)), some (vI x1)] [] hp _
      refine Ex.go 6 (pc' := 50) (ls' := [some (vR (10, 0, 0)), some (vI x1)]) (st' := []) (hp' := (up hp (10, 0, 0) 8 ((hp (10, 0, 0) 8) - 1))) (fun _ => rfl) ?_
      exact exX10_keepsAll_50 h
def fX10_keepsAll (hp : HP) : Option HP := if (hp (10, 0, 0) 8) = 8 then (fX10_keepsAll_11 FU 0 hp) else (fX10_keepsAll_50 hp)
theorem exX10_keepsAll {d : Nat} {hp : HP} {v : HP} (h : fX10_keepsAll hp = some v) : Calls (d + 1) 274 [vR (10, 0, 0)] hp (rsV () v) := by
  replace h : (if (hp (10, 0, 0) 8) = 8 then (fX10_keepsAll_11 FU 0 hp) else (fX10_keepsAll_50 hp)) = some v := h
  show Ex (d + 1) kX10_keepsAll 0 [some (vR (10, 0, 0)), none] [] hp _
  refine Ex.go 3 (pc' := 6) (ls' := [some (vR (10, 0, 0)), none]) (st' := [vI 8, vI (hp (10, 0, 0) 8)]) (hp' := hp) (fun _ => rfl) ?_
  refine Ex.icmp rfl ?_
  by_cases hc : (hp (10, 0, 0) 8) = 8
  · rw [if_pos hc] at h
    rw [brI_ne_p hc]
    show Ex (d + 1) kX10_keepsAll 9 [some (vR (10, 0, 0)), none] [] hp _
    refine Ex.go 2 (pc' := 11) (ls' := [some (vR (10, 0, 0)), some (vI 0)]) (st' := []) (hp' := hp) (fun _ => rfl) ?_
    exact exX10_keepsAll_11 FU _ _ _ h
  · rw [if_neg hc] at h
    rw [brI_ne_n hc]
    show Ex (d + 1) kX10_keepsAll 50 [some (vR (10, 0, 0)), none] [] hp _
    exact exX10_keepsAll_50 h
def fX10_strike (a0 : Int32) (a1 : Int32) (hp : HP) : Option (Int32 × HP) := (fX10_noBar a0 hp).bind fun q2 => if q2.1 = 0 then ((fX10_keepsAll q2.2).bind fun hp5 => (fX10_letterKey a0 a1 hp5).bind fun q7 => some (q7.1, q7.2)) else (some (0, q2.2))
theorem exX10_strike {d : Nat} {a0 : Int32} {a1 : Int32} {hp : HP} {v : (Int32 × HP)} (h : fX10_strike a0 a1 hp = some v) : Calls (d + 6) 275 [vR (10, 0, 0), vI a0, vI a1] hp (rsI v.1 v.2) := by
  replace h : ((fX10_noBar a0 hp).bind fun q2 => if q2.1 = 0 then ((fX10_keepsAll q2.2).bind fun hp5 => (fX10_letterKey a0 a1 hp5).bind fun q7 => some (q7.1, q7.2)) else (some (0, q2.2))) = some v := h
  show Ex (d + 6) kX10_strike 0 [some (vR (10, 0, 0)), some (vI a0), some (vI a1)] [] hp _
  refine Ex.go 2 (pc' := 2) (ls' := [some (vR (10, 0, 0)), some (vI a0), some (vI a1)]) (st' := [vI a0, vR (10, 0, 0)]) (hp' := hp) (fun _ => rfl) ?_
  obtain ⟨q2, hv, h⟩ := Option.bind_eq_some_iff.mp h
  refine Ex.call (args := [vR (10, 0, 0), vI a0]) (rest := []) rfl rfl rfl (exX10_noBar (d := d + 3) hv) ?_
  show Ex (d + 6) kX10_strike 5 [some (vR (10, 0, 0)), some (vI a0), some (vI a1)] [vI q2.1] q2.2 _
  refine Ex.ifc rfl ?_
  by_cases hc : q2.1 = 0
  · rw [if_pos hc] at h
    rw [brI_eq_p hc]
    show Ex (d + 6) kX10_strike 10 [some (vR (10, 0, 0)), some (vI a0), some (vI a1)] [] q2.2 _
    refine Ex.go 1 (pc' := 11) (ls' := [some (vR (10, 0, 0)), some (vI a0), some (vI a1)]) (st' := [vR (10, 0, 0)]) (hp' := q2.2) (fun _ => rfl) ?_
    obtain ⟨hp5, hv, h⟩ := Option.bind_eq_some_iff.mp h
    refine Ex.call (args := [vR (10, 0, 0)]) (rest := []) rfl rfl rfl (exX10_keepsAll (d := d + 4) hv) ?_
    show Ex (d + 6) kX10_strike 14 [some (vR (10, 0, 0)), some (vI a0), some (vI a1)] [] hp5 _
    refine Ex.go 3 (pc' := 17) (ls' := [some (vR (10, 0, 0)), some (vI a0), some (vI a1)]) (st' := [vI a1, vI a0, vR (10, 0, 0)]) (hp' := hp5) (fun _ => rfl) ?_
    obtain ⟨q7, hv, h⟩ := Option.bind_eq_some_iff.mp h
    refine Ex.call (args := [vR (10, 0, 0), vI a0, vI a1]) (rest := []) rfl rfl rfl (exX10_letterKey (d := d + 0) hv) ?_
    show Ex (d + 6) kX10_strike 20 [some (vR (10, 0, 0)), some (vI a0), some (vI a1)] [vI q7.1] q7.2 _
    cases h
    exact Ex.ret rfl rfl rfl
  · rw [if_neg hc] at h
    rw [brI_eq_n hc]
    show Ex (d + 6) kX10_strike 8 [some (vR (10, 0, 0)), some (vI a0), some (vI a1)] [] q2.2 _
    refine Ex.go 1 (pc' := 9) (ls' := [some (vR (10, 0, 0)), some (vI a0), some (vI a1)]) (st' := [vI 0]) (hp' := q2.2) (fun _ => rfl) ?_
    cases h
    exact Ex.ret rfl rfl rfl
def fX10_press_22 (x1 : Int32) (y1 : Int32) (hp : HP) : Option (Int32 × HP) := (fX10_refuse y1 2 hp).bind fun q2 => if q2.1 = 0 then ((fX10_keepsAll q2.2).bind fun hp5 => (fX10_otherKey x1 hp5).bind fun q7 => some (q7.1, q7.2)) else (some (0, q2.2))
theorem exX10_press_22 {d : Nat} {x1 : Int32} {y1 : Int32} {hp : HP} {v : (Int32 × HP)} (h : fX10_press_22 x1 y1 hp = some v) : Ex (d + 5) kX10_press 22 [some (vR (10, 0, 0)), some (vI x1)] [vI y1, vR (10, 0, 0)] hp (rsI v.1 v.2) := by
  replace h : ((fX10_refuse y1 2 hp).bind fun q2 => if q2.1 = 0 then ((fX10_keepsAll q2.2).bind fun hp5 => (fX10_otherKey x1 hp5).bind fun q7 => some (q7.1, q7.2)) else (some (0, q2.2))) = some v := h
  refine Ex.go 1 (pc' := 23) (ls' := [some (vR (10, 0, 0)), some (vI x1)]) (st' := [vI 2, vI y1, vR (10, 0, 0)]) (hp' := hp) (fun _ => rfl) ?_
  obtain ⟨q2, hv, h⟩ := Option.bind_eq_some_iff.mp h
  refine Ex.call (args := [vR (10, 0, 0), vI y1, vI 2]) (rest := []) rfl rfl rfl (exX10_refuse (d := d + 4) hv) ?_
  show Ex (d + 5) kX10_press 26 [some (vR (10, 0, 0)), some (vI x1)] [vI q2.1] q2.2 _
  refine Ex.ifc rfl ?_
  by_cases hc : q2.1 = 0
  · rw [if_pos hc] at h
    rw [brI_eq_p hc]
    show Ex (d + 5) kX10_press 31 [some (vR (10, 0, 0)), some (vI x1)] [] q2.2 _
    refine Ex.go 1 (pc' := 32) (ls' := [some (vR (10, 0, 0)), some (vI x1)]) (st' := [vR (10, 0, 0)]) (hp' := q2.2) (fun _ => rfl) ?_
    obtain ⟨hp5, hv, h⟩ := Option.bind_eq_some_iff.mp h
    refine Ex.call (args := [vR (10, 0, 0)]) (rest := []) rfl rfl rfl (exX10_keepsAll (d := d + 3) hv) ?_
    show Ex (d + 5) kX10_press 35 [some (vR (10, 0, 0)), some (vI x1)] [] hp5 _
    refine Ex.go 2 (pc' := 37) (ls' := [some (vR (10, 0, 0)), some (vI x1)]) (st' := [vI x1, vR (10, 0, 0)]) (hp' := hp5) (fun _ => rfl) ?_
    obtain ⟨q7, hv, h⟩ := Option.bind_eq_some_iff.mp h
    refine Ex.call (args := [vR (10, 0, 0), vI x1]) (rest := []) rfl rfl rfl (exX10_otherKey (d := d + 0) hv) ?_
    show Ex (d + 5) kX10_press 40 [some (vR (10, 0, 0)), some (vI x1)] [vI q7.1] q7.2 _
    cases h
    exact Ex.ret rfl rfl rfl
  · rw [if_neg hc] at h
    rw [brI_eq_n hc]
    show Ex (d + 5) kX10_press 29 [some (vR (10, 0, 0)), some (vI x1)] [] q2.2 _
    refine Ex.go 1 (pc' := 30) (ls' := [some (vR (10, 0, 0)), some (vI x1)]) (st' := [vI 0]) (hp' := q2.2) (fun _ => rfl) ?_
    cases h
    exact Ex.ret rfl rfl rfl
def fX10_press (a0 : Int32) (hp : HP) : Option (Int32 × HP) := (fX10_notLoaded hp).bind fun q9 => if q9.1 = 0 then ((fX10_in a0 0 5 q9.2).bind fun v10 => if v10 = 0 then (fX10_press_22 a0 1 q9.2) else (fX10_press_22 a0 0 q9.2)) else (some (0, q9.2))
theorem exX10_press {d : Nat} {a0 : Int32} {hp : HP} {v : (Int32 × HP)} (h : fX10_press a0 hp = some v) : Calls (d + 5) 276 [vR (10, 0, 0), vI a0] hp (rsI v.1 v.2) := by
  replace h : ((fX10_notLoaded hp).bind fun q9 => if q9.1 = 0 then ((fX10_in a0 0 5 q9.2).bind fun v10 => if v10 = 0 then (fX10_press_22 a0 1 q9.2) else (fX10_press_22 a0 0 q9.2)) else (some (0, q9.2))) = some v := h
  show Ex (d + 5) kX10_press 0 [some (vR (10, 0, 0)), some (vI a0)] [] hp _
  refine Ex.go 1 (pc' := 1) (ls' := [some (vR (10, 0, 0)), some (vI a0)]) (st' := [vR (10, 0, 0)]) (hp' := hp) (fun _ => rfl) ?_
  obtain ⟨q9, hv, h⟩ := Option.bind_eq_some_iff.mp h
  refine Ex.call (args := [vR (10, 0, 0)]) (rest := []) rfl rfl rfl (exX10_notLoaded (d := d + 3) hv) ?_
  show Ex (d + 5) kX10_press 4 [some (vR (10, 0, 0)), some (vI a0)] [vI q9.1] q9.2 _
  refine Ex.ifc rfl ?_
  by_cases hc : q9.1 = 0
  · rw [if_pos hc] at h
    rw [brI_ne_p hc]
    show Ex (d + 5) kX10_press 7 [some (vR (10, 0, 0)), some (vI a0)] [] q9.2 _
    refine Ex.go 4 (pc' := 11) (ls' := [some (vR (10, 0, 0)), some (vI a0)]) (st' := [vI 5, vI 0, vI a0, vR (10, 0, 0)]) (hp' := q9.2) (fun _ => rfl) ?_
    obtain ⟨v10, hv, h⟩ := Option.bind_eq_some_iff.mp h
    refine Ex.call (args := [vI a0, vI 0, vI 5]) (rest := [vR (10, 0, 0)]) rfl rfl rfl (exX10_in (d := d + 4) hv) ?_
    show Ex (d + 5) kX10_press 14 [some (vR (10, 0, 0)), some (vI a0)] [vI v10, vR (10, 0, 0)] q9.2 _
    refine Ex.ifc rfl ?_
    by_cases hc : v10 = 0
    · rw [if_pos hc] at h
      rw [brI_ne_p hc]
      show Ex (d + 5) kX10_press 17 [some (vR (10, 0, 0)), some (vI a0)] [vR (10, 0, 0)] q9.2 _
      refine Ex.go 2 (pc' := 22) (ls' := [some (vR (10, 0, 0)), some (vI a0)]) (st' := [vI 1, vR (10, 0, 0)]) (hp' := q9.2) (fun _ => rfl) ?_
      exact exX10_press_22 h
    · rw [if_neg hc] at h
      rw [brI_ne_n hc]
      show Ex (d + 5) kX10_press 21 [some (vR (10, 0, 0)), some (vI a0)] [vR (10, 0, 0)] q9.2 _
      refine Ex.go 1 (pc' := 22) (ls' := [some (vR (10, 0, 0)), some (vI a0)]) (st' := [vI 0, vR (10, 0, 0)]) (hp' := q9.2) (fun _ => rfl) ?_
      exact exX10_press_22 h
  · rw [if_neg hc] at h
    rw [brI_ne_n hc]
    show Ex (d + 5) kX10_press 29 [some (vR (10, 0, 0)), some (vI a0)] [] q9.2 _
    refine Ex.go 1 (pc' := 30) (ls' := [some (vR (10, 0, 0)), some (vI a0)]) (st' := [vI 0]) (hp' := q9.2) (fun _ => rfl) ?_
    cases h
    exact Ex.ret rfl rfl rfl
def fX10_type (a0 : Int32) (hp : HP) : Option (Int32 × HP) := (fX10_noBytes a0 hp).bind fun q2 => if q2.1 = 0 then ((fX10_keepsAll q2.2).bind fun hp5 => (fX10_typesAll a0 (up hp5 (10, 0, 0) 11 0)).bind fun q7 => some (q7.1, q7.2)) else (some (0, q2.2))
theorem exX10_type {d : Nat} {a0 : Int32} {hp : HP} {v : (Int32 × HP)} (h : fX10_type a0 hp = some v) : Calls (d + 8) 277 [vR (10, 0, 0), vI a0] hp (rsI v.1 v.2) := by
  replace h : ((fX10_noBytes a0 hp).bind fun q2 => if q2.1 = 0 then ((fX10_keepsAll q2.2).bind fun hp5 => (fX10_typesAll a0 (up hp5 (10, 0, 0) 11 0)).bind fun q7 => some (q7.1, q7.2)) else (some (0, q2.2))) = some v := h
  show Ex (d + 8) kX10_type 0 [some (vR (10, 0, 0)), some (vI a0)] [] hp _
  refine Ex.go 2 (pc' := 2) (ls' := [some (vR (10, 0, 0)), some (vI a0)]) (st' := [vI a0, vR (10, 0, 0)]) (hp' := hp) (fun _ => rfl) ?_
  obtain ⟨q2, hv, h⟩ := Option.bind_eq_some_iff.mp h
  refine Ex.call (args := [vR (10, 0, 0), vI a0]) (rest := []) rfl rfl rfl (exX10_noBytes (d := d + 5) hv) ?_
  show Ex (d + 8) kX10_type 5 [some (vR (10, 0, 0)), some (vI a0)] [vI q2.1] q2.2 _
  refine Ex.ifc rfl ?_
  by_cases hc : q2.1 = 0
  · rw [if_pos hc] at h
    rw [brI_eq_p hc]
    show Ex (d + 8) kX10_type 10 [some (vR (10, 0, 0)), some (vI a0)] [] q2.2 _
    refine Ex.go 1 (pc' := 11) (ls' := [some (vR (10, 0, 0)), some (vI a0)]) (st' := [vR (10, 0, 0)]) (hp' := q2.2) (fun _ => rfl) ?_
    obtain ⟨hp5, hv, h⟩ := Option.bind_eq_some_iff.mp h
    refine Ex.call (args := [vR (10, 0, 0)]) (rest := []) rfl rfl rfl (exX10_keepsAll (d := d + 6) hv) ?_
    show Ex (d + 8) kX10_type 14 [some (vR (10, 0, 0)), some (vI a0)] [] hp5 _
    refine Ex.go 5 (pc' := 21) (ls' := [some (vR (10, 0, 0)), some (vI a0)]) (st' := [vI a0, vR (10, 0, 0)]) (hp' := (up hp5 (10, 0, 0) 11 0)) (fun _ => rfl) ?_
    obtain ⟨q7, hv, h⟩ := Option.bind_eq_some_iff.mp h
    refine Ex.call (args := [vR (10, 0, 0), vI a0]) (rest := []) rfl rfl rfl (exX10_typesAll (d := d + 0) hv) ?_
    show Ex (d + 8) kX10_type 24 [some (vR (10, 0, 0)), some (vI a0)] [vI q7.1] q7.2 _
    cases h
    exact Ex.ret rfl rfl rfl
  · rw [if_neg hc] at h
    rw [brI_eq_n hc]
    show Ex (d + 8) kX10_type 8 [some (vR (10, 0, 0)), some (vI a0)] [] q2.2 _
    refine Ex.go 1 (pc' := 9) (ls' := [some (vR (10, 0, 0)), some (vI a0)]) (st' := [vI 0]) (hp' := q2.2) (fun _ => rfl) ?_
    cases h
    exact Ex.ret rfl rfl rfl
def fX10_setStop_52 (x1 : Int32) (x2 : Int32) (y0 : Int32) (hp : HP) : Option (Int32 × HP) := (fX10_flag x2 hp).bind fun v1 => if inb (90 + x1) (alen (11, 22, 0)) = true then (if isB y0 = true then some (y0, (up hp (11, 22, 0) ((90 + x1).toNatClampNeg) v1)) else none) else none
theorem exX10_setStop_52 {d : Nat} {x1 : Int32} {x2 : Int32} {y0 : Int32} {j3 : Option VL} {hp : HP} {v : (Int32 × HP)} (h : fX10_setStop_52 x1 x2 y0 hp = some v) : Ex (d + 2) kX10_setStop 52 [some (vR (10, 0, 0)), some (vI x1), some (vI x2), j3] [vI y0] hp (rsI v.1 v.2) := by
  replace h : ((fX10_flag x2 hp).bind fun v1 => if inb (90 + x1) (alen (11, 22, 0)) = true then (if isB y0 = true then some (y0, (up hp (11, 22, 0) ((90 + x1).toNatClampNeg) v1)) else none) else none) = some v := h
  refine Ex.go 7 (pc' := 62) (ls' := [some (vR (10, 0, 0)), some (vI x1), some (vI x2), some (vI y0)]) (st' := [vI x2, vI (90 + x1), vR (11, 22, 0)]) (hp' := hp) (fun _ => rfl) ?_
  obtain ⟨v1, hv, h⟩ := Option.bind_eq_some_iff.mp h
  refine Ex.call (args := [vI x2]) (rest := [vI (90 + x1), vR (11, 22, 0)]) rfl rfl rfl (exX10_flag (d := d + 1) hv) ?_
  show Ex (d + 2) kX10_setStop 65 [some (vR (10, 0, 0)), some (vI x1), some (vI x2), some (vI y0)] [vI v1, vI (90 + x1), vR (11, 22, 0)] hp _
  by_cases hc : inb (90 + x1) (alen (11, 22, 0)) = true
  · rw [if_pos hc] at h
    refine Ex.iast rfl rfl hc rfl ?_
    show Ex (d + 2) kX10_setStop 66 [some (vR (10, 0, 0)), some (vI x1), some (vI x2), some (vI y0)] [] (up hp (11, 22, 0) ((90 + x1).toNatClampNeg) v1) _
    refine Ex.go 1 (pc' := 67) (ls' := [some (vR (10, 0, 0)), some (vI x1), some (vI x2), some (vI y0)]) (st' := [vI y0]) (hp' := (up hp (11, 22, 0) ((90 + x1).toNatClampNeg) v1)) (fun _ => rfl) ?_
    by_cases hc : isB y0 = true
    · rw [if_pos hc] at h
      cases h
      exact Ex.retz rfl hc rfl
    · rw [if_neg hc] at h
      cases h
  · rw [if_neg hc] at h
    cases h
def fX10_setStop_21 (x1 : Int32) (x2 : Int32) (y1 : Int32) (hp : HP) : Option (Int32 × HP) := (fX10_refuse y1 2 hp).bind fun q3 => if q3.1 = 0 then ((fX10_keepsAll q3.2).bind fun hp6 => if inb (90 + x1) (alen (11, 22, 0)) = true then (if (hp6 (11, 22, 0) (90 + x1).toNatClampNeg) = 1 then (fX10_setStop_52 x1 x2 1 hp6) else (fX10_setStop_52 x1 x2 0 hp6)) else none) else (some (0, q3.2))
theorem exX10_setStop_21 {d : Nat} {x1 : Int32} {x2 : Int32} {y1 : Int32} {j3 : Option VL} {hp : HP} {v : (Int32 × HP)} (h : fX10_setStop_21 x1 x2 y1 hp = some v) : Ex (d + 2) kX10_setStop 21 [some (vR (10, 0, 0)), some (vI x1), some (vI x2), j3] [vI y1, vR (10, 0, 0)] hp (rsI v.1 v.2) := by
  replace h : ((fX10_refuse y1 2 hp).bind fun q3 => if q3.1 = 0 then ((fX10_keepsAll q3.2).bind fun hp6 => if inb (90 + x1) (alen (11, 22, 0)) = true then (if (hp6 (11, 22, 0) (90 + x1).toNatClampNeg) = 1 then (fX10_setStop_52 x1 x2 1 hp6) else (fX10_setStop_52 x1 x2 0 hp6)) else none) else (some (0, q3.2))) = some v := h
  refine Ex.go 1 (pc' := 22) (ls' := [some (vR (10, 0, 0)), some (vI x1), some (vI x2), j3]) (st' := [vI 2, vI y1, vR (10, 0, 0)]) (hp' := hp) (fun _ => rfl) ?_
  obtain ⟨q3, hv, h⟩ := Option.bind_eq_some_iff.mp h
  refine Ex.call (args := [vR (10, 0, 0), vI y1, vI 2]) (rest := []) rfl rfl rfl (exX10_refuse (d := d + 1) hv) ?_
  show Ex (d + 2) kX10_setStop 25 [some (vR (10, 0, 0)), some (vI x1), some (vI x2), j3] [vI q3.1] q3.2 _
  refine Ex.ifc rfl ?_
  by_cases hc : q3.1 = 0
  · rw [if_pos hc] at h
    rw [brI_eq_p hc]
    show Ex (d + 2) kX10_setStop 30 [some (vR (10, 0, 0)), some (vI x1), some (vI x2), j3] [] q3.2 _
    refine Ex.go 1 (pc' := 31) (ls' := [some (vR (10, 0, 0)), some (vI x1), some (vI x2), j3]) (st' := [vR (10, 0, 0)]) (hp' := q3.2) (fun _ => rfl) ?_
    obtain ⟨hp6, hv, h⟩ := Option.bind_eq_some_iff.mp h
    refine Ex.call (args := [vR (10, 0, 0)]) (rest := []) rfl rfl rfl (exX10_keepsAll (d := d + 0) hv) ?_
    show Ex (d + 2) kX10_setStop 34 [some (vR (10, 0, 0)), some (vI x1), some (vI x2), j3] [] hp6 _
    refine Ex.go 5 (pc' := 42) (ls' := [some (vR (10, 0, 0)), some (vI x1), some (vI x2), j3]) (st' := [vI (90 + x1), vR (11, 22, 0)]) (hp' := hp6) (fun _ => rfl) ?_
    by_cases hc : inb (90 + x1) (alen (11, 22, 0)) = true
    · rw [if_pos hc] at h
      refine Ex.iald rfl rfl hc rfl ?_
      show Ex (d + 2) kX10_setStop 43 [some (vR (10, 0, 0)), some (vI x1), some (vI x2), j3] [vI (hp6 (11, 22, 0) (90 + x1).toNatClampNeg)] hp6 _
      refine Ex.go 1 (pc' := 44) (ls' := [some (vR (10, 0, 0)), some (vI x1), some (vI x2), j3]) (st' := [vI 1, vI (hp6 (11, 22, 0) (90 + x1).toNatClampNeg)]) (hp' := hp6) (fun _ => rfl) ?_
      refine Ex.icmp rfl ?_
      by_cases hc : (hp6 (11, 22, 0) (90 + x1).toNatClampNeg) = 1
      · rw [if_pos hc] at h
        rw [brI_ne_p hc]
        show Ex (d + 2) kX10_setStop 47 [some (vR (10, 0, 0)), some (vI x1), some (vI x2), j3] [] hp6 _
        refine Ex.go 2 (pc' := 52) (ls' := [some (vR (10, 0, 0)), some (vI x1), some (vI x2), j3]) (st' := [vI 1]) (hp' := hp6) (fun _ => rfl) ?_
        exact exX10_setStop_52 h
      · rw [if_neg hc] at h
        rw [brI_ne_n hc]
        show Ex (d + 2) kX10_setStop 51 [some (vR (10, 0, 0)), some (vI x1), some (vI x2), j3] [] hp6 _
        refine Ex.go 1 (pc' := 52) (ls' := [some (vR (10, 0, 0)), some (vI x1), some (vI x2), j3]) (st' := [vI 0]) (hp' := hp6) (fun _ => rfl) ?_
        exact exX10_setStop_52 h
    · rw [if_neg hc] at h
      cases h
  · rw [if_neg hc] at h
    rw [brI_eq_n hc]
    show Ex (d + 2) kX10_setStop 28 [some (vR (10, 0, 0)), some (vI x1), some (vI x2), j3] [] q3.2 _
    refine Ex.go 1 (pc' := 29) (ls' := [some (vR (10, 0, 0)), some (vI x1), some (vI x2), j3]) (st' := [vI 0]) (hp' := q3.2) (fun _ => rfl) ?_
    cases h
    exact Ex.ret rfl rfl rfl
def fX10_setStop (a0 : Int32) (a1 : Int32) (hp : HP) : Option (Int32 × HP) := (fX10_notLoaded hp).bind fun q8 => if q8.1 = 0 then ((fX10_isColumn a0 q8.2).bind fun v9 => if v9 = 0 then (fX10_setStop_21 a0 a1 1 q8.2) else (fX10_setStop_21 a0 a1 0 q8.2)) else (some (0, q8.2))
theorem exX10_setStop {d : Nat} {a0 : Int32} {a1 : Int32} {hp : HP} {v : (Int32 × HP)} (h : fX10_setStop a0 a1 hp = some v) : Calls (d + 2) 278 [vR (10, 0, 0), vI a0, vI a1] hp (rsI v.1 v.2) := by
  replace h : ((fX10_notLoaded hp).bind fun q8 => if q8.1 = 0 then ((fX10_isColumn a0 q8.2).bind fun v9 => if v9 = 0 then (fX10_setStop_21 a0 a1 1 q8.2) else (fX10_setStop_21 a0 a1 0 q8.2)) else (some (0, q8.2))) = some v := h
  show Ex (d + 2) kX10_setStop 0 [some (vR (10, 0, 0)), some (vI a0), some (vI a1), none] [] hp _
  refine Ex.go 1 (pc' := 1) (ls' := [some (vR (10, 0, 0)), some (vI a0), some (vI a1), none]) (st' := [vR (10, 0, 0)]) (hp' := hp) (fun _ => rfl) ?_
  obtain ⟨q8, hv, h⟩ := Option.bind_eq_some_iff.mp h
  refine Ex.call (args := [vR (10, 0, 0)]) (rest := []) rfl rfl rfl (exX10_notLoaded (d := d + 0) hv) ?_
  show Ex (d + 2) kX10_setStop 4 [some (vR (10, 0, 0)), some (vI a0), some (vI a1), none] [vI q8.1] q8.2 _
  refine Ex.ifc rfl ?_
  by_cases hc : q8.1 = 0
  · rw [if_pos hc] at h
    rw [brI_ne_p hc]
    show Ex (d + 2) kX10_setStop 7 [some (vR (10, 0, 0)), some (vI a0), some (vI a1), none] [] q8.2 _
    refine Ex.go 3 (pc' := 10) (ls' := [some (vR (10, 0, 0)), some (vI a0), some (vI a1), none]) (st' := [vI a0, vR (10, 0, 0), vR (10, 0, 0)]) (hp' := q8.2) (fun _ => rfl) ?_
    obtain ⟨v9, hv, h⟩ := Option.bind_eq_some_iff.mp h
    refine Ex.call (args := [vR (10, 0, 0), vI a0]) (rest := [vR (10, 0, 0)]) rfl rfl rfl (exX10_isColumn (d := d + 0) hv) ?_
    show Ex (d + 2) kX10_setStop 13 [some (vR (10, 0, 0)), some (vI a0), some (vI a1), none] [vI v9, vR (10, 0, 0)] q8.2 _
    refine Ex.ifc rfl ?_
    by_cases hc : v9 = 0
    · rw [if_pos hc] at h
      rw [brI_ne_p hc]
      show Ex (d + 2) kX10_setStop 16 [some (vR (10, 0, 0)), some (vI a0), some (vI a1), none] [vR (10, 0, 0)] q8.2 _
      refine Ex.go 2 (pc' := 21) (ls' := [some (vR (10, 0, 0)), some (vI a0), some (vI a1), none]) (st' := [vI 1, vR (10, 0, 0)]) (hp' := q8.2) (fun _ => rfl) ?_
      exact exX10_setStop_21 h
    · rw [if_neg hc] at h
      rw [brI_ne_n hc]
      show Ex (d + 2) kX10_setStop 20 [some (vR (10, 0, 0)), some (vI a0), some (vI a1), none] [vR (10, 0, 0)] q8.2 _
      refine Ex.go 1 (pc' := 21) (ls' := [some (vR (10, 0, 0)), some (vI a0), some (vI a1), none]) (st' := [vI 0, vR (10, 0, 0)]) (hp' := q8.2) (fun _ => rfl) ?_
      exact exX10_setStop_21 h
  · rw [if_neg hc] at h
    rw [brI_ne_n hc]
    show Ex (d + 2) kX10_setStop 28 [some (vR (10, 0, 0)), some (vI a0), some (vI a1), none] [] q8.2 _
    refine Ex.go 1 (pc' := 29) (ls' := [some (vR (10, 0, 0)), some (vI a0), some (vI a1), none]) (st' := [vI 0]) (hp' := q8.2) (fun _ => rfl) ?_
    cases h
    exact Ex.ret rfl rfl rfl
def fX10_replaces (a0 : Int32) (a1 : Int32) (hp : HP) : Option (Int32 × HP) := (fX10_keepsAll hp).bind fun hp3 => (fX10_its a0 hp3).bind fun v4 => (fX10_puts a0 a1 hp3).bind fun hp7 => some (v4, hp7)
theorem exX10_replaces {d : Nat} {a0 : Int32} {a1 : Int32} {hp : HP} {v : (Int32 × HP)} (h : fX10_replaces a0 a1 hp = some v) : Calls (d + 2) 279 [vR (10, 0, 0), vI a0, vI a1] hp (rsI v.1 v.2) := by
  replace h : ((fX10_keepsAll hp).bind fun hp3 => (fX10_its a0 hp3).bind fun v4 => (fX10_puts a0 a1 hp3).bind fun hp7 => some (v4, hp7)) = some v := h
  show Ex (d + 2) kX10_replaces 0 [some (vR (10, 0, 0)), some (vI a0), some (vI a1), none] [] hp _
  refine Ex.go 1 (pc' := 1) (ls' := [some (vR (10, 0, 0)), some (vI a0), some (vI a1), none]) (st' := [vR (10, 0, 0)]) (hp' := hp) (fun _ => rfl) ?_
  obtain ⟨hp3, hv, h⟩ := Option.bind_eq_some_iff.mp h
  refine Ex.call (args := [vR (10, 0, 0)]) (rest := []) rfl rfl rfl (exX10_keepsAll (d := d + 0) hv) ?_
  show Ex (d + 2) kX10_replaces 4 [some (vR (10, 0, 0)), some (vI a0), some (vI a1), none] [] hp3 _
  refine Ex.go 2 (pc' := 6) (ls' := [some (vR (10, 0, 0)), some (vI a0), some (vI a1), none]) (st' := [vI a0, vR (10, 0, 0)]) (hp' := hp3) (fun _ => rfl) ?_
  obtain ⟨v4, hv, h⟩ := Option.bind_eq_some_iff.mp h
  refine Ex.call (args := [vR (10, 0, 0), vI a0]) (rest := []) rfl rfl rfl (exX10_its (d := d + 1) hv) ?_
  show Ex (d + 2) kX10_replaces 9 [some (vR (10, 0, 0)), some (vI a0), some (vI a1), none] [vI v4] hp3 _
  refine Ex.go 4 (pc' := 13) (ls' := [some (vR (10, 0, 0)), some (vI a0), some (vI a1), some (vI v4)]) (st' := [vI a1, vI a0, vR (10, 0, 0)]) (hp' := hp3) (fun _ => rfl) ?_
  obtain ⟨hp7, hv, h⟩ := Option.bind_eq_some_iff.mp h
  refine Ex.call (args := [vR (10, 0, 0), vI a0, vI a1]) (rest := []) rfl rfl rfl (exX10_puts (d := d + 1) hv) ?_
  show Ex (d + 2) kX10_replaces 16 [some (vR (10, 0, 0)), some (vI a0), some (vI a1), some (vI v4)] [] hp7 _
  refine Ex.go 1 (pc' := 17) (ls' := [some (vR (10, 0, 0)), some (vI a0), some (vI a1), some (vI v4)]) (st' := [vI v4]) (hp' := hp7) (fun _ => rfl) ?_
  cases h
  exact Ex.ret rfl rfl rfl
def fX10_setMargin_101 (x2 : Int32) (y1 : Int32) (hp : HP) : Option (Int32 × HP) := (fX10_replaces y1 x2 hp).bind fun q2 => some (q2.1, q2.2)
theorem exX10_setMargin_101 {d : Nat} {x2 : Int32} {y1 : Int32} {j1 : Option VL} {j3 : Option VL} {j4 : Option VL} {hp : HP} {v : (Int32 × HP)} (h : fX10_setMargin_101 x2 y1 hp = some v) : Ex (d + 3) kX10_setMargin 101 [some (vR (10, 0, 0)), j1, some (vI x2), j3, j4] [vI y1, vR (10, 0, 0)] hp (rsI v.1 v.2) := by
  replace h : ((fX10_replaces y1 x2 hp).bind fun q2 => some (q2.1, q2.2)) = some v := h
  refine Ex.go 1 (pc' := 102) (ls' := [some (vR (10, 0, 0)), j1, some (vI x2), j3, j4]) (st' := [vI x2, vI y1, vR (10, 0, 0)]) (hp' := hp) (fun _ => rfl) ?_
  obtain ⟨q2, hv, h⟩ := Option.bind_eq_some_iff.mp h
  refine Ex.call (args := [vR (10, 0, 0), vI y1, vI x2]) (rest := []) rfl rfl rfl (exX10_replaces (d := d + 0) hv) ?_
  show Ex (d + 3) kX10_setMargin 105 [some (vR (10, 0, 0)), j1, some (vI x2), j3, j4] [vI q2.1] q2.2 _
  cases h
  exact Ex.ret rfl rfl rfl
def fX10_setMargin_80 (x1 : Int32) (x2 : Int32) (y1 : Int32) (hp : HP) : Option (Int32 × HP) := (fX10_refuse y1 2 hp).bind fun q4 => if q4.1 = 0 then (if x1 = 0 then (fX10_setMargin_101 x2 2 q4.2) else (fX10_setMargin_101 x2 3 q4.2)) else (some (0, q4.2))
theorem exX10_setMargin_80 {d : Nat} {x1 : Int32} {x2 : Int32} {y1 : Int32} {j3 : Option VL} {j4 : Option VL} {hp : HP} {v : (Int32 × HP)} (h : fX10_setMargin_80 x1 x2 y1 hp = some v) : Ex (d + 3) kX10_setMargin 80 [some (vR (10, 0, 0)), some (vI x1), some (vI x2), j3, j4] [vI y1, vR (10, 0, 0)] hp (rsI v.1 v.2) := by
  replace h : ((fX10_refuse y1 2 hp).bind fun q4 => if q4.1 = 0 then (if x1 = 0 then (fX10_setMargin_101 x2 2 q4.2) else (fX10_setMargin_101 x2 3 q4.2)) else (some (0, q4.2))) = some v := h
  refine Ex.go 1 (pc' := 81) (ls' := [some (vR (10, 0, 0)), some (vI x1), some (vI x2), j3, j4]) (st' := [vI 2, vI y1, vR (10, 0, 0)]) (hp' := hp) (fun _ => rfl) ?_
  obtain ⟨q4, hv, h⟩ := Option.bind_eq_some_iff.mp h
  refine Ex.call (args := [vR (10, 0, 0), vI y1, vI 2]) (rest := []) rfl rfl rfl (exX10_refuse (d := d + 2) hv) ?_
  show Ex (d + 3) kX10_setMargin 84 [some (vR (10, 0, 0)), some (vI x1), some (vI x2), j3, j4] [vI q4.1] q4.2 _
  refine Ex.ifc rfl ?_
  by_cases hc : q4.1 = 0
  · rw [if_pos hc] at h
    rw [brI_eq_p hc]
    show Ex (d + 3) kX10_setMargin 91 [some (vR (10, 0, 0)), some (vI x1), some (vI x2), j3, j4] [] q4.2 _
    refine Ex.go 2 (pc' := 93) (ls' := [some (vR (10, 0, 0)), some (vI x1), some (vI x2), j3, j4]) (st' := [vI x1, vR (10, 0, 0)]) (hp' := q4.2) (fun _ => rfl) ?_
    refine Ex.ifc rfl ?_
    by_cases hc : x1 = 0
    · rw [if_pos hc] at h
      rw [brI_eq_p hc]
      show Ex (d + 3) kX10_setMargin 100 [some (vR (10, 0, 0)), some (vI x1), some (vI x2), j3, j4] [vR (10, 0, 0)] q4.2 _
      refine Ex.go 1 (pc' := 101) (ls' := [some (vR (10, 0, 0)), some (vI x1), some (vI x2), j3, j4]) (st' := [vI 2, vR (10, 0, 0)]) (hp' := q4.2) (fun _ => rfl) ?_
      exact exX10_setMargin_101 h
    · rw [if_neg hc] at h
      rw [brI_eq_n hc]
      show Ex (d + 3) kX10_setMargin 96 [some (vR (10, 0, 0)), some (vI x1), some (vI x2), j3, j4] [vR (10, 0, 0)] q4.2 _
      refine Ex.go 2 (pc' := 101) (ls' := [some (vR (10, 0, 0)), some (vI x1), some (vI x2), j3, j4]) (st' := [vI 3, vR (10, 0, 0)]) (hp' := q4.2) (fun _ => rfl) ?_
      exact exX10_setMargin_101 h
  · rw [if_neg hc] at h
    rw [brI_eq_n hc]
    show Ex (d + 3) kX10_setMargin 87 [some (vR (10, 0, 0)), some (vI x1), some (vI x2), j3, j4] [] q4.2 _
    refine Ex.go 2 (pc' := 105) (ls' := [some (vR (10, 0, 0)), some (vI x1), some (vI x2), j3, j4]) (st' := [vI 0]) (hp' := q4.2) (fun _ => rfl) ?_
    cases h
    exact Ex.ret rfl rfl rfl
def fX10_setMargin_62 (x1 : Int32) (x2 : Int32) (x3 : Int32) (y0 : Int32) (hp : HP) : Option (Int32 × HP) := (fX10_in x2 x3 y0 hp).bind fun v5 => if v5 = 0 then (fX10_setMargin_80 x1 x2 1 hp) else (fX10_setMargin_80 x1 x2 0 hp)
theorem exX10_setMargin_62 {d : Nat} {x1 : Int32} {x2 : Int32} {x3 : Int32} {y0 : Int32} {j4 : Option VL} {hp : HP} {v : (Int32 × HP)} (h : fX10_setMargin_62 x1 x2 x3 y0 hp = some v) : Ex (d + 3) kX10_setMargin 62 [some (vR (10, 0, 0)), some (vI x1), some (vI x2), some (vI x3), j4] [vI y0] hp (rsI v.1 v.2) := by
  replace h : ((fX10_in x2 x3 y0 hp).bind fun v5 => if v5 = 0 then (fX10_setMargin_80 x1 x2 1 hp) else (fX10_setMargin_80 x1 x2 0 hp)) = some v := h
  refine Ex.go 5 (pc' := 69) (ls' := [some (vR (10, 0, 0)), some (vI x1), some (vI x2), some (vI x3), some (vI y0)]) (st' := [vI y0, vI x3, vI x2, vR (10, 0, 0)]) (hp' := hp) (fun _ => rfl) ?_
  obtain ⟨v5, hv, h⟩ := Option.bind_eq_some_iff.mp h
  refine Ex.call (args := [vI x2, vI x3, vI y0]) (rest := [vR (10, 0, 0)]) rfl rfl rfl (exX10_in (d := d + 2) hv) ?_
  show Ex (d + 3) kX10_setMargin 72 [some (vR (10, 0, 0)), some (vI x1), some (vI x2), some (vI x3), some (vI y0)] [vI v5, vR (10, 0, 0)] hp _
  refine Ex.ifc rfl ?_
  by_cases hc : v5 = 0
  · rw [if_pos hc] at h
    rw [brI_ne_p hc]
    show Ex (d + 3) kX10_setMargin 75 [some (vR (10, 0, 0)), some (vI x1), some (vI x2), some (vI x3), some (vI y0)] [vR (10, 0, 0)] hp _
    refine Ex.go 2 (pc' := 80) (ls' := [some (vR (10, 0, 0)), some (vI x1), some (vI x2), some (vI x3), some (vI y0)]) (st' := [vI 1, vR (10, 0, 0)]) (hp' := hp) (fun _ => rfl) ?_
    exact exX10_setMargin_80 h
  · rw [if_neg hc] at h
    rw [brI_ne_n hc]
    show Ex (d + 3) kX10_setMargin 79 [some (vR (10, 0, 0)), some (vI x1), some (vI x2), some (vI x3), some (vI y0)] [vR (10, 0, 0)] hp _
    refine Ex.go 1 (pc' := 80) (ls' := [some (vR (10, 0, 0)), some (vI x1), some (vI x2), some (vI x3), some (vI y0)]) (st' := [vI 0, vR (10, 0, 0)]) (hp' := hp) (fun _ => rfl) ?_
    exact exX10_setMargin_80 h
def fX10_setMargin_32 (x1 : Int32) (x2 : Int32) (y0 : Int32) (hp : HP) : Option (Int32 × HP) := if x1 = 0 then ((fX10_its 3 hp).bind fun v6 => (fX10_its 4 hp).bind fun v7 => fX10_setMargin_62 x1 x2 y0 (v6 - (imax 1 v7)) hp) else ((fX10_its 0 hp).bind fun v8 => fX10_setMargin_62 x1 x2 y0 (v8 - 1) hp)
theorem exX10_setMargin_32 {d : Nat} {x1 : Int32} {x2 : Int32} {y0 : Int32} {j3 : Option VL} {j4 : Option VL} {hp : HP} {v : (Int32 × HP)} (h : fX10_setMargin_32 x1 x2 y0 hp = some v) : Ex (d + 3) kX10_setMargin 32 [some (vR (10, 0, 0)), some (vI x1), some (vI x2), j3, j4] [vI y0] hp (rsI v.1 v.2) := by
  replace h : (if x1 = 0 then ((fX10_its 3 hp).bind fun v6 => (fX10_its 4 hp).bind fun v7 => fX10_setMargin_62 x1 x2 y0 (v6 - (imax 1 v7)) hp) else ((fX10_its 0 hp).bind fun v8 => fX10_setMargin_62 x1 x2 y0 (v8 - 1) hp)) = some v := h
  refine Ex.go 2 (pc' := 34) (ls' := [some (vR (10, 0, 0)), some (vI x1), some (vI x2), some (vI y0), j4]) (st' := [vI x1]) (hp' := hp) (fun _ => rfl) ?_
  refine Ex.ifc rfl ?_
  by_cases hc : x1 = 0
  · rw [if_pos hc] at h
    rw [brI_eq_p hc]
    show Ex (d + 3) kX10_setMargin 47 [some (vR (10, 0, 0)), some (vI x1), some (vI x2), some (vI y0), j4] [] hp _
    refine Ex.go 2 (pc' := 49) (ls' := [some (vR (10, 0, 0)), some (vI x1), some (vI x2), some (vI y0), j4]) (st' := [vI 3, vR (10, 0, 0)]) (hp' := hp) (fun _ => rfl) ?_
    obtain ⟨v6, hv, h⟩ := Option.bind_eq_some_iff.mp h
    refine Ex.call (args := [vR (10, 0, 0), vI 3]) (rest := []) rfl rfl rfl (exX10_its (d := d + 2) hv) ?_
    show Ex (d + 3) kX10_setMargin 52 [some (vR (10, 0, 0)), some (vI x1), some (vI x2), some (vI y0), j4] [vI v6] hp _
    refine Ex.go 3 (pc' := 55) (ls' := [some (vR (10, 0, 0)), some (vI x1), some (vI x2), some (vI y0), j4]) (st' := [vI 4, vR (10, 0, 0), vI 1, vI v6]) (hp' := hp) (fun _ => rfl) ?_
    obtain ⟨v7, hv, h⟩ := Option.bind_eq_some_iff.mp h
    refine Ex.call (args := [vR (10, 0, 0), vI 4]) (rest := [vI 1, vI v6]) rfl rfl rfl (exX10_its (d := d + 2) hv) ?_
    show Ex (d + 3) kX10_setMargin 58 [some (vR (10, 0, 0)), some (vI x1), some (vI x2), some (vI y0), j4] [vI v7, vI 1, vI v6] hp _
    refine Ex.go 2 (pc' := 62) (ls' := [some (vR (10, 0, 0)), some (vI x1), some (vI x2), some (vI y0), j4]) (st' := [vI (v6 - (imax 1 v7))]) (hp' := hp) (fun _ => rfl) ?_
    exact exX10_setMargin_62 h
  · rw [if_neg hc] at h
    rw [brI_eq_n hc]
    show Ex (d + 3) kX10_setMargin 37 [some (vR (10, 0, 0)), some (vI x1), some (vI x2), some (vI y0), j4] [] hp _
    refine Ex.go 2 (pc' := 39) (ls' := [some (vR (10, 0, 0)), some (vI x1), some (vI x2), some (vI y0), j4]) (st' := [vI 0, vR (10, 0, 0)]) (hp' := hp) (fun _ => rfl) ?_
    obtain ⟨v8, hv, h⟩ := Option.bind_eq_some_iff.mp h
    refine Ex.call (args := [vR (10, 0, 0), vI 0]) (rest := []) rfl rfl rfl (exX10_its (d := d + 2) hv) ?_
    show Ex (d + 3) kX10_setMargin 42 [some (vR (10, 0, 0)), some (vI x1), some (vI x2), some (vI y0), j4] [vI v8] hp _
    refine Ex.go 3 (pc' := 62) (ls' := [some (vR (10, 0, 0)), some (vI x1), some (vI x2), some (vI y0), j4]) (st' := [vI (v8 - 1)]) (hp' := hp) (fun _ => rfl) ?_
    exact exX10_setMargin_62 h
def fX10_setMargin (a0 : Int32) (a1 : Int32) (hp : HP) : Option (Int32 × HP) := (fX10_notLoaded hp).bind fun q10 => if q10.1 = 0 then (if a0 = 0 then (fX10_setMargin_32 a0 a1 0 q10.2) else ((fX10_its 2 q10.2).bind fun v11 => (fX10_its 4 q10.2).bind fun v12 => fX10_setMargin_32 a0 a1 (v11 + (imax 1 v12)) q10.2)) else (some (0, q10.2))
theorem exX10_setMargin {d : Nat} {a0 : Int32} {a1 : Int32} {hp : HP} {v : (Int32 × HP)} (h : fX10_setMargin a0 a1 hp = some v) : Calls (d + 3) 280 [vR (10, 0, 0), vI a0, vI a1] hp (rsI v.1 v.2) := by
  replace h : ((fX10_notLoaded hp).bind fun q10 => if q10.1 = 0 then (if a0 = 0 then (fX10_setMargin_32 a0 a1 0 q10.2) else ((fX10_its 2 q10.2).bind fun v11 => (fX10_its 4 q10.2).bind fun v12 => fX10_setMargin_32 a0 a1 (v11 + (imax 1 v12)) q10.2)) else (some (0, q10.2))) = some v := h
  show Ex (d + 3) kX10_setMargin 0 [some (vR (10, 0, 0)), some (vI a0), some (vI a1), none, none] [] hp _
  refine Ex.go 1 (pc' := 1) (ls' := [some (vR (10, 0, 0)), some (vI a0), some (vI a1), none, none]) (st' := [vR (10, 0, 0)]) (hp' := hp) (fun _ => rfl) ?_
  obtain ⟨q10, hv, h⟩ := Option.bind_eq_some_iff.mp h
  refine Ex.call (args := [vR (10, 0, 0)]) (rest := []) rfl rfl rfl (exX10_notLoaded (d := d + 1) hv) ?_
  show Ex (d + 3) kX10_setMargin 4 [some (vR (10, 0, 0)), some (vI a0), some (vI a1), none, none] [vI q10.1] q10.2 _
  refine Ex.ifc rfl ?_
  by_cases hc : q10.1 = 0
  · rw [if_pos hc] at h
    rw [brI_eq_p hc]
    show Ex (d + 3) kX10_setMargin 9 [some (vR (10, 0, 0)), some (vI a0), some (vI a1), none, none] [] q10.2 _
    refine Ex.go 1 (pc' := 10) (ls' := [some (vR (10, 0, 0)), some (vI a0), some (vI a1), none, none]) (st' := [vI a0]) (hp' := q10.2) (fun _ => rfl) ?_
    refine Ex.ifc rfl ?_
    by_cases hc : a0 = 0
    · rw [if_pos hc] at h
      rw [brI_eq_p hc]
      show Ex (d + 3) kX10_setMargin 31 [some (vR (10, 0, 0)), some (vI a0), some (vI a1), none, none] [] q10.2 _
      refine Ex.go 1 (pc' := 32) (ls' := [some (vR (10, 0, 0)), some (vI a0), some (vI a1), none, none]) (st' := [vI 0]) (hp' := q10.2) (fun _ => rfl) ?_
      exact exX10_setMargin_32 h
    · rw [if_neg hc] at h
      rw [brI_eq_n hc]
      show Ex (d + 3) kX10_setMargin 13 [some (vR (10, 0, 0)), some (vI a0), some (vI a1), none, none] [] q10.2 _
      refine Ex.go 2 (pc' := 15) (ls' := [some (vR (10, 0, 0)), some (vI a0), some (vI a1), none, none]) (st' := [vI 2, vR (10, 0, 0)]) (hp' := q10.2) (fun _ => rfl) ?_
      obtain ⟨v11, hv, h⟩ := Option.bind_eq_some_iff.mp h
      refine Ex.call (args := [vR (10, 0, 0), vI 2]) (rest := []) rfl rfl rfl (exX10_its (d := d + 2) hv) ?_
      show Ex (d + 3) kX10_setMargin 18 [some (vR (10, 0, 0)), some (vI a0), some (vI a1), none, none] [vI v11] q10.2 _
      refine Ex.go 3 (pc' := 21) (ls' := [some (vR (10, 0, 0)), some (vI a0), some (vI a1), none, none]) (st' := [vI 4, vR (10, 0, 0), vI 1, vI v11]) (hp' := q10.2) (fun _ => rfl) ?_
      obtain ⟨v12, hv, h⟩ := Option.bind_eq_some_iff.mp h
      refine Ex.call (args := [vR (10, 0, 0), vI 4]) (rest := [vI 1, vI v11]) rfl rfl rfl (exX10_its (d := d + 2) hv) ?_
      show Ex (d + 3) kX10_setMargin 24 [some (vR (10, 0, 0)), some (vI a0), some (vI a1), none, none] [vI v12, vI 1, vI v11] q10.2 _
      refine Ex.go 3 (pc' := 32) (ls' := [some (vR (10, 0, 0)), some (vI a0), some (vI a1), none, none]) (st' := [vI (v11 + (imax 1 v12))]) (hp' := q10.2) (fun _ => rfl) ?_
      exact exX10_setMargin_32 h
  · rw [if_neg hc] at h
    rw [brI_eq_n hc]
    show Ex (d + 3) kX10_setMargin 7 [some (vR (10, 0, 0)), some (vI a0), some (vI a1), none, none] [] q10.2 _
    refine Ex.go 1 (pc' := 8) (ls' := [some (vR (10, 0, 0)), some (vI a0), some (vI a1), none, none]) (st' := [vI 0]) (hp' := q10.2) (fun _ => rfl) ?_
    cases h
    exact Ex.ret rfl rfl rfl
def fX10_maySet (a0 : Int32) (a1 : Int32) (hp : HP) : Option Int32 := if a0 = 4 then ((fX10_its 3 hp).bind fun v7 => (fX10_its 2 hp).bind fun v8 => (fX10_in a1 0 (v7 - v8) hp).bind fun v9 => if isB v9 = true then some v9 else none) else (if a0 = 5 then ((fX10_in a1 1 999 hp).bind fun v6 => if isB v6 = true then some v6 else none) else (if a0 = 6 then ((fX10_in a1 1 99 hp).bind fun v5 => if isB v5 = true then some v5 else none) else (if a0 = 7 then ((fX10_in a1 0 99 hp).bind fun v4 => if isB v4 = true then some v4 else none) else (if a0 = 8 then ((fX10_in a1 0 99 hp).bind fun v3 => if isB v3 = true then some v3 else none) else (if a0 = 9 then (some 0) else (if a0 = 10 then (some 0) else (if a0 = 11 then ((fX10_in a1 0 3 hp).bind fun v2 => if isB v2 = true then some v2 else none) else (if a0 = 12 then ((fX10_in a1 1 3 hp).bind fun v1 => if isB v1 = true then some v1 else none) else (some 0)))))))))
theorem exX10_maySet {d : Nat} {a0 : Int32} {a1 : Int32} {hp : HP} {v : Int32} (h : fX10_maySet a0 a1 hp = some v) : Calls (d + 1) 281 [vR (10, 0, 0), vI a0, vI a1] hp (rsI v hp) := by
  replace h : (if a0 = 4 then ((fX10_its 3 hp).bind fun v7 => (fX10_its 2 hp).bind fun v8 => (fX10_in a1 0 (v7 - v8) hp).bind fun v9 => if isB v9 = true then some v9 else none) else (if a0 = 5 then ((fX10_in a1 1 999 hp).bind fun v6 => if isB v6 = true then some v6 else none) else (if a0 = 6 then ((fX10_in a1 1 99 hp).bind fun v5 => if isB v5 = true then some v5 else none) else (if a0 = 7 then ((fX10_in a1 0 99 hp).bind fun v4 => if isB v4 = true then some v4 else none) else (if a0 = 8 then ((fX10_in a1 0 99 hp).bind fun v3 => if isB v3 = true then some v3 else none) else (if a0 = 9 then (some 0) else (if a0 = 10 then (some 0) else (if a0 = 11 then ((fX10_in a1 0 3 hp).bind fun v2 => if isB v2 = true then some v2 else none) else (if a0 = 12 then ((fX10_in a1 1 3 hp).bind fun v1 => if isB v1 = true then some v1 else none) else (some 0)))))))))) = some v := h
  show Ex (d + 1) kX10_maySet 0 [some (vR (10, 0, 0)), some (vI a0), some (vI a1)] [] hp _
  refine Ex.go 1 (pc' := 1) (ls' := [some (vR (10, 0, 0)), some (vI a0), some (vI a1)]) (st' := [vI a0]) (hp' := hp) (fun _ => rfl) ?_
  refine Ex.tsw rfl ?_
  refine sw_c (k := 4) rfl (fun hc => ?_) (fun hc => ?_)
  · rw [if_pos hc] at h
    show Ex (d + 1) kX10_maySet 52 [some (vR (10, 0, 0)), some (vI a0), some (vI a1)] [] hp _
    refine Ex.go 4 (pc' := 56) (ls' := [some (vR (10, 0, 0)), some (vI a0), some (vI a1)]) (st' := [vI 3, vR (10, 0, 0), vI 0, vI a1]) (hp' := hp) (fun _ => rfl) ?_
    obtain ⟨v10, hv, h⟩ := Option.bind_eq_some_iff.mp h
    refine Ex.call (args := [vR (10, 0, 0), vI 3]) (rest := [vI 0, vI a1]) rfl rfl rfl (exX10_its (d := d + 0) hv) ?_
    show Ex (d + 1) kX10_maySet 59 [some (vR (10, 0, 0)), some (vI a0), some (vI a1)] [vI v10, vI 0, vI a1] hp _
    refine Ex.go 2 (pc' := 61) (ls' := [some (vR (10, 0, 0)), some (vI a0), some (vI a1)]) (st' := [vI 2, vR (10, 0, 0), vI v10, vI 0, vI a1]) (hp' := hp) (fun _ => rfl) ?_
    obtain ⟨v11, hv, h⟩ := Option.bind_eq_some_iff.mp h
    refine Ex.call (args := [vR (10, 0, 0), vI 2]) (rest := [vI v10, vI 0, vI a1]) rfl rfl rfl (exX10_its (d := d + 0) hv) ?_
    show Ex (d + 1) kX10_maySet 64 [some (vR (10, 0, 0)), some (vI a0), some (vI a1)] [vI v11, vI v10, vI 0, vI a1] hp _
    refine Ex.go 1 (pc' := 65) (ls' := [some (vR (10, 0, 0)), some (vI a0), some (vI a1)]) (st' := [vI (v10 - v11), vI 0, vI a1]) (hp' := hp) (fun _ => rfl) ?_
    obtain ⟨v12, hv, h⟩ := Option.bind_eq_some_iff.mp h
    refine Ex.call (args := [vI a1, vI 0, vI (v10 - v11)]) (rest := []) rfl rfl rfl (exX10_in (d := d + 0) hv) ?_
    show Ex (d + 1) kX10_maySet 68 [some (vR (10, 0, 0)), some (vI a0), some (vI a1)] [vI v12] hp _
    by_cases hc : isB v12 = true
    · rw [if_pos hc] at h
      cases h
      exact Ex.retz rfl hc rfl
    · rw [if_neg hc] at h
      cases h
  rw [if_neg hc] at h
  refine sw_c (k := 5) rfl (fun hc => ?_) (fun hc => ?_)
  · rw [if_pos hc] at h
    show Ex (d + 1) kX10_maySet 69 [some (vR (10, 0, 0)), some (vI a0), some (vI a1)] [] hp _
    refine Ex.go 3 (pc' := 74) (ls' := [some (vR (10, 0, 0)), some (vI a0), some (vI a1)]) (st' := [vI 999, vI 1, vI a1]) (hp' := hp) (fun _ => rfl) ?_
    obtain ⟨v13, hv, h⟩ := Option.bind_eq_some_iff.mp h
    refine Ex.call (args := [vI a1, vI 1, vI 999]) (rest := []) rfl rfl rfl (exX10_in (d := d + 0) hv) ?_
    show Ex (d + 1) kX10_maySet 77 [some (vR (10, 0, 0)), some (vI a0), some (vI a1)] [vI v13] hp _
    by_cases hc : isB v13 = true
    · rw [if_pos hc] at h
      cases h
      exact Ex.retz rfl hc rfl
    · rw [if_neg hc] at h
      cases h
  rw [if_neg hc] at h
  refine sw_c (k := 6) rfl (fun hc => ?_) (fun hc => ?_)
  · rw [if_pos hc] at h
    show Ex (d + 1) kX10_maySet 78 [some (vR (10, 0, 0)), some (vI a0), some (vI a1)] [] hp _
    refine Ex.go 3 (pc' := 82) (ls' := [some (vR (10, 0, 0)), some (vI a0), some (vI a1)]) (st' := [vI 99, vI 1, vI a1]) (hp' := hp) (fun _ => rfl) ?_
    obtain ⟨v14, hv, h⟩ := Option.bind_eq_some_iff.mp h
    refine Ex.call (args := [vI a1, vI 1, vI 99]) (rest := []) rfl rfl rfl (exX10_in (d := d + 0) hv) ?_
    show Ex (d + 1) kX10_maySet 85 [some (vR (10, 0, 0)), some (vI a0), some (vI a1)] [vI v14] hp _
    by_cases hc : isB v14 = true
    · rw [if_pos hc] at h
      cases h
      exact Ex.retz rfl hc rfl
    · rw [if_neg hc] at h
      cases h
  rw [if_neg hc] at h
  refine sw_c (k := 7) rfl (fun hc => ?_) (fun hc => ?_)
  · rw [if_pos hc] at h
    show Ex (d + 1) kX10_maySet 86 [some (vR (10, 0, 0)), some (vI a0), some (vI a1)] [] hp _
    refine Ex.go 3 (pc' := 90) (ls' := [some (vR (10, 0, 0)), some (vI a0), some (vI a1)]) (st' := [vI 99, vI 0, vI a1]) (hp' := hp) (fun _ => rfl) ?_
    obtain ⟨v15, hv, h⟩ := Option.bind_eq_some_iff.mp h
    refine Ex.call (args := [vI a1, vI 0, vI 99]) (rest := []) rfl rfl rfl (exX10_in (d := d + 0) hv) ?_
    show Ex (d + 1) kX10_maySet 93 [some (vR (10, 0, 0)), some (vI a0), some (vI a1)] [vI v15] hp _
    by_cases hc : isB v15 = true
    · rw [if_pos hc] at h
      cases h
      exact Ex.retz rfl hc rfl
    · rw [if_neg hc] at h
      cases h
  rw [if_neg hc] at h
  refine sw_c (k := 8) rfl (fun hc => ?_) (fun hc => ?_)
  · rw [if_pos hc] at h
    show Ex (d + 1) kX10_maySet 86 [some (vR (10, 0, 0)), some (vI a0), some (vI a1)] [] hp _
    refine Ex.go 3 (pc' := 90) (ls' := [some (vR (10, 0, 0)), some (vI a0), some (vI a1)]) (st' := [vI 99, vI 0, vI a1]) (hp' := hp) (fun _ => rfl) ?_
    obtain ⟨v16, hv, h⟩ := Option.bind_eq_some_iff.mp h
    refine Ex.call (args := [vI a1, vI 0, vI 99]) (rest := []) rfl rfl rfl (exX10_in (d := d + 0) hv) ?_
    show Ex (d + 1) kX10_maySet 93 [some (vR (10, 0, 0)), some (vI a0), some (vI a1)] [vI v16] hp _
    by_cases hc : isB v16 = true
    · rw [if_pos hc] at h
      cases h
      exact Ex.retz rfl hc rfl
    · rw [if_neg hc] at h
      cases h
  rw [if_neg hc] at h
  refine sw_c (k := 9) rfl (fun hc => ?_) (fun hc => ?_)
  · rw [if_pos hc] at h
    show Ex (d + 1) kX10_maySet 108 [some (vR (10, 0, 0)), some (vI a0), some (vI a1)] [] hp _
    refine Ex.go 1 (pc' := 109) (ls' := [some (vR (10, 0, 0)), some (vI a0), some (vI a1)]) (st' := [vI 0]) (hp' := hp) (fun _ => rfl) ?_
    cases h
    exact Ex.ret rfl rfl rfl
  rw [if_neg hc] at h
  refine sw_c (k := 10) rfl (fun hc => ?_) (fun hc => ?_)
  · rw [if_pos hc] at h
    show Ex (d + 1) kX10_maySet 108 [some (vR (10, 0, 0)), some (vI a0), some (vI a1)] [] hp _
    refine Ex.go 1 (pc' := 109) (ls' := [some (vR (10, 0, 0)), some (vI a0), some (vI a1)]) (st' := [vI 0]) (hp' := hp) (fun _ => rfl) ?_
    cases h
    exact Ex.ret rfl rfl rfl
  rw [if_neg hc] at h
  refine sw_c (k := 11) rfl (fun hc => ?_) (fun hc => ?_)
  · rw [if_pos hc] at h
    show Ex (d + 1) kX10_maySet 94 [some (vR (10, 0, 0)), some (vI a0), some (vI a1)] [] hp _
    refine Ex.go 3 (pc' := 97) (ls' := [some (vR (10, 0, 0)), some (vI a0), some (vI a1)]) (st' := [vI 3, vI 0, vI a1]) (hp' := hp) (fun _ => rfl) ?_
    obtain ⟨v17, hv, h⟩ := Option.bind_eq_some_iff.mp h
    refine Ex.call (args := [vI a1, vI 0, vI 3]) (rest := []) rfl rfl rfl (exX10_in (d := d + 0) hv) ?_
    show Ex (d + 1) kX10_maySet 100 [some (vR (10, 0, 0)), some (vI a0), some (vI a1)] [vI v17] hp _
    by_cases hc : isB v17 = true
    · rw [if_pos hc] at h
      cases h
      exact Ex.retz rfl hc rfl
    · rw [if_neg hc] at h
      cases h
  rw [if_neg hc] at h
  refine sw_c (k := 12) rfl (fun hc => ?_) (fun hc => ?_)
  · rw [if_pos hc] at h
    show Ex (d + 1) kX10_maySet 101 [some (vR (10, 0, 0)), some (vI a0), some (vI a1)] [] hp _
    refine Ex.go 3 (pc' := 104) (ls' := [some (vR (10, 0, 0)), some (vI a0), some (vI a1)]) (st' := [vI 3, vI 1, vI a1]) (hp' := hp) (fun _ => rfl) ?_
    obtain ⟨v18, hv, h⟩ := Option.bind_eq_some_iff.mp h
    refine Ex.call (args := [vI a1, vI 1, vI 3]) (rest := []) rfl rfl rfl (exX10_in (d := d + 0) hv) ?_
    show Ex (d + 1) kX10_maySet 107 [some (vR (10, 0, 0)), some (vI a0), some (vI a1)] [vI v18] hp _
    by_cases hc : isB v18 = true
    · rw [if_pos hc] at h
      cases h
      exact Ex.retz rfl hc rfl
    · rw [if_neg hc] at h
      cases h
  rw [if_neg hc] at h
  show Ex (d + 1) kX10_maySet 108 [some (vR (10, 0, 0)), some (vI a0), some (vI a1)] [] hp _
  refine Ex.go 1 (pc' := 109) (ls' := [some (vR (10, 0, 0)), some (vI a0), some (vI a1)]) (st' := [vI 0]) (hp' := hp) (fun _ => rfl) ?_
  cases h
  exact Ex.ret rfl rfl rfl
def fX10_set_22 (x1 : Int32) (x2 : Int32) (y1 : Int32) (hp : HP) : Option (Int32 × HP) := (fX10_refuse y1 2 hp).bind fun q2 => if q2.1 = 0 then ((fX10_replaces x1 x2 q2.2).bind fun q4 => some (q4.1, q4.2)) else (some (0, q2.2))
theorem exX10_set_22 {d : Nat} {x1 : Int32} {x2 : Int32} {y1 : Int32} {hp : HP} {v : (Int32 × HP)} (h : fX10_set_22 x1 x2 y1 hp = some v) : Ex (d + 3) kX10_set 22 [some (vR (10, 0, 0)), some (vI x1), some (vI x2)] [vI y1, vR (10, 0, 0)] hp (rsI v.1 v.2) := by
  replace h : ((fX10_refuse y1 2 hp).bind fun q2 => if q2.1 = 0 then ((fX10_replaces x1 x2 q2.2).bind fun q4 => some (q4.1, q4.2)) else (some (0, q2.2))) = some v := h
  refine Ex.go 1 (pc' := 23) (ls' := [some (vR (10, 0, 0)), some (vI x1), some (vI x2)]) (st' := [vI 2, vI y1, vR (10, 0, 0)]) (hp' := hp) (fun _ => rfl) ?_
  obtain ⟨q2, hv, h⟩ := Option.bind_eq_some_iff.mp h
  refine Ex.call (args := [vR (10, 0, 0), vI y1, vI 2]) (rest := []) rfl rfl rfl (exX10_refuse (d := d + 2) hv) ?_
  show Ex (d + 3) kX10_set 26 [some (vR (10, 0, 0)), some (vI x1), some (vI x2)] [vI q2.1] q2.2 _
  refine Ex.ifc rfl ?_
  by_cases hc : q2.1 = 0
  · rw [if_pos hc] at h
    rw [brI_eq_p hc]
    show Ex (d + 3) kX10_set 33 [some (vR (10, 0, 0)), some (vI x1), some (vI x2)] [] q2.2 _
    refine Ex.go 3 (pc' := 36) (ls' := [some (vR (10, 0, 0)), some (vI x1), some (vI x2)]) (st' := [vI x2, vI x1, vR (10, 0, 0)]) (hp' := q2.2) (fun _ => rfl) ?_
    obtain ⟨q4, hv, h⟩ := Option.bind_eq_some_iff.mp h
    refine Ex.call (args := [vR (10, 0, 0), vI x1, vI x2]) (rest := []) rfl rfl rfl (exX10_replaces (d := d + 0) hv) ?_
    show Ex (d + 3) kX10_set 39 [some (vR (10, 0, 0)), some (vI x1), some (vI x2)] [vI q4.1] q4.2 _
    cases h
    exact Ex.ret rfl rfl rfl
  · rw [if_neg hc] at h
    rw [brI_eq_n hc]
    show Ex (d + 3) kX10_set 29 [some (vR (10, 0, 0)), some (vI x1), some (vI x2)] [] q2.2 _
    refine Ex.go 2 (pc' := 39) (ls' := [some (vR (10, 0, 0)), some (vI x1), some (vI x2)]) (st' := [vI 0]) (hp' := q2.2) (fun _ => rfl) ?_
    cases h
    exact Ex.ret rfl rfl rfl
def fX10_set (a0 : Int32) (a1 : Int32) (hp : HP) : Option (Int32 × HP) := (fX10_notLoaded hp).bind fun q6 => if q6.1 = 0 then ((fX10_maySet a0 a1 q6.2).bind fun v7 => if v7 = 0 then (fX10_set_22 a0 a1 1 q6.2) else (fX10_set_22 a0 a1 0 q6.2)) else (some (0, q6.2))
theorem exX10_set {d : Nat} {a0 : Int32} {a1 : Int32} {hp : HP} {v : (Int32 × HP)} (h : fX10_set a0 a1 hp = some v) : Calls (d + 3) 282 [vR (10, 0, 0), vI a0, vI a1] hp (rsI v.1 v.2) := by
  replace h : ((fX10_notLoaded hp).bind fun q6 => if q6.1 = 0 then ((fX10_maySet a0 a1 q6.2).bind fun v7 => if v7 = 0 then (fX10_set_22 a0 a1 1 q6.2) else (fX10_set_22 a0 a1 0 q6.2)) else (some (0, q6.2))) = some v := h
  show Ex (d + 3) kX10_set 0 [some (vR (10, 0, 0)), some (vI a0), some (vI a1)] [] hp _
  refine Ex.go 1 (pc' := 1) (ls' := [some (vR (10, 0, 0)), some (vI a0), some (vI a1)]) (st' := [vR (10, 0, 0)]) (hp' := hp) (fun _ => rfl) ?_
  obtain ⟨q6, hv, h⟩ := Option.bind_eq_some_iff.mp h
  refine Ex.call (args := [vR (10, 0, 0)]) (rest := []) rfl rfl rfl (exX10_notLoaded (d := d + 1) hv) ?_
  show Ex (d + 3) kX10_set 4 [some (vR (10, 0, 0)), some (vI a0), some (vI a1)] [vI q6.1] q6.2 _
  refine Ex.ifc rfl ?_
  by_cases hc : q6.1 = 0
  · rw [if_pos hc] at h
    rw [brI_ne_p hc]
    show Ex (d + 3) kX10_set 7 [some (vR (10, 0, 0)), some (vI a0), some (vI a1)] [] q6.2 _
    refine Ex.go 4 (pc' := 11) (ls' := [some (vR (10, 0, 0)), some (vI a0), some (vI a1)]) (st' := [vI a1, vI a0, vR (10, 0, 0), vR (10, 0, 0)]) (hp' := q6.2) (fun _ => rfl) ?_
    obtain ⟨v7, hv, h⟩ := Option.bind_eq_some_iff.mp h
    refine Ex.call (args := [vR (10, 0, 0), vI a0, vI a1]) (rest := [vR (10, 0, 0)]) rfl rfl rfl (exX10_maySet (d := d + 1) hv) ?_
    show Ex (d + 3) kX10_set 14 [some (vR (10, 0, 0)), some (vI a0), some (vI a1)] [vI v7, vR (10, 0, 0)] q6.2 _
    refine Ex.ifc rfl ?_
    by_cases hc : v7 = 0
    · rw [if_pos hc] at h
      rw [brI_ne_p hc]
      show Ex (d + 3) kX10_set 17 [some (vR (10, 0, 0)), some (vI a0), some (vI a1)] [vR (10, 0, 0)] q6.2 _
      refine Ex.go 2 (pc' := 22) (ls' := [some (vR (10, 0, 0)), some (vI a0), some (vI a1)]) (st' := [vI 1, vR (10, 0, 0)]) (hp' := q6.2) (fun _ => rfl) ?_
      exact exX10_set_22 h
    · rw [if_neg hc] at h
      rw [brI_ne_n hc]
      show Ex (d + 3) kX10_set 21 [some (vR (10, 0, 0)), some (vI a0), some (vI a1)] [vR (10, 0, 0)] q6.2 _
      refine Ex.go 1 (pc' := 22) (ls' := [some (vR (10, 0, 0)), some (vI a0), some (vI a1)]) (st' := [vI 0, vR (10, 0, 0)]) (hp' := q6.2) (fun _ => rfl) ?_
      exact exX10_set_22 h
  · rw [if_neg hc] at h
    rw [brI_ne_n hc]
    show Ex (d + 3) kX10_set 29 [some (vR (10, 0, 0)), some (vI a0), some (vI a1)] [] q6.2 _
    refine Ex.go 2 (pc' := 39) (ls' := [some (vR (10, 0, 0)), some (vI a0), some (vI a1)]) (st' := [vI 0]) (hp' := q6.2) (fun _ => rfl) ?_
    cases h
    exact Ex.ret rfl rfl rfl
def fX10_rest_79 (x3 : Int32) (y0 : Int32) (y1 : Int32) (k51 : Int32 → Int32 → HP → Option (Int32 × HP)) (hp : HP) : Option (Int32 × HP) := (fX10_flag y1 hp).bind fun v1 => k51 (y0 + v1) (x3 + 1) hp
theorem exX10_rest_79 {d : Nat} {x3 : Int32} {y0 : Int32} {y1 : Int32} {j1 : Option VL} {j2 : Option VL} {hp : HP} {v : (Int32 × HP)} {k51 : Int32 → Int32 → HP → Option (Int32 × HP)} (hk51 : ∀ (x2 : Int32) (x3 : Int32) (j1 : Option VL) (hp : HP) (v : (Int32 × HP)), k51 x2 x3 hp = some v → Ex (d + 3) kX10_rest 51 [some (vR (10, 0, 0)), j1, some (vI x2), some (vI x3)] [] hp (rsI v.1 v.2)) (h : fX10_rest_79 x3 y0 y1 k51 hp = some v) : Ex (d + 3) kX10_rest 79 [some (vR (10, 0, 0)), j1, j2, some (vI x3)] [vI y1, vI y0] hp (rsI v.1 v.2) := by
  replace h : ((fX10_flag y1 hp).bind fun v1 => k51 (y0 + v1) (x3 + 1) hp) = some v := h
  obtain ⟨v1, hv, h⟩ := Option.bind_eq_some_iff.mp h
  refine Ex.call (args := [vI y1]) (rest := [vI y0]) rfl rfl rfl (exX10_flag (d := d + 2) hv) ?_
  show Ex (d + 3) kX10_rest 82 [some (vR (10, 0, 0)), j1, j2, some (vI x3)] [vI v1, vI y0] hp _
  refine Ex.go 4 (pc' := 51) (ls' := [some (vR (10, 0, 0)), j1, some (vI (y0 + v1)), some (vI (x3 + 1))]) (st' := []) (hp' := hp) (fun _ => rfl) ?_
  exact hk51 _ _ _ _ _ h
def fX10_rest_51 (n : Nat) (x2 : Int32) (x3 : Int32) (hp : HP) : Option (Int32 × HP) := match n with
  | 0 => none
  | n + 1 => if x3 < (hp (10, 0, 0) 2) then ((fX10_backIn x3 (hp (11, 22, 0) 3) hp).bind fun v2 => if 0 < v2 then (fX10_rest_79 x3 x2 1 (fun x2 x3 hq => fX10_rest_51 n x2 x3 hq) hp) else (fX10_rest_79 x3 x2 0 (fun x2 x3 hq => fX10_rest_51 n x2 x3 hq) hp)) else (some (x2, hp))
theorem exX10_rest_51 {d : Nat} : ∀ (n : Nat) (x2 : Int32) (x3 : Int32) (j1 : Option VL) (hp : HP) (v : (Int32 × HP)), fX10_rest_51 n x2 x3 hp = some v → Ex (d + 3) kX10_rest 51 [some (vR (10, 0, 0)), j1, some (vI x2), some (vI x3)] [] hp (rsI v.1 v.2) := by
  intro n
  induction n with
  | zero =>
    intro x2 x3 j1 hp v h
    cases h
  | succ n ih =>
    intro x2 x3 j1 hp v h
    replace h : (if x3 < (hp (10, 0, 0) 2) then ((fX10_backIn x3 (hp (11, 22, 0) 3) hp).bind fun v2 => if 0 < v2 then (fX10_rest_79 x3 x2 1 (fun x2 x3 hq => fX10_rest_51 n x2 x3 hq) hp) else (fX10_rest_79 x3 x2 0 (fun x2 x3 hq => fX10_rest_51 n x2 x3 hq) hp)) else (some (x2, hp))) = some v := h
    refine Ex.go 3 (pc' := 56) (ls' := [some (vR (10, 0, 0)), j1, some (vI x2), some (vI x3)]) (st' := [vI (hp (10, 0, 0) 2), vI x3]) (hp' := hp) (fun _ => rfl) ?_
    refine Ex.icmp rfl ?_
    by_cases hc : x3 < (hp (10, 0, 0) 2)
    · rw [if_pos hc] at h
      rw [brI_ge_p hc]
      show Ex (d + 3) kX10_rest 59 [some (vR (10, 0, 0)), j1, some (vI x2), some (vI x3)] [] hp _
      refine Ex.go 6 (pc' := 67) (ls' := [some (vR (10, 0, 0)), j1, some (vI x2), some (vI x3)]) (st' := [vI 3, vR (11, 22, 0), vI x3, vR (10, 0, 0), vI x2]) (hp' := hp) (fun _ => rfl) ?_
      refine Ex.iald (k := 3) rfl rfl (by decide) (by decide) ?_
      show Ex (d + 3) kX10_rest 68 [some (vR (10, 0, 0)), j1, some (vI x2), some (vI x3)] [vI (hp (11, 22, 0) 3), vI x3, vR (10, 0, 0), vI x2] hp _
      obtain ⟨v2, hv, h⟩ := Option.bind_eq_some_iff.mp h
      refine Ex.call (args := [vR (10, 0, 0), vI x3, vI (hp (11, 22, 0) 3)]) (rest := [vI x2]) rfl rfl rfl (exX10_backIn (d := d + 0) hv) ?_
      show Ex (d + 3) kX10_rest 71 [some (vR (10, 0, 0)), j1, some (vI x2), some (vI x3)] [vI v2, vI x2] hp _
      refine Ex.ifc rfl ?_
      by_cases hc : 0 < v2
      · rw [if_pos hc] at h
        rw [brI_le_p hc]
        show Ex (d + 3) kX10_rest 74 [some (vR (10, 0, 0)), j1, some (vI x2), some (vI x3)] [vI x2] hp _
        refine Ex.go 2 (pc' := 79) (ls' := [some (vR (10, 0, 0)), j1, some (vI x2), some (vI x3)]) (st' := [vI 1, vI x2]) (hp' := hp) (fun _ => rfl) ?_
        exact exX10_rest_79 (fun q0 q1 q2 q3 q4 hv => ih q0 q1 q2 q3 q4 hv) h
      · rw [if_neg hc] at h
        rw [brI_le_n hc]
        show Ex (d + 3) kX10_rest 78 [some (vR (10, 0, 0)), j1, some (vI x2), some (vI x3)] [vI x2] hp _
        refine Ex.go 1 (pc' := 79) (ls' := [some (vR (10, 0, 0)), j1, some (vI x2), some (vI x3)]) (st' := [vI 0, vI x2]) (hp' := hp) (fun _ => rfl) ?_
        exact exX10_rest_79 (fun q0 q1 q2 q3 q4 hv => ih q0 q1 q2 q3 q4 hv) h
    · rw [if_neg hc] at h
      rw [brI_ge_n hc]
      show Ex (d + 3) kX10_rest 90 [some (vR (10, 0, 0)), j1, some (vI x2), some (vI x3)] [] hp _
      refine Ex.go 1 (pc' := 91) (ls' := [some (vR (10, 0, 0)), j1, some (vI x2), some (vI x3)]) (st' := [vI x2]) (hp' := hp) (fun _ => rfl) ?_
      cases h
      exact Ex.ret rfl rfl rfl
def fX10_rest_24 (x1 : Int32) (y1 : Int32) (hp : HP) : Option (Int32 × HP) := (fX10_refuse y1 2 hp).bind fun q4 => if q4.1 = 0 then ((fX10_keepsAll q4.2).bind fun hp7 => fX10_rest_51 FU 0 0 (up hp7 (11, 22, 0) 3 ((hp7 (11, 22, 0) 3) + x1))) else (some (0, q4.2))
theorem exX10_rest_24 {d : Nat} {x1 : Int32} {y1 : Int32} {j2 : Option VL} {j3 : Option VL} {hp : HP} {v : (Int32 × HP)} (h : fX10_rest_24 x1 y1 hp = some v) : Ex (d + 3) kX10_rest 24 [some (vR (10, 0, 0)), some (vI x1), j2, j3] [vI y1, vR (10, 0, 0)] hp (rsI v.1 v.2) := by
  replace h : ((fX10_refuse y1 2 hp).bind fun q4 => if q4.1 = 0 then ((fX10_keepsAll q4.2).bind fun hp7 => fX10_rest_51 FU 0 0 (up hp7 (11, 22, 0) 3 ((hp7 (11, 22, 0) 3) + x1))) else (some (0, q4.2))) = some v := h
  refine Ex.go 1 (pc' := 25) (ls' := [some (vR (10, 0, 0)), some (vI x1), j2, j3]) (st' := [vI 2, vI y1, vR (10, 0, 0)]) (hp' := hp) (fun _ => rfl) ?_
  obtain ⟨q4, hv, h⟩ := Option.bind_eq_some_iff.mp h
  refine Ex.call (args := [vR (10, 0, 0), vI y1, vI 2]) (rest := []) rfl rfl rfl (exX10_refuse (d := d + 2) hv) ?_
  show Ex (d + 3) kX10_rest 28 [some (vR (10, 0, 0)), some (vI x1), j2, j3] [vI q4.1] q4.2 _
  refine Ex.ifc rfl ?_
  by_cases hc : q4.1 = 0
  · rw [if_pos hc] at h
    rw [brI_eq_p hc]
    show Ex (d + 3) kX10_rest 33 [some (vR (10, 0, 0)), some (vI x1), j2, j3] [] q4.2 _
    refine Ex.go 1 (pc' := 34) (ls' := [some (vR (10, 0, 0)), some (vI x1), j2, j3]) (st' := [vR (10, 0, 0)]) (hp' := q4.2) (fun _ => rfl) ?_
    obtain ⟨hp7, hv, h⟩ := Option.bind_eq_some_iff.mp h
    refine Ex.call (args := [vR (10, 0, 0)]) (rest := []) rfl rfl rfl (exX10_keepsAll (d := d + 1) hv) ?_
    show Ex (d + 3) kX10_rest 37 [some (vR (10, 0, 0)), some (vI x1), j2, j3] [] hp7 _
    refine Ex.go 4 (pc' := 43) (ls' := [some (vR (10, 0, 0)), some (vI x1), j2, j3]) (st' := [vI 3, vR (11, 22, 0), vI 3, vR (11, 22, 0)]) (hp' := hp7) (fun _ => rfl) ?_
    refine Ex.iald (k := 3) rfl rfl (by decide) (by decide) ?_
    show Ex (d + 3) kX10_rest 44 [some (vR (10, 0, 0)), some (vI x1), j2, j3] [vI (hp7 (11, 22, 0) 3), vI 3, vR (11, 22, 0)] hp7 _
    refine Ex.go 2 (pc' := 46) (ls' := [some (vR (10, 0, 0)), some (vI x1), j2, j3]) (st' := [vI ((hp7 (11, 22, 0) 3) + x1), vI 3, vR (11, 22, 0)]) (hp' := hp7) (fun _ => rfl) ?_
    refine Ex.iast (k := 3) rfl rfl (by decide) (by decide) ?_
    show Ex (d + 3) kX10_rest 47 [some (vR (10, 0, 0)), some (vI x1), j2, j3] [] (up hp7 (11, 22, 0) 3 ((hp7 (11, 22, 0) 3) + x1)) _
    refine Ex.go 4 (pc' := 51) (ls' := [some (vR (10, 0, 0)), some (vI x1), some (vI 0), some (vI 0)]) (st' := []) (hp' := (up hp7 (11, 22, 0) 3 ((hp7 (11, 22, 0) 3) + x1))) (fun _ => rfl) ?_
    exact exX10_rest_51 FU _ _ _ _ _ h
  · rw [if_neg hc] at h
    rw [brI_eq_n hc]
    show Ex (d + 3) kX10_rest 31 [some (vR (10, 0, 0)), some (vI x1), j2, j3] [] q4.2 _
    refine Ex.go 1 (pc' := 32) (ls' := [some (vR (10, 0, 0)), some (vI x1), j2, j3]) (st' := [vI 0]) (hp' := q4.2) (fun _ => rfl) ?_
    cases h
    exact Ex.ret rfl rfl rfl
def fX10_rest (a0 : Int32) (hp : HP) : Option (Int32 × HP) := (fX10_notLoaded hp).bind fun q9 => if q9.1 = 0 then ((fX10_in a0 1 9999 q9.2).bind fun v10 => if v10 = 0 then (fX10_rest_24 a0 1 q9.2) else (fX10_rest_24 a0 0 q9.2)) else (some (0, q9.2))
theorem exX10_rest {d : Nat} {a0 : Int32} {hp : HP} {v : (Int32 × HP)} (h : fX10_rest a0 hp = some v) : Calls (d + 3) 283 [vR (10, 0, 0), vI a0] hp (rsI v.1 v.2) := by
  replace h : ((fX10_notLoaded hp).bind fun q9 => if q9.1 = 0 then ((fX10_in a0 1 9999 q9.2).bind fun v10 => if v10 = 0 then (fX10_rest_24 a0 1 q9.2) else (fX10_rest_24 a0 0 q9.2)) else (some (0, q9.2))) = some v := h
  show Ex (d + 3) kX10_rest 0 [some (vR (10, 0, 0)), some (vI a0), none, none] [] hp _
  refine Ex.go 1 (pc' := 1) (ls' := [some (vR (10, 0, 0)), some (vI a0), none, none]) (st' := [vR (10, 0, 0)]) (hp' := hp) (fun _ => rfl) ?_
  obtain ⟨q9, hv, h⟩ := Option.bind_eq_some_iff.mp h
  refine Ex.call (args := [vR (10, 0, 0)]) (rest := []) rfl rfl rfl (exX10_notLoaded (d := d + 1) hv) ?_
  show Ex (d + 3) kX10_rest 4 [some (vR (10, 0, 0)), some (vI a0), none, none] [vI q9.1] q9.2 _
  refine Ex.ifc rfl ?_
  by_cases hc : q9.1 = 0
  · rw [if_pos hc] at h
    rw [brI_ne_p hc]
    show Ex (d + 3) kX10_rest 7 [some (vR (10, 0, 0)), some (vI a0), none, none] [] q9.2 _
    refine Ex.go 4 (pc' := 13) (ls' := [some (vR (10, 0, 0)), some (vI a0), none, none]) (st' := [vI 9999, vI 1, vI a0, vR (10, 0, 0)]) (hp' := q9.2) (fun _ => rfl) ?_
    obtain ⟨v10, hv, h⟩ := Option.bind_eq_some_iff.mp h
    refine Ex.call (args := [vI a0, vI 1, vI 9999]) (rest := [vR (10, 0, 0)]) rfl rfl rfl (exX10_in (d := d + 2) hv) ?_
    show Ex (d + 3) kX10_rest 16 [some (vR (10, 0, 0)), some (vI a0), none, none] [vI v10, vR (10, 0, 0)] q9.2 _
    refine Ex.ifc rfl ?_
    by_cases hc : v10 = 0
    · rw [if_pos hc] at h
      rw [brI_ne_p hc]
      show Ex (d + 3) kX10_rest 19 [some (vR (10, 0, 0)), some (vI a0), none, none] [vR (10, 0, 0)] q9.2 _
      refine Ex.go 2 (pc' := 24) (ls' := [some (vR (10, 0, 0)), some (vI a0), none, none]) (st' := [vI 1, vR (10, 0, 0)]) (hp' := q9.2) (fun _ => rfl) ?_
      exact exX10_rest_24 h
    · rw [if_neg hc] at h
      rw [brI_ne_n hc]
      show Ex (d + 3) kX10_rest 23 [some (vR (10, 0, 0)), some (vI a0), none, none] [vR (10, 0, 0)] q9.2 _
      refine Ex.go 1 (pc' := 24) (ls' := [some (vR (10, 0, 0)), some (vI a0), none, none]) (st' := [vI 0, vR (10, 0, 0)]) (hp' := q9.2) (fun _ => rfl) ?_
      exact exX10_rest_24 h
  · rw [if_neg hc] at h
    rw [brI_ne_n hc]
    show Ex (d + 3) kX10_rest 31 [some (vR (10, 0, 0)), some (vI a0), none, none] [] q9.2 _
    refine Ex.go 1 (pc' := 32) (ls' := [some (vR (10, 0, 0)), some (vI a0), none, none]) (st' := [vI 0]) (hp' := q9.2) (fun _ => rfl) ?_
    cases h
    exact Ex.ret rfl rfl rfl
def fX10_newRibbon (hp : HP) : Option (Int32 × HP) := (fX10_notLoaded hp).bind fun q2 => if q2.1 = 0 then ((fX10_keepsAll q2.2).bind fun hp5 => (fX10_allInk hp5).bind fun v6 => (fX10_fillsRibbon hp5).bind fun hp9 => some (v6, hp9)) else (some (0, q2.2))
theorem exX10_newRibbon {d : Nat} {hp : HP} {v : (Int32 × HP)} (h : fX10_newRibbon hp = some v) : Calls (d + 2) 284 [vR (10, 0, 0)] hp (rsI v.1 v.2) := by
  replace h : ((fX10_notLoaded hp).bind fun q2 => if q2.1 = 0 then ((fX10_keepsAll q2.2).bind fun hp5 => (fX10_allInk hp5).bind fun v6 => (fX10_fillsRibbon hp5).bind fun hp9 => some (v6, hp9)) else (some (0, q2.2))) = some v := h
  show Ex (d + 2) kX10_newRibbon 0 [some (vR (10, 0, 0)), none] [] hp _
  refine Ex.go 1 (pc' := 1) (ls' := [some (vR (10, 0, 0)), none]) (st' := [vR (10, 0, 0)]) (hp' := hp) (fun _ => rfl) ?_
  obtain ⟨q2, hv, h⟩ := Option.bind_eq_some_iff.mp h
  refine Ex.call (args := [vR (10, 0, 0)]) (rest := []) rfl rfl rfl (exX10_notLoaded (d := d + 0) hv) ?_
  show Ex (d + 2) kX10_newRibbon 4 [some (vR (10, 0, 0)), none] [vI q2.1] q2.2 _
  refine Ex.ifc rfl ?_
  by_cases hc : q2.1 = 0
  · rw [if_pos hc] at h
    rw [brI_eq_p hc]
    show Ex (d + 2) kX10_newRibbon 9 [some (vR (10, 0, 0)), none] [] q2.2 _
    refine Ex.go 1 (pc' := 10) (ls' := [some (vR (10, 0, 0)), none]) (st' := [vR (10, 0, 0)]) (hp' := q2.2) (fun _ => rfl) ?_
    obtain ⟨hp5, hv, h⟩ := Option.bind_eq_some_iff.mp h
    refine Ex.call (args := [vR (10, 0, 0)]) (rest := []) rfl rfl rfl (exX10_keepsAll (d := d + 0) hv) ?_
    show Ex (d + 2) kX10_newRibbon 13 [some (vR (10, 0, 0)), none] [] hp5 _
    refine Ex.go 1 (pc' := 14) (ls' := [some (vR (10, 0, 0)), none]) (st' := [vR (10, 0, 0)]) (hp' := hp5) (fun _ => rfl) ?_
    obtain ⟨v6, hv, h⟩ := Option.bind_eq_some_iff.mp h
    refine Ex.call (args := [vR (10, 0, 0)]) (rest := []) rfl rfl rfl (exX10_allInk (d := d + 0) hv) ?_
    show Ex (d + 2) kX10_newRibbon 17 [some (vR (10, 0, 0)), none] [vI v6] hp5 _
    refine Ex.go 2 (pc' := 19) (ls' := [some (vR (10, 0, 0)), some (vI v6)]) (st' := [vR (10, 0, 0)]) (hp' := hp5) (fun _ => rfl) ?_
    obtain ⟨hp9, hv, h⟩ := Option.bind_eq_some_iff.mp h
    refine Ex.call (args := [vR (10, 0, 0)]) (rest := []) rfl rfl rfl (exX10_fillsRibbon (d := d + 0) hv) ?_
    show Ex (d + 2) kX10_newRibbon 22 [some (vR (10, 0, 0)), some (vI v6)] [] hp9 _
    refine Ex.go 1 (pc' := 23) (ls' := [some (vR (10, 0, 0)), some (vI v6)]) (st' := [vI v6]) (hp' := hp9) (fun _ => rfl) ?_
    cases h
    exact Ex.ret rfl rfl rfl
  · rw [if_neg hc] at h
    rw [brI_eq_n hc]
    show Ex (d + 2) kX10_newRibbon 7 [some (vR (10, 0, 0)), none] [] q2.2 _
    refine Ex.go 1 (pc' := 8) (ls' := [some (vR (10, 0, 0)), none]) (st' := [vI 0]) (hp' := q2.2) (fun _ => rfl) ?_
    cases h
    exact Ex.ret rfl rfl rfl
def fX10_newPage_20 (n : Nat) (x1 : Int32) (x2 : Int32) (hp : HP) : Option (Int32 × HP) := match n with
  | 0 => none
  | n + 1 => if x2 < 480 then (if inb (190 + x2) (alen (11, 22, 0)) = true then (if inb (670 + x2) (alen (11, 22, 0)) = true then (fX10_newPage_20 n x1 (x2 + 1) (up (up hp (11, 22, 0) ((190 + x2).toNatClampNeg) 0) (11, 22, 0) ((670 + x2).toNatClampNeg) 0)) else none) else none) else ((fX10_its 2 (up hp (11, 22, 0) 0 0)).bind fun v1 => some (x1, (up (up (up hp (11, 22, 0) 0 0) (11, 22, 0) 1 v1) (11, 22, 0) 2 0)))
theorem exX10_newPage_20 {d : Nat} : ∀ (n : Nat) (x1 : Int32) (x2 : Int32) (hp : HP) (v : (Int32 × HP)), fX10_newPage_20 n x1 x2 hp = some v → Ex (d + 2) kX10_newPage 20 [some (vR (10, 0, 0)), some (vI x1), some (vI x2)] [] hp (rsI v.1 v.2) := by
  intro n
  induction n with
  | zero =>
    intro x1 x2 hp v h
    cases h
  | succ n ih =>
    intro x1 x2 hp v h
    replace h : (if x2 < 480 then (if inb (190 + x2) (alen (11, 22, 0)) = true then (if inb (670 + x2) (alen (11, 22, 0)) = true then (fX10_newPage_20 n x1 (x2 + 1) (up (up hp (11, 22, 0) ((190 + x2).toNatClampNeg) 0) (11, 22, 0) ((670 + x2).toNatClampNeg) 0)) else none) else none) else ((fX10_its 2 (up hp (11, 22, 0) 0 0)).bind fun v1 => some (x1, (up (up (up hp (11, 22, 0) 0 0) (11, 22, 0) 1 v1) (11, 22, 0) 2 0)))) = some v := h
    refine Ex.go 2 (pc' := 24) (ls' := [some (vR (10, 0, 0)), some (vI x1), some (vI x2)]) (st' := [vI 480, vI x2]) (hp' := hp) (fun _ => rfl) ?_
    refine Ex.icmp rfl ?_
    by_cases hc : x2 < 480
    · rw [if_pos hc] at h
      rw [brI_ge_p hc]
      show Ex (d + 2) kX10_newPage 27 [some (vR (10, 0, 0)), some (vI x1), some (vI x2)] [] hp _
      refine Ex.go 6 (pc' := 37) (ls' := [some (vR (10, 0, 0)), some (vI x1), some (vI x2)]) (st' := [vI 0, vI (190 + x2), vR (11, 22, 0)]) (hp' := hp) (fun _ => rfl) ?_
      by_cases hc : inb (190 + x2) (alen (11, 22, 0)) = true
      · rw [if_pos hc] at h
        refine Ex.iast rfl rfl hc rfl ?_
        show Ex (d + 2) kX10_newPage 38 [some (vR (10, 0, 0)), some (vI x1), some (vI x2)] [] (up hp (11, 22, 0) ((190 + x2).toNatClampNeg) 0) _
        refine Ex.go 6 (pc' := 48) (ls' := [some (vR (10, 0, 0)), some (vI x1), some (vI x2)]) (st' := [vI 0, vI (670 + x2), vR (11, 22, 0)]) (hp' := (up hp (11, 22, 0) ((190 + x2).toNatClampNeg) 0)) (fun _ => rfl) ?_
        by_cases hc : inb (670 + x2) (alen (11, 22, 0)) = true
        · rw [if_pos hc] at h
          refine Ex.iast rfl rfl hc rfl ?_
          show Ex (d + 2) kX10_newPage 49 [some (vR (10, 0, 0)), some (vI x1), some (vI x2)] [] (up (up hp (11, 22, 0) ((190 + x2).toNatClampNeg) 0) (11, 22, 0) ((670 + x2).toNatClampNeg) 0) _
          refine Ex.go 2 (pc' := 20) (ls' := [some (vR (10, 0, 0)), some (vI x1), some (vI (x2 + 1))]) (st' := []) (hp' := (up (up hp (11, 22, 0) ((190 + x2).toNatClampNeg) 0) (11, 22, 0) ((670 + x2).toNatClampNeg) 0)) (fun _ => rfl) ?_
          exact ih _ _ _ _ h
        · rw [if_neg hc] at h
          cases h
      · rw [if_neg hc] at h
        cases h
    · rw [if_neg hc] at h
      rw [brI_ge_n hc]
      show Ex (d + 2) kX10_newPage 55 [some (vR (10, 0, 0)), some (vI x1), some (vI x2)] [] hp _
      refine Ex.go 4 (pc' := 61) (ls' := [some (vR (10, 0, 0)), some (vI x1), some (vI x2)]) (st' := [vI 0, vI 0, vR (11, 22, 0)]) (hp' := hp) (fun _ => rfl) ?_
      refine Ex.iast (k := 0) rfl rfl (by decide) (by decide) ?_
      show Ex (d + 2) kX10_newPage 62 [some (vR (10, 0, 0)), some (vI x1), some (vI x2)] [] (up hp (11, 22, 0) 0 0) _
      refine Ex.go 5 (pc' := 69) (ls' := [some (vR (10, 0, 0)), some (vI x1), some (vI x2)]) (st' := [vI 2, vR (10, 0, 0), vI 1, vR (11, 22, 0)]) (hp' := (up hp (11, 22, 0) 0 0)) (fun _ => rfl) ?_
      obtain ⟨v1, hv, h⟩ := Option.bind_eq_some_iff.mp h
      refine Ex.call (args := [vR (10, 0, 0), vI 2]) (rest := [vI 1, vR (11, 22, 0)]) rfl rfl rfl (exX10_its (d := d + 1) hv) ?_
      show Ex (d + 2) kX10_newPage 72 [some (vR (10, 0, 0)), some (vI x1), some (vI x2)] [vI v1, vI 1, vR (11, 22, 0)] (up hp (11, 22, 0) 0 0) _
      refine Ex.iast (k := 1) rfl rfl (by decide) (by decide) ?_
      show Ex (d + 2) kX10_newPage 73 [some (vR (10, 0, 0)), some (vI x1), some (vI x2)] [] (up (up hp (11, 22, 0) 0 0) (11, 22, 0) 1 v1) _
      refine Ex.go 4 (pc' := 79) (ls' := [some (vR (10, 0, 0)), some (vI x1), some (vI x2)]) (st' := [vI 0, vI 2, vR (11, 22, 0)]) (hp' := (up (up hp (11, 22, 0) 0 0) (11, 22, 0) 1 v1)) (fun _ => rfl) ?_
      refine Ex.iast (k := 2) rfl rfl (by decide) (by decide) ?_
      show Ex (d + 2) kX10_newPage 80 [some (vR (10, 0, 0)), some (vI x1), some (vI x2)] [] (up (up (up hp (11, 22, 0) 0 0) (11, 22, 0) 1 v1) (11, 22, 0) 2 0) _
      refine Ex.go 1 (pc' := 81) (ls' := [some (vR (10, 0, 0)), some (vI x1), some (vI x2)]) (st' := [vI x1]) (hp' := (up (up (up hp (11, 22, 0) 0 0) (11, 22, 0) 1 v1) (11, 22, 0) 2 0)) (fun _ => rfl) ?_
      cases h
      exact Ex.ret rfl rfl rfl
def fX10_newPage (hp : HP) : Option (Int32 × HP) := (fX10_notLoaded hp).bind fun q3 => if q3.1 = 0 then ((fX10_keepsAll q3.2).bind fun hp6 => (fX10_filled hp6).bind fun v7 => fX10_newPage_20 FU v7 0 hp6) else (some (0, q3.2))
theorem exX10_newPage {d : Nat} {hp : HP} {v : (Int32 × HP)} (h : fX10_newPage hp = some v) : Calls (d + 2) 285 [vR (10, 0, 0)] hp (rsI v.1 v.2) := by
  replace h : ((fX10_notLoaded hp).bind fun q3 => if q3.1 = 0 then ((fX10_keepsAll q3.2).bind fun hp6 => (fX10_filled hp6).bind fun v7 => fX10_newPage_20 FU v7 0 hp6) else (some (0, q3.2))) = some v := h
  show Ex (d + 2) kX10_newPage 0 [some (vR (10, 0, 0)), none, none] [] hp _
  refine Ex.go 1 (pc' := 1) (ls' := [some (vR (10, 0, 0)), none, none]) (st' := [vR (10, 0, 0)]) (hp' := hp) (fun _ => rfl) ?_
  obtain ⟨q3, hv, h⟩ := Option.bind_eq_some_iff.mp h
  refine Ex.call (args := [vR (10, 0, 0)]) (rest := []) rfl rfl rfl (exX10_notLoaded (d := d + 0) hv) ?_
  show Ex (d + 2) kX10_newPage 4 [some (vR (10, 0, 0)), none, none] [vI q3.1] q3.2 _
  refine Ex.ifc rfl ?_
  by_cases hc : q3.1 = 0
  · rw [if_pos hc] at h
    rw [brI_eq_p hc]
    show Ex (d + 2) kX10_newPage 9 [some (vR (10, 0, 0)), none, none] [] q3.2 _
    refine Ex.go 1 (pc' := 10) (ls' := [some (vR (10, 0, 0)), none, none]) (st' := [vR (10, 0, 0)]) (hp' := q3.2) (fun _ => rfl) ?_
    obtain ⟨hp6, hv, h⟩ := Option.bind_eq_some_iff.mp h
    refine Ex.call (args := [vR (10, 0, 0)]) (rest := []) rfl rfl rfl (exX10_keepsAll (d := d + 0) hv) ?_
    show Ex (d + 2) kX10_newPage 13 [some (vR (10, 0, 0)), none, none] [] hp6 _
    refine Ex.go 1 (pc' := 14) (ls' := [some (vR (10, 0, 0)), none, none]) (st' := [vR (10, 0, 0)]) (hp' := hp6) (fun _ => rfl) ?_
    obtain ⟨v7, hv, h⟩ := Option.bind_eq_some_iff.mp h
    refine Ex.call (args := [vR (10, 0, 0)]) (rest := []) rfl rfl rfl (exX10_filled (d := d + 0) hv) ?_
    show Ex (d + 2) kX10_newPage 17 [some (vR (10, 0, 0)), none, none] [vI v7] hp6 _
    refine Ex.go 3 (pc' := 20) (ls' := [some (vR (10, 0, 0)), some (vI v7), some (vI 0)]) (st' := []) (hp' := hp6) (fun _ => rfl) ?_
    exact exX10_newPage_20 FU _ _ _ _ h
  · rw [if_neg hc] at h
    rw [brI_eq_n hc]
    show Ex (d + 2) kX10_newPage 7 [some (vR (10, 0, 0)), none, none] [] q3.2 _
    refine Ex.go 1 (pc' := 8) (ls' := [some (vR (10, 0, 0)), none, none]) (st' := [vI 0]) (hp' := q3.2) (fun _ => rfl) ?_
    cases h
    exact Ex.ret rfl rfl rfl
def fX10_undo_37 (hp : HP) : Option (Int32 × HP) := (fX10_fetches (0 + (hp (10, 0, 0) 8)) hp).bind fun hp3 => some ((hp3 (10, 0, 0) 8), hp3)
theorem exX10_undo_37 {d : Nat} {hp : HP} {v : (Int32 × HP)} (h : fX10_undo_37 hp = some v) : Ex (d + 1) kX10_undo 37 [some (vR (10, 0, 0))] [] hp (rsI v.1 v.2) := by
  replace h : ((fX10_fetches (0 + (hp (10, 0, 0) 8)) hp).bind fun hp3 => some ((hp3 (10, 0, 0) 8), hp3)) = some v := h
  refine Ex.go 5 (pc' := 44) (ls' := [some (vR (10, 0, 0))]) (st' := [vI (0 + (hp (10, 0, 0) 8)), vR (10, 0, 0)]) (hp' := hp) (fun _ => rfl) ?_
  obtain ⟨hp3, hv, h⟩ := Option.bind_eq_some_iff.mp h
  refine Ex.call (args := [vR (10, 0, 0), vI (0 + (hp (10, 0, 0) 8))]) (rest := []) rfl rfl rfl (exX10_fetches (d := d + 0) hv) ?_
  show Ex (d + 1) kX10_undo 47 [some (vR (10, 0, 0))] [] hp3 _
  refine Ex.go 2 (pc' := 51) (ls' := [some (vR (10, 0, 0))]) (st' := [vI (hp3 (10, 0, 0) 8)]) (hp' := hp3) (fun _ => rfl) ?_
  cases h
  exact Ex.ret rfl rfl rfl
def fX10_undo_18 (y1 : Int32) (hp : HP) : Option (Int32 × HP) := (fX10_refuse y1 1 hp).bind fun q5 => if q5.1 = 0 then (fX10_undo_37 (up q5.2 (10, 0, 0) 8 ((q5.2 (10, 0, 0) 8) - 1))) else (some (0, q5.2))
theorem exX10_undo_18 {d : Nat} {y1 : Int32} {hp : HP} {v : (Int32 × HP)} (h : fX10_undo_18 y1 hp = some v) : Ex (d + 1) kX10_undo 18 [some (vR (10, 0, 0))] [vI y1, vR (10, 0, 0)] hp (rsI v.1 v.2) := by
  replace h : ((fX10_refuse y1 1 hp).bind fun q5 => if q5.1 = 0 then (fX10_undo_37 (up q5.2 (10, 0, 0) 8 ((q5.2 (10, 0, 0) 8) - 1))) else (some (0, q5.2))) = some v := h
  refine Ex.go 1 (pc' := 19) (ls' := [some (vR (10, 0, 0))]) (st' := [vI 1, vI y1, vR (10, 0, 0)]) (hp' := hp) (fun _ => rfl) ?_
  obtain ⟨q5, hv, h⟩ := Option.bind_eq_some_iff.mp h
  refine Ex.call (args := [vR (10, 0, 0), vI y1, vI 1]) (rest := []) rfl rfl rfl (exX10_refuse (d := d + 0) hv) ?_
  show Ex (d + 1) kX10_undo 22 [some (vR (10, 0, 0))] [vI q5.1] q5.2 _
  refine Ex.ifc rfl ?_
  by_cases hc : q5.1 = 0
  · rw [if_pos hc] at h
    rw [brI_eq_p hc]
    show Ex (d + 1) kX10_undo 27 [some (vR (10, 0, 0))] [] q5.2 _
    refine Ex.go 6 (pc' := 37) (ls' := [some (vR (10, 0, 0))]) (st' := []) (hp' := (up q5.2 (10, 0, 0) 8 ((q5.2 (10, 0, 0) 8) - 1))) (fun _ => rfl) ?_
    exact exX10_undo_37 h
  · rw [if_neg hc] at h
    rw [brI_eq_n hc]
    show Ex (d + 1) kX10_undo 25 [some (vR (10, 0, 0))] [] q5.2 _
    refine Ex.go 1 (pc' := 26) (ls' := [some (vR (10, 0, 0))]) (st' := [vI 0]) (hp' := q5.2) (fun _ => rfl) ?_
    cases h
    exact Ex.ret rfl rfl rfl
def fX10_undo_5 (hp : HP) : Option (Int32 × HP) := if (hp (10, 0, 0) 8) = 0 then (fX10_undo_18 1 hp) else (fX10_undo_18 0 hp)
theorem exX10_undo_5 {d : Nat} {hp : HP} {v : (Int32 × HP)} (h : fX10_undo_5 hp = some v) : Ex (d + 1) kX10_undo 5 [some (vR (10, 0, 0))] [] hp (rsI v.1 v.2) := by
  replace h : (if (hp (10, 0, 0) 8) = 0 then (fX10_undo_18 1 hp) else (fX10_undo_18 0 hp)) = some v := h
  refine Ex.go 3 (pc' := 10) (ls' := [some (vR (10, 0, 0))]) (st' := [vI (hp (10, 0, 0) 8), vR (10, 0, 0)]) (hp' := hp) (fun _ => rfl) ?_
  refine Ex.ifc rfl ?_
  by_cases hc : (hp (10, 0, 0) 8) = 0
  · rw [if_pos hc] at h
    rw [brI_ne_p hc]
    show Ex (d + 1) kX10_undo 13 [some (vR (10, 0, 0))] [vR (10, 0, 0)] hp _
    refine Ex.go 2 (pc' := 18) (ls' := [some (vR (10, 0, 0))]) (st' := [vI 1, vR (10, 0, 0)]) (hp' := hp) (fun _ => rfl) ?_
    exact exX10_undo_18 h
  · rw [if_neg hc] at h
    rw [brI_ne_n hc]
    show Ex (d + 1) kX10_undo 17 [some (vR (10, 0, 0))] [vR (10, 0, 0)] hp _
    refine Ex.go 1 (pc' := 18) (ls' := [some (vR (10, 0, 0))]) (st' := [vI 0, vR (10, 0, 0)]) (hp' := hp) (fun _ => rfl) ?_
    exact exX10_undo_18 h
def fX10_undo (hp : HP) : Option (Int32 × HP) := fX10_undo_5 (up hp (10, 0, 0) 0 0)
theorem exX10_undo {d : Nat} {hp : HP} {v : (Int32 × HP)} (h : fX10_undo hp = some v) : Calls (d + 1) 286 [vR (10, 0, 0)] hp (rsI v.1 v.2) := by
  replace h : (fX10_undo_5 (up hp (10, 0, 0) 0 0)) = some v := h
  show Ex (d + 1) kX10_undo 0 [some (vR (10, 0, 0))] [] hp _
  refine Ex.go 3 (pc' := 5) (ls' := [some (vR (10, 0, 0))]) (st' := []) (hp' := (up hp (10, 0, 0) 0 0)) (fun _ => rfl) ?_
  exact exX10_undo_5 h
def fX10_undoable_5 (hp : HP) : Option (Int32 × HP) := some ((hp (10, 0, 0) 8), hp)
theorem exX10_undoable_5 {d : Nat} {hp : HP} {v : (Int32 × HP)} (h : fX10_undoable_5 hp = some v) : Ex (d + 0) kX10_undoable 5 [some (vR (10, 0, 0))] [] hp (rsI v.1 v.2) := by
  replace h : (some ((hp (10, 0, 0) 8), hp)) = some v := h
  refine Ex.go 2 (pc' := 9) (ls' := [some (vR (10, 0, 0))]) (st' := [vI (hp (10, 0, 0) 8)]) (hp' := hp) (fun _ => rfl) ?_
  cases h
  exact Ex.ret rfl rfl rfl
def fX10_undoable (hp : HP) : Option (Int32 × HP) := fX10_undoable_5 (up hp (10, 0, 0) 0 0)
theorem exX10_undoable {d : Nat} {hp : HP} {v : (Int32 × HP)} (h : fX10_undoable hp = some v) : Calls (d + 0) 287 [vR (10, 0, 0)] hp (rsI v.1 v.2) := by
  replace h : (fX10_undoable_5 (up hp (10, 0, 0) 0 0)) = some v := h
  show Ex (d + 0) kX10_undoable 0 [some (vR (10, 0, 0))] [] hp _
  refine Ex.go 3 (pc' := 5) (ls' := [some (vR (10, 0, 0))]) (st' := []) (hp' := (up hp (10, 0, 0) 0 0)) (fun _ => rfl) ?_
  exact exX10_undoable_5 h
def fX10_save_46 (hp : HP) : Option (Int32 × HP) := some ((hp (11, 22, 0) 3), hp)
theorem exX10_save_46 {d : Nat} {j1 : Option VL} {hp : HP} {v : (Int32 × HP)} (h : fX10_save_46 hp = some v) : Ex (d + 2) kX10_save 46 [some (vR (10, 0, 0)), j1] [] hp (rsI v.1 v.2) := by
  replace h : (some ((hp (11, 22, 0) 3), hp)) = some v := h
  refine Ex.go 3 (pc' := 51) (ls' := [some (vR (10, 0, 0)), j1]) (st' := [vI 3, vR (11, 22, 0)]) (hp' := hp) (fun _ => rfl) ?_
  refine Ex.iald (k := 3) rfl rfl (by decide) (by decide) ?_
  show Ex (d + 2) kX10_save 52 [some (vR (10, 0, 0)), j1] [vI (hp (11, 22, 0) 3)] hp _
  cases h
  exact Ex.ret rfl rfl rfl
def fX10_save_22 (x1 : Int32) (y1 : Int32) (hp : HP) : Option (Int32 × HP) := (fX10_refuse y1 2 hp).bind fun q2 => if q2.1 = 0 then ((fX10_keeps (8 + x1) q2.2).bind fun hp5 => if inb x1 (alen (12, 0, 0)) = true then (fX10_save_46 (up hp5 (12, 0, 0) (x1.toNatClampNeg) 1)) else none) else (some (0, q2.2))
theorem exX10_save_22 {d : Nat} {x1 : Int32} {y1 : Int32} {hp : HP} {v : (Int32 × HP)} (h : fX10_save_22 x1 y1 hp = some v) : Ex (d + 2) kX10_save 22 [some (vR (10, 0, 0)), some (vI x1)] [vI y1, vR (10, 0, 0)] hp (rsI v.1 v.2) := by
  replace h : ((fX10_refuse y1 2 hp).bind fun q2 => if q2.1 = 0 then ((fX10_keeps (8 + x1) q2.2).bind fun hp5 => if inb x1 (alen (12, 0, 0)) = true then (fX10_save_46 (up hp5 (12, 0, 0) (x1.toNatClampNeg) 1)) else none) else (some (0, q2.2))) = some v := h
  refine Ex.go 1 (pc' := 23) (ls' := [some (vR (10, 0, 0)), some (vI x1)]) (st' := [vI 2, vI y1, vR (10, 0, 0)]) (hp' := hp) (fun _ => rfl) ?_
  obtain ⟨q2, hv, h⟩ := Option.bind_eq_some_iff.mp h
  refine Ex.call (args := [vR (10, 0, 0), vI y1, vI 2]) (rest := []) rfl rfl rfl (exX10_refuse (d := d + 1) hv) ?_
  show Ex (d + 2) kX10_save 26 [some (vR (10, 0, 0)), some (vI x1)] [vI q2.1] q2.2 _
  refine Ex.ifc rfl ?_
  by_cases hc : q2.1 = 0
  · rw [if_pos hc] at h
    rw [brI_eq_p hc]
    show Ex (d + 2) kX10_save 31 [some (vR (10, 0, 0)), some (vI x1)] [] q2.2 _
    refine Ex.go 4 (pc' := 36) (ls' := [some (vR (10, 0, 0)), some (vI x1)]) (st' := [vI (8 + x1), vR (10, 0, 0)]) (hp' := q2.2) (fun _ => rfl) ?_
    obtain ⟨hp5, hv, h⟩ := Option.bind_eq_some_iff.mp h
    refine Ex.call (args := [vR (10, 0, 0), vI (8 + x1)]) (rest := []) rfl rfl rfl (exX10_keeps (d := d + 1) hv) ?_
    show Ex (d + 2) kX10_save 39 [some (vR (10, 0, 0)), some (vI x1)] [] hp5 _
    refine Ex.go 4 (pc' := 45) (ls' := [some (vR (10, 0, 0)), some (vI x1)]) (st' := [vI 1, vI x1, vR (12, 0, 0)]) (hp' := hp5) (fun _ => rfl) ?_
    by_cases hc : inb x1 (alen (12, 0, 0)) = true
    · rw [if_pos hc] at h
      refine Ex.bast rfl rfl hc rfl (by decide) ?_
      show Ex (d + 2) kX10_save 46 [some (vR (10, 0, 0)), some (vI x1)] [] (up hp5 (12, 0, 0) (x1.toNatClampNeg) 1) _
      exact exX10_save_46 h
    · rw [if_neg hc] at h
      cases h
  · rw [if_neg hc] at h
    rw [brI_eq_n hc]
    show Ex (d + 2) kX10_save 29 [some (vR (10, 0, 0)), some (vI x1)] [] q2.2 _
    refine Ex.go 1 (pc' := 30) (ls' := [some (vR (10, 0, 0)), some (vI x1)]) (st' := [vI 0]) (hp' := q2.2) (fun _ => rfl) ?_
    cases h
    exact Ex.ret rfl rfl rfl
def fX10_save (a0 : Int32) (hp : HP) : Option (Int32 × HP) := (fX10_notLoaded hp).bind fun q7 => if q7.1 = 0 then ((fX10_in a0 0 1 q7.2).bind fun v8 => if v8 = 0 then (fX10_save_22 a0 1 q7.2) else (fX10_save_22 a0 0 q7.2)) else (some (0, q7.2))
theorem exX10_save {d : Nat} {a0 : Int32} {hp : HP} {v : (Int32 × HP)} (h : fX10_save a0 hp = some v) : Calls (d + 2) 288 [vR (10, 0, 0), vI a0] hp (rsI v.1 v.2) := by
  replace h : ((fX10_notLoaded hp).bind fun q7 => if q7.1 = 0 then ((fX10_in a0 0 1 q7.2).bind fun v8 => if v8 = 0 then (fX10_save_22 a0 1 q7.2) else (fX10_save_22 a0 0 q7.2)) else (some (0, q7.2))) = some v := h
  show Ex (d + 2) kX10_save 0 [some (vR (10, 0, 0)), some (vI a0)] [] hp _
  refine Ex.go 1 (pc' := 1) (ls' := [some (vR (10, 0, 0)), some (vI a0)]) (st' := [vR (10, 0, 0)]) (hp' := hp) (fun _ => rfl) ?_
  obtain ⟨q7, hv, h⟩ := Option.bind_eq_some_iff.mp h
  refine Ex.call (args := [vR (10, 0, 0)]) (rest := []) rfl rfl rfl (exX10_notLoaded (d := d + 0) hv) ?_
  show Ex (d + 2) kX10_save 4 [some (vR (10, 0, 0)), some (vI a0)] [vI q7.1] q7.2 _
  refine Ex.ifc rfl ?_
  by_cases hc : q7.1 = 0
  · rw [if_pos hc] at h
    rw [brI_ne_p hc]
    show Ex (d + 2) kX10_save 7 [some (vR (10, 0, 0)), some (vI a0)] [] q7.2 _
    refine Ex.go 4 (pc' := 11) (ls' := [some (vR (10, 0, 0)), some (vI a0)]) (st' := [vI 1, vI 0, vI a0, vR (10, 0, 0)]) (hp' := q7.2) (fun _ => rfl) ?_
    obtain ⟨v8, hv, h⟩ := Option.bind_eq_some_iff.mp h
    refine Ex.call (args := [vI a0, vI 0, vI 1]) (rest := [vR (10, 0, 0)]) rfl rfl rfl (exX10_in (d := d + 1) hv) ?_
    show Ex (d + 2) kX10_save 14 [some (vR (10, 0, 0)), some (vI a0)] [vI v8, vR (10, 0, 0)] q7.2 _
    refine Ex.ifc rfl ?_
    by_cases hc : v8 = 0
    · rw [if_pos hc] at h
      rw [brI_ne_p hc]
      show Ex (d + 2) kX10_save 17 [some (vR (10, 0, 0)), some (vI a0)] [vR (10, 0, 0)] q7.2 _
      refine Ex.go 2 (pc' := 22) (ls' := [some (vR (10, 0, 0)), some (vI a0)]) (st' := [vI 1, vR (10, 0, 0)]) (hp' := q7.2) (fun _ => rfl) ?_
      exact exX10_save_22 h
    · rw [if_neg hc] at h
      rw [brI_ne_n hc]
      show Ex (d + 2) kX10_save 21 [some (vR (10, 0, 0)), some (vI a0)] [vR (10, 0, 0)] q7.2 _
      refine Ex.go 1 (pc' := 22) (ls' := [some (vR (10, 0, 0)), some (vI a0)]) (st' := [vI 0, vR (10, 0, 0)]) (hp' := q7.2) (fun _ => rfl) ?_
      exact exX10_save_22 h
  · rw [if_neg hc] at h
    rw [brI_ne_n hc]
    show Ex (d + 2) kX10_save 29 [some (vR (10, 0, 0)), some (vI a0)] [] q7.2 _
    refine Ex.go 1 (pc' := 30) (ls' := [some (vR (10, 0, 0)), some (vI a0)]) (st' := [vI 0]) (hp' := q7.2) (fun _ => rfl) ?_
    cases h
    exact Ex.ret rfl rfl rfl
def fX10_restore_64 (hp : HP) : Option (Int32 × HP) := some ((hp (11, 22, 0) 3), hp)
theorem exX10_restore_64 {d : Nat} {j1 : Option VL} {hp : HP} {v : (Int32 × HP)} (h : fX10_restore_64 hp = some v) : Ex (d + 1) kX10_restore 64 [some (vR (10, 0, 0)), j1] [] hp (rsI v.1 v.2) := by
  replace h : (some ((hp (11, 22, 0) 3), hp)) = some v := h
  refine Ex.go 3 (pc' := 69) (ls' := [some (vR (10, 0, 0)), j1]) (st' := [vI 3, vR (11, 22, 0)]) (hp' := hp) (fun _ => rfl) ?_
  refine Ex.iald (k := 3) rfl rfl (by decide) (by decide) ?_
  show Ex (d + 1) kX10_restore 70 [some (vR (10, 0, 0)), j1] [vI (hp (11, 22, 0) 3)] hp _
  cases h
  exact Ex.ret rfl rfl rfl
def fX10_restore_42 (x1 : Int32) (y1 : Int32) (hp : HP) : Option (Int32 × HP) := (fX10_refuse y1 2 hp).bind fun q2 => if q2.1 = 0 then ((fX10_fetches (8 + x1) q2.2).bind fun hp5 => fX10_restore_64 (up hp5 (10, 0, 0) 8 0)) else (some (0, q2.2))
theorem exX10_restore_42 {d : Nat} {x1 : Int32} {y1 : Int32} {hp : HP} {v : (Int32 × HP)} (h : fX10_restore_42 x1 y1 hp = some v) : Ex (d + 1) kX10_restore 42 [some (vR (10, 0, 0)), some (vI x1)] [vI y1, vR (10, 0, 0)] hp (rsI v.1 v.2) := by
  replace h : ((fX10_refuse y1 2 hp).bind fun q2 => if q2.1 = 0 then ((fX10_fetches (8 + x1) q2.2).bind fun hp5 => fX10_restore_64 (up hp5 (10, 0, 0) 8 0)) else (some (0, q2.2))) = some v := h
  refine Ex.go 1 (pc' := 43) (ls' := [some (vR (10, 0, 0)), some (vI x1)]) (st' := [vI 2, vI y1, vR (10, 0, 0)]) (hp' := hp) (fun _ => rfl) ?_
  obtain ⟨q2, hv, h⟩ := Option.bind_eq_some_iff.mp h
  refine Ex.call (args := [vR (10, 0, 0), vI y1, vI 2]) (rest := []) rfl rfl rfl (exX10_refuse (d := d + 0) hv) ?_
  show Ex (d + 1) kX10_restore 46 [some (vR (10, 0, 0)), some (vI x1)] [vI q2.1] q2.2 _
  refine Ex.ifc rfl ?_
  by_cases hc : q2.1 = 0
  · rw [if_pos hc] at h
    rw [brI_eq_p hc]
    show Ex (d + 1) kX10_restore 51 [some (vR (10, 0, 0)), some (vI x1)] [] q2.2 _
    refine Ex.go 4 (pc' := 56) (ls' := [some (vR (10, 0, 0)), some (vI x1)]) (st' := [vI (8 + x1), vR (10, 0, 0)]) (hp' := q2.2) (fun _ => rfl) ?_
    obtain ⟨hp5, hv, h⟩ := Option.bind_eq_some_iff.mp h
    refine Ex.call (args := [vR (10, 0, 0), vI (8 + x1)]) (rest := []) rfl rfl rfl (exX10_fetches (d := d + 0) hv) ?_
    show Ex (d + 1) kX10_restore 59 [some (vR (10, 0, 0)), some (vI x1)] [] hp5 _
    refine Ex.go 3 (pc' := 64) (ls' := [some (vR (10, 0, 0)), some (vI x1)]) (st' := []) (hp' := (up hp5 (10, 0, 0) 8 0)) (fun _ => rfl) ?_
    exact exX10_restore_64 h
  · rw [if_neg hc] at h
    rw [brI_eq_n hc]
    show Ex (d + 1) kX10_restore 49 [some (vR (10, 0, 0)), some (vI x1)] [] q2.2 _
    refine Ex.go 1 (pc' := 50) (ls' := [some (vR (10, 0, 0)), some (vI x1)]) (st' := [vI 0]) (hp' := q2.2) (fun _ => rfl) ?_
    cases h
    exact Ex.ret rfl rfl rfl
def fX10_restore_20 (x1 : Int32) (y1 : Int32) (hp : HP) : Option (Int32 × HP) := (fX10_refuse y1 1 hp).bind fun q7 => if q7.1 = 0 then (if inb x1 (alen (12, 0, 0)) = true then (if (q7.2 (12, 0, 0) x1.toNatClampNeg) = 0 then (fX10_restore_42 x1 1 q7.2) else (fX10_restore_42 x1 0 q7.2)) else none) else (some (0, q7.2))
theorem exX10_restore_20 {d : Nat} {x1 : Int32} {y1 : Int32} {hp : HP} {v : (Int32 × HP)} (h : fX10_restore_20 x1 y1 hp = some v) : Ex (d + 1) kX10_restore 20 [some (vR (10, 0, 0)), some (vI x1)] [vI y1, vR (10, 0, 0)] hp (rsI v.1 v.2) := by
  replace h : ((fX10_refuse y1 1 hp).bind fun q7 => if q7.1 = 0 then (if inb x1 (alen (12, 0, 0)) = true then (if (q7.2 (12, 0, 0) x1.toNatClampNeg) = 0 then (fX10_restore_42 x1 1 q7.2) else (fX10_restore_42 x1 0 q7.2)) else none) else (some (0, q7.2))) = some v := h
  refine Ex.go 1 (pc' := 21) (ls' := [some (vR (10, 0, 0)), some (vI x1)]) (st' := [vI 1, vI y1, vR (10, 0, 0)]) (hp' := hp) (fun _ => rfl) ?_
  obtain ⟨q7, hv, h⟩ := Option.bind_eq_some_iff.mp h
  refine Ex.call (args := [vR (10, 0, 0), vI y1, vI 1]) (rest := []) rfl rfl rfl (exX10_refuse (d := d + 0) hv) ?_
  show Ex (d + 1) kX10_restore 24 [some (vR (10, 0, 0)), some (vI x1)] [vI q7.1] q7.2 _
  refine Ex.ifc rfl ?_
  by_cases hc : q7.1 = 0
  · rw [if_pos hc] at h
    rw [brI_ne_p hc]
    show Ex (d + 1) kX10_restore 27 [some (vR (10, 0, 0)), some (vI x1)] [] q7.2 _
    refine Ex.go 4 (pc' := 33) (ls' := [some (vR (10, 0, 0)), some (vI x1)]) (st' := [vI x1, vR (12, 0, 0), vR (10, 0, 0)]) (hp' := q7.2) (fun _ => rfl) ?_
    by_cases hc : inb x1 (alen (12, 0, 0)) = true
    · rw [if_pos hc] at h
      refine Ex.bald rfl rfl hc rfl ?_
      show Ex (d + 1) kX10_restore 34 [some (vR (10, 0, 0)), some (vI x1)] [vI (q7.2 (12, 0, 0) x1.toNatClampNeg), vR (10, 0, 0)] q7.2 _
      refine Ex.ifc rfl ?_
      by_cases hc : (q7.2 (12, 0, 0) x1.toNatClampNeg) = 0
      · rw [if_pos hc] at h
        rw [brI_ne_p hc]
        show Ex (d + 1) kX10_restore 37 [some (vR (10, 0, 0)), some (vI x1)] [vR (10, 0, 0)] q7.2 _
        refine Ex.go 2 (pc' := 42) (ls' := [some (vR (10, 0, 0)), some (vI x1)]) (st' := [vI 1, vR (10, 0, 0)]) (hp' := q7.2) (fun _ => rfl) ?_
        exact exX10_restore_42 h
      · rw [if_neg hc] at h
        rw [brI_ne_n hc]
        show Ex (d + 1) kX10_restore 41 [some (vR (10, 0, 0)), some (vI x1)] [vR (10, 0, 0)] q7.2 _
        refine Ex.go 1 (pc' := 42) (ls' := [some (vR (10, 0, 0)), some (vI x1)]) (st' := [vI 0, vR (10, 0, 0)]) (hp' := q7.2) (fun _ => rfl) ?_
        exact exX10_restore_42 h
    · rw [if_neg hc] at h
      cases h
  · rw [if_neg hc] at h
    rw [brI_ne_n hc]
    show Ex (d + 1) kX10_restore 49 [some (vR (10, 0, 0)), some (vI x1)] [] q7.2 _
    refine Ex.go 1 (pc' := 50) (ls' := [some (vR (10, 0, 0)), some (vI x1)]) (st' := [vI 0]) (hp' := q7.2) (fun _ => rfl) ?_
    cases h
    exact Ex.ret rfl rfl rfl
def fX10_restore (a0 : Int32) (hp : HP) : Option (Int32 × HP) := (fX10_in a0 0 1 (up hp (10, 0, 0) 0 0)).bind fun v8 => if v8 = 0 then (fX10_restore_20 a0 1 (up hp (10, 0, 0) 0 0)) else (fX10_restore_20 a0 0 (up hp (10, 0, 0) 0 0))
theorem exX10_restore {d : Nat} {a0 : Int32} {hp : HP} {v : (Int32 × HP)} (h : fX10_restore a0 hp = some v) : Calls (d + 1) 289 [vR (10, 0, 0), vI a0] hp (rsI v.1 v.2) := by
  replace h : ((fX10_in a0 0 1 (up hp (10, 0, 0) 0 0)).bind fun v8 => if v8 = 0 then (fX10_restore_20 a0 1 (up hp (10, 0, 0) 0 0)) else (fX10_restore_20 a0 0 (up hp (10, 0, 0) 0 0))) = some v := h
  show Ex (d + 1) kX10_restore 0 [some (vR (10, 0, 0)), some (vI a0)] [] hp _
  refine Ex.go 7 (pc' := 9) (ls' := [some (vR (10, 0, 0)), some (vI a0)]) (st' := [vI 1, vI 0, vI a0, vR (10, 0, 0)]) (hp' := (up hp (10, 0, 0) 0 0)) (fun _ => rfl) ?_
  obtain ⟨v8, hv, h⟩ := Option.bind_eq_some_iff.mp h
  refine Ex.call (args := [vI a0, vI 0, vI 1]) (rest := [vR (10, 0, 0)]) rfl rfl rfl (exX10_in (d := d + 0) hv) ?_
  show Ex (d + 1) kX10_restore 12 [some (vR (10, 0, 0)), some (vI a0)] [vI v8, vR (10, 0, 0)] (up hp (10, 0, 0) 0 0) _
  refine Ex.ifc rfl ?_
  by_cases hc : v8 = 0
  · rw [if_pos hc] at h
    rw [brI_ne_p hc]
    show Ex (d + 1) kX10_restore 15 [some (vR (10, 0, 0)), some (vI a0)] [vR (10, 0, 0)] (up hp (10, 0, 0) 0 0) _
    refine Ex.go 2 (pc' := 20) (ls' := [some (vR (10, 0, 0)), some (vI a0)]) (st' := [vI 1, vR (10, 0, 0)]) (hp' := (up hp (10, 0, 0) 0 0)) (fun _ => rfl) ?_
    exact exX10_restore_20 h
  · rw [if_neg hc] at h
    rw [brI_ne_n hc]
    show Ex (d + 1) kX10_restore 19 [some (vR (10, 0, 0)), some (vI a0)] [vR (10, 0, 0)] (up hp (10, 0, 0) 0 0) _
    refine Ex.go 1 (pc' := 20) (ls' := [some (vR (10, 0, 0)), some (vI a0)]) (st' := [vI 0, vR (10, 0, 0)]) (hp' := (up hp (10, 0, 0) 0 0)) (fun _ => rfl) ?_
    exact exX10_restore_20 h
end
