noncomputable section
def fX10_filled_30 (x2 : Int32) (y0 : Int32) (y1 : Int32) (k4 : Int32 → Int32 → HP → Option Int32) (hp : HP) : Option Int32 := (fX10_flag y1 hp).bind fun v1 => k4 (y0 + v1) (x2 + 1) hp
theorem exX10_filled_30 {d : Nat} {x2 : Int32} {y0 : Int32} {y1 : Int32} {j1 : Option VL} {hp : HP} {v : Int32} {k4 : Int32 → Int32 → HP → Option Int32} (hk4 : ∀ (x1 : Int32) (x2 : Int32) (hp : HP) (v : Int32), k4 x1 x2 hp = some v → Ex (d + 1) kX10_filled 4 [some (vR (10, 0, 0)), some (vI x1), some (vI x2)] [] hp (rsI v hp)) (h : fX10_filled_30 x2 y0 y1 k4 hp = some v) : Ex (d + 1) kX10_filled 30 [some (vR (10, 0, 0)), j1, some (vI x2)] [vI y1, vI y0] hp (rsI v hp) := by
  replace h : ((fX10_flag y1 hp).bind fun v1 => k4 (y0 + v1) (x2 + 1) hp) = some v := h
  obtain ⟨v1, hv, h⟩ := Option.bind_eq_some_iff.mp h
  refine Ex.call (args := [vI y1]) (rest := [vI y0]) rfl rfl rfl (exX10_flag (d := d + 0) hv) ?_
  show Ex (d + 1) kX10_filled 33 [some (vR (10, 0, 0)), j1, some (vI x2)] [vI v1, vI y0] hp _
  refine Ex.go 4 (pc' := 4) (ls' := [some (vR (10, 0, 0)), some (vI (y0 + v1)), some (vI (x2 + 1))]) (st' := []) (hp' := hp) (fun _ => rfl) ?_
  exact hk4 _ _ _ _ h
def fX10_filled_4 (n : Nat) (x1 : Int32) (x2 : Int32) (hp : HP) : Option Int32 := match n with
  | 0 => none
  | n + 1 => if x2 < 480 then (if inb (190 + x2) (alen (11, 22, 0)) = true then (if (hp (11, 22, 0) (190 + x2).toNatClampNeg) = 0 then (fX10_filled_30 x2 x1 0 (fun x1 x2 hq => fX10_filled_4 n x1 x2 hq) hp) else (fX10_filled_30 x2 x1 1 (fun x1 x2 hq => fX10_filled_4 n x1 x2 hq) hp)) else none) else (some x1)
theorem exX10_filled_4 {d : Nat} : ∀ (n : Nat) (x1 : Int32) (x2 : Int32) (hp : HP) (v : Int32), fX10_filled_4 n x1 x2 hp = some v → Ex (d + 1) kX10_filled 4 [some (vR (10, 0, 0)), some (vI x1), some (vI x2)] [] hp (rsI v hp) := by
  intro n
  induction n with
  | zero =>
    intro x1 x2 hp v h
    cases h
  | succ n ih =>
    intro x1 x2 hp v h
    replace h : (if x2 < 480 then (if inb (190 + x2) (alen (11, 22, 0)) = true then (if (hp (11, 22, 0) (190 + x2).toNatClampNeg) = 0 then (fX10_filled_30 x2 x1 0 (fun x1 x2 hq => fX10_filled_4 n x1 x2 hq) hp) else (fX10_filled_30 x2 x1 1 (fun x1 x2 hq => fX10_filled_4 n x1 x2 hq) hp)) else none) else (some x1)) = some v := h
    refine Ex.go 2 (pc' := 8) (ls' := [some (vR (10, 0, 0)), some (vI x1), some (vI x2)]) (st' := [vI 480, vI x2]) (hp' := hp) (fun _ => rfl) ?_
    refine Ex.icmp rfl ?_
    by_cases hc : x2 < 480
    · rw [if_pos hc] at h
      rw [brI_ge_p hc]
      show Ex (d + 1) kX10_filled 11 [some (vR (10, 0, 0)), some (vI x1), some (vI x2)] [] hp _
      refine Ex.go 6 (pc' := 21) (ls' := [some (vR (10, 0, 0)), some (vI x1), some (vI x2)]) (st' := [vI (190 + x2), vR (11, 22, 0), vI x1]) (hp' := hp) (fun _ => rfl) ?_
      by_cases hc : inb (190 + x2) (alen (11, 22, 0)) = true
      · rw [if_pos hc] at h
        refine Ex.iald rfl rfl hc rfl ?_
        show Ex (d + 1) kX10_filled 22 [some (vR (10, 0, 0)), some (vI x1), some (vI x2)] [vI (hp (11, 22, 0) (190 + x2).toNatClampNeg), vI x1] hp _
        refine Ex.ifc rfl ?_
        by_cases hc : (hp (11, 22, 0) (190 + x2).toNatClampNeg) = 0
        · rw [if_pos hc] at h
          rw [brI_eq_p hc]
          show Ex (d + 1) kX10_filled 29 [some (vR (10, 0, 0)), some (vI x1), some (vI x2)] [vI x1] hp _
          refine Ex.go 1 (pc' := 30) (ls' := [some (vR (10, 0, 0)), some (vI x1), some (vI x2)]) (st' := [vI 0, vI x1]) (hp' := hp) (fun _ => rfl) ?_
          exact exX10_filled_30 (fun q0 q1 q2 q3 hv => ih q0 q1 q2 q3 hv) h
        · rw [if_neg hc] at h
          rw [brI_eq_n hc]
          show Ex (d + 1) kX10_filled 25 [some (vR (10, 0, 0)), some (vI x1), some (vI x2)] [vI x1] hp _
          refine Ex.go 2 (pc' := 30) (ls' := [some (vR (10, 0, 0)), some (vI x1), some (vI x2)]) (st' := [vI 1, vI x1]) (hp' := hp) (fun _ => rfl) ?_
          exact exX10_filled_30 (fun q0 q1 q2 q3 hv => ih q0 q1 q2 q3 hv) h
      · rw [if_neg hc] at h
        cases h
    · rw [if_neg hc] at h
      rw [brI_ge_n hc]
      show Ex (d + 1) kX10_filled 41 [some (vR (10, 0, 0)), some (vI x1), some (vI x2)] [] hp _
      refine Ex.go 1 (pc' := 42) (ls' := [some (vR (10, 0, 0)), some (vI x1), some (vI x2)]) (st' := [vI x1]) (hp' := hp) (fun _ => rfl) ?_
      cases h
      exact Ex.ret rfl rfl rfl
def fX10_filled (hp : HP) : Option Int32 := fX10_filled_4 FU 0 0 hp
theorem exX10_filled {d : Nat} {hp : HP} {v : Int32} (h : fX10_filled hp = some v) : Calls (d + 1) 246 [vR (10, 0, 0)] hp (rsI v hp) := by
  replace h : (fX10_filled_4 FU 0 0 hp) = some v := h
  show Ex (d + 1) kX10_filled 0 [some (vR (10, 0, 0)), none, none] [] hp _
  refine Ex.go 4 (pc' := 4) (ls' := [some (vR (10, 0, 0)), some (vI 0), some (vI 0)]) (st' := []) (hp' := hp) (fun _ => rfl) ?_
  exact exX10_filled_4 FU _ _ _ _ h
def fX10_palest_63 (x1 : Int32) (x2 : Int32) (k13 : Int32 → Int32 → HP → Option (Int32 × HP)) (hp : HP) : Option (Int32 × HP) := k13 x1 (x2 + 1) hp
theorem exX10_palest_63 {d : Nat} {x1 : Int32} {x2 : Int32} {hp : HP} {v : (Int32 × HP)} {k13 : Int32 → Int32 → HP → Option (Int32 × HP)} (hk13 : ∀ (x1 : Int32) (x2 : Int32) (hp : HP) (v : (Int32 × HP)), k13 x1 x2 hp = some v → Ex (d + 2) kX10_palest 13 [some (vR (10, 0, 0)), some (vI x1), some (vI x2)] [] hp (rsI v.1 v.2)) (h : fX10_palest_63 x1 x2 k13 hp = some v) : Ex (d + 2) kX10_palest 63 [some (vR (10, 0, 0)), some (vI x1), some (vI x2)] [] hp (rsI v.1 v.2) := by
  replace h : (k13 x1 (x2 + 1) hp) = some v := h
  refine Ex.go 2 (pc' := 13) (ls' := [some (vR (10, 0, 0)), some (vI x1), some (vI (x2 + 1))]) (st' := []) (hp' := hp) (fun _ => rfl) ?_
  exact hk13 _ _ _ _ h
def fX10_palest_61 (x2 : Int32) (k13 : Int32 → Int32 → HP → Option (Int32 × HP)) (hp : HP) : Option (Int32 × HP) := fX10_palest_63 x2 x2 k13 hp
theorem exX10_palest_61 {d : Nat} {x2 : Int32} {j1 : Option VL} {hp : HP} {v : (Int32 × HP)} {k13 : Int32 → Int32 → HP → Option (Int32 × HP)} (hk13 : ∀ (x1 : Int32) (x2 : Int32) (hp : HP) (v : (Int32 × HP)), k13 x1 x2 hp = some v → Ex (d + 2) kX10_palest 13 [some (vR (10, 0, 0)), some (vI x1), some (vI x2)] [] hp (rsI v.1 v.2)) (h : fX10_palest_61 x2 k13 hp = some v) : Ex (d + 2) kX10_palest 61 [some (vR (10, 0, 0)), j1, some (vI x2)] [] hp (rsI v.1 v.2) := by
  replace h : (fX10_palest_63 x2 x2 k13 hp) = some v := h
  refine Ex.go 2 (pc' := 63) (ls' := [some (vR (10, 0, 0)), some (vI x2), some (vI x2)]) (st' := []) (hp' := hp) (fun _ => rfl) ?_
  exact exX10_palest_63 hk13 h
def fX10_palest_13 (n : Nat) (x1 : Int32) (x2 : Int32) (hp : HP) : Option (Int32 × HP) := match n with
  | 0 => none
  | n + 1 => if x2 < 480 then (if inb (190 + x2) (alen (11, 22, 0)) = true then (if (hp (11, 22, 0) (190 + x2).toNatClampNeg) = 0 then (fX10_palest_63 x1 x2 (fun x1 x2 hq => fX10_palest_13 n x1 x2 hq) hp) else (if x1 = m1 then (fX10_palest_61 x2 (fun x1 x2 hq => fX10_palest_13 n x1 x2 hq) hp) else (if inb (670 + x2) (alen (11, 22, 0)) = true then (if inb (670 + x1) (alen (11, 22, 0)) = true then (if (hp (11, 22, 0) (670 + x2).toNatClampNeg) < (hp (11, 22, 0) (670 + x1).toNatClampNeg) then (fX10_palest_61 x2 (fun x1 x2 hq => fX10_palest_13 n x1 x2 hq) hp) else (fX10_palest_63 x1 x2 (fun x1 x2 hq => fX10_palest_13 n x1 x2 hq) hp)) else none) else none))) else none) else (if x1 = m1 then (some (m1, hp)) else ((fX10_its 0 hp).bind fun v1 => some (((v1 * (idv x1 40)) + (irm x1 40)), hp)))
theorem exX10_palest_13 {d : Nat} : ∀ (n : Nat) (x1 : Int32) (x2 : Int32) (hp : HP) (v : (Int32 × HP)), fX10_palest_13 n x1 x2 hp = some v → Ex (d + 2) kX10_palest 13 [some (vR (10, 0, 0)), some (vI x1), some (vI x2)] [] hp (rsI v.1 v.2) := by
  intro n
  induction n with
  | zero =>
    intro x1 x2 hp v h
    cases h
  | succ n ih =>
    intro x1 x2 hp v h
    replace h : (if x2 < 480 then (if inb (190 + x2) (alen (11, 22, 0)) = true then (if (hp (11, 22, 0) (190 + x2).toNatClampNeg) = 0 then (fX10_palest_63 x1 x2 (fun x1 x2 hq => fX10_palest_13 n x1 x2 hq) hp) else (if x1 = m1 then (fX10_palest_61 x2 (fun x1 x2 hq => fX10_palest_13 n x1 x2 hq) hp) else (if inb (670 + x2) (alen (11, 22, 0)) = true then (if inb (670 + x1) (alen (11, 22, 0)) = true then (if (hp (11, 22, 0) (670 + x2).toNatClampNeg) < (hp (11, 22, 0) (670 + x1).toNatClampNeg) then (fX10_palest_61 x2 (fun x1 x2 hq => fX10_palest_13 n x1 x2 hq) hp) else (fX10_palest_63 x1 x2 (fun x1 x2 hq => fX10_palest_13 n x1 x2 hq) hp)) else none) else none))) else none) else (if x1 = m1 then (some (m1, hp)) else ((fX10_its 0 hp).bind fun v1 => some (((v1 * (idv x1 40)) + (irm x1 40)), hp)))) = some v := h
    refine Ex.go 2 (pc' := 17) (ls' := [some (vR (10, 0, 0)), some (vI x1), some (vI x2)]) (st' := [vI 480, vI x2]) (hp' := hp) (fun _ => rfl) ?_
    refine Ex.icmp rfl ?_
    by_cases hc : x2 < 480
    · rw [if_pos hc] at h
      rw [brI_ge_p hc]
      show Ex (d + 2) kX10_palest 20 [some (vR (10, 0, 0)), some (vI x1), some (vI x2)] [] hp _
      refine Ex.go 5 (pc' := 29) (ls' := [some (vR (10, 0, 0)), some (vI x1), some (vI x2)]) (st' := [vI (190 + x2), vR (11, 22, 0)]) (hp' := hp) (fun _ => rfl) ?_
      by_cases hc : inb (190 + x2) (alen (11, 22, 0)) = true
      · rw [if_pos hc] at h
        refine Ex.iald rfl rfl hc rfl ?_
        show Ex (d + 2) kX10_palest 30 [some (vR (10, 0, 0)), some (vI x1), some (vI x2)] [vI (hp (11, 22, 0) (190 + x2).toNatClampNeg)] hp _
        refine Ex.ifc rfl ?_
        by_cases hc : (hp (11, 22, 0) (190 + x2).toNatClampNeg) = 0
        · rw [if_pos hc] at h
          rw [brI_eq_p hc]
          show Ex (d + 2) kX10_palest 63 [some (vR (10, 0, 0)), some (vI x1), some (vI x2)] [] hp _
          exact exX10_palest_63 (fun q0 q1 q2 q3 hv => ih q0 q1 q2 q3 hv) h
        · rw [if_neg hc] at h
          rw [brI_eq_n hc]
          show Ex (d + 2) kX10_palest 33 [some (vR (10, 0, 0)), some (vI x1), some (vI x2)] [] hp _
          refine Ex.go 2 (pc' := 35) (ls' := [some (vR (10, 0, 0)), some (vI x1), some (vI x2)]) (st' := [vI m1, vI x1]) (hp' := hp) (fun _ => rfl) ?_
          refine Ex.icmp rfl ?_
          by_cases hc : x1 = m1
          · rw [if_pos hc] at h
            rw [brI_eq_p hc]
            show Ex (d + 2) kX10_palest 61 [some (vR (10, 0, 0)), some (vI x1), some (vI x2)] [] hp _
            exact exX10_palest_61 (fun q0 q1 q2 q3 hv => ih q0 q1 q2 q3 hv) h
          · rw [if_neg hc] at h
            rw [brI_eq_n hc]
            show Ex (d + 2) kX10_palest 38 [some (vR (10, 0, 0)), some (vI x1), some (vI x2)] [] hp _
            refine Ex.go 5 (pc' := 47) (ls' := [some (vR (10, 0, 0)), some (vI x1), some (vI x2)]) (st' := [vI (670 + x2), vR (11, 22, 0)]) (hp' := hp) (fun _ => rfl) ?_
            by_cases hc : inb (670 + x2) (alen (11, 22, 0)) = true
            · rw [if_pos hc] at h
              refine Ex.iald rfl rfl hc rfl ?_
              show Ex (d + 2) kX10_palest 48 [some (vR (10, 0, 0)), some (vI x1), some (vI x2)] [vI (hp (11, 22, 0) (670 + x2).toNatClampNeg)] hp _
              refine Ex.go 5 (pc' := 57) (ls' := [some (vR (10, 0, 0)), some (vI x1), some (vI x2)]) (st' := [vI (670 + x1), vR (11, 22, 0), vI (hp (11, 22, 0) (670 + x2).toNatClampNeg)]) (hp' := hp) (fun _ => rfl) ?_
              by_cases hc : inb (670 + x1) (alen (11, 22, 0)) = true
              · rw [if_pos hc] at h
                refine Ex.iald rfl rfl hc rfl ?_
                show Ex (d + 2) kX10_palest 58 [some (vR (10, 0, 0)), some (vI x1), some (vI x2)] [vI (hp (11, 22, 0) (670 + x1).toNatClampNeg), vI (hp (11, 22, 0) (670 + x2).toNatClampNeg)] hp _
                refine Ex.icmp rfl ?_
                by_cases hc : (hp (11, 22, 0) (670 + x2).toNatClampNeg) < (hp (11, 22, 0) (670 + x1).toNatClampNeg)
                · rw [if_pos hc] at h
                  rw [brI_ge_p hc]
                  show Ex (d + 2) kX10_palest 61 [some (vR (10, 0, 0)), some (vI x1), some (vI x2)] [] hp _
                  exact exX10_palest_61 (fun q0 q1 q2 q3 hv => ih q0 q1 q2 q3 hv) h
                · rw [if_neg hc] at h
                  rw [brI_ge_n hc]
                  show Ex (d + 2) kX10_palest 63 [some (vR (10, 0, 0)), some (vI x1), some (vI x2)] [] hp _
                  exact exX10_palest_63 (fun q0 q1 q2 q3 hv => ih q0 q1 q2 q3 hv) h
              · rw [if_neg hc] at h
                cases h
            · rw [if_neg hc] at h
              cases h
      · rw [if_neg hc] at h
        cases h
    · rw [if_neg hc] at h
      rw [brI_ge_n hc]
      show Ex (d + 2) kX10_palest 69 [some (vR (10, 0, 0)), some (vI x1), some (vI x2)] [] hp _
      refine Ex.go 2 (pc' := 71) (ls' := [some (vR (10, 0, 0)), some (vI x1), some (vI x2)]) (st' := [vI m1, vI x1]) (hp' := hp) (fun _ => rfl) ?_
      refine Ex.icmp rfl ?_
      by_cases hc : x1 = m1
      · rw [if_pos hc] at h
        rw [brI_ne_p hc]
        show Ex (d + 2) kX10_palest 74 [some (vR (10, 0, 0)), some (vI x1), some (vI x2)] [] hp _
        refine Ex.go 2 (pc' := 93) (ls' := [some (vR (10, 0, 0)), some (vI x1), some (vI x2)]) (st' := [vI m1]) (hp' := hp) (fun _ => rfl) ?_
        cases h
        exact Ex.ret rfl rfl rfl
      · rw [if_neg hc] at h
        rw [brI_ne_n hc]
        show Ex (d + 2) kX10_palest 78 [some (vR (10, 0, 0)), some (vI x1), some (vI x2)] [] hp _
        refine Ex.go 2 (pc' := 80) (ls' := [some (vR (10, 0, 0)), some (vI x1), some (vI x2)]) (st' := [vI 0, vR (10, 0, 0)]) (hp' := hp) (fun _ => rfl) ?_
        obtain ⟨v1, hv, h⟩ := Option.bind_eq_some_iff.mp h
        refine Ex.call (args := [vR (10, 0, 0), vI 0]) (rest := []) rfl rfl rfl (exX10_its (d := d + 1) hv) ?_
        show Ex (d + 2) kX10_palest 83 [some (vR (10, 0, 0)), some (vI x1), some (vI x2)] [vI v1] hp _
        refine Ex.go 2 (pc' := 86) (ls' := [some (vR (10, 0, 0)), some (vI x1), some (vI x2)]) (st' := [vI 40, vI x1, vI v1]) (hp' := hp) (fun _ => rfl) ?_
        refine Ex.idiv rfl (by decide) ?_
        show Ex (d + 2) kX10_palest 87 [some (vR (10, 0, 0)), some (vI x1), some (vI x2)] [vI (idv x1 40), vI v1] hp _
        refine Ex.go 3 (pc' := 91) (ls' := [some (vR (10, 0, 0)), some (vI x1), some (vI x2)]) (st' := [vI 40, vI x1, vI (v1 * (idv x1 40))]) (hp' := hp) (fun _ => rfl) ?_
        refine Ex.irem rfl (by decide) ?_
        show Ex (d + 2) kX10_palest 92 [some (vR (10, 0, 0)), some (vI x1), some (vI x2)] [vI (irm x1 40), vI (v1 * (idv x1 40))] hp _
        refine Ex.go 1 (pc' := 93) (ls' := [some (vR (10, 0, 0)), some (vI x1), some (vI x2)]) (st' := [vI ((v1 * (idv x1 40)) + (irm x1 40))]) (hp' := hp) (fun _ => rfl) ?_
        cases h
        exact Ex.ret rfl rfl rfl
def fX10_palest (hp : HP) : Option (Int32 × HP) := (fX10_notLoaded hp).bind fun q3 => if q3.1 = 0 then (fX10_palest_13 FU m1 0 q3.2) else (some (0, q3.2))
theorem exX10_palest {d : Nat} {hp : HP} {v : (Int32 × HP)} (h : fX10_palest hp = some v) : Calls (d + 2) 247 [vR (10, 0, 0)] hp (rsI v.1 v.2) := by
  replace h : ((fX10_notLoaded hp).bind fun q3 => if q3.1 = 0 then (fX10_palest_13 FU m1 0 q3.2) else (some (0, q3.2))) = some v := h
  show Ex (d + 2) kX10_palest 0 [some (vR (10, 0, 0)), none, none] [] hp _
  refine Ex.go 1 (pc' := 1) (ls' := [some (vR (10, 0, 0)), none, none]) (st' := [vR (10, 0, 0)]) (hp' := hp) (fun _ => rfl) ?_
  obtain ⟨q3, hv, h⟩ := Option.bind_eq_some_iff.mp h
  refine Ex.call (args := [vR (10, 0, 0)]) (rest := []) rfl rfl rfl (exX10_notLoaded (d := d + 0) hv) ?_
  show Ex (d + 2) kX10_palest 4 [some (vR (10, 0, 0)), none, none] [vI q3.1] q3.2 _
  refine Ex.ifc rfl ?_
  by_cases hc : q3.1 = 0
  · rw [if_pos hc] at h
    rw [brI_eq_p hc]
    show Ex (d + 2) kX10_palest 9 [some (vR (10, 0, 0)), none, none] [] q3.2 _
    refine Ex.go 4 (pc' := 13) (ls' := [some (vR (10, 0, 0)), some (vI m1), some (vI 0)]) (st' := []) (hp' := q3.2) (fun _ => rfl) ?_
    exact exX10_palest_13 FU _ _ _ _ h
  · rw [if_neg hc] at h
    rw [brI_eq_n hc]
    show Ex (d + 2) kX10_palest 7 [some (vR (10, 0, 0)), none, none] [] q3.2 _
    refine Ex.go 1 (pc' := 8) (ls' := [some (vR (10, 0, 0)), none, none]) (st' := [vI 0]) (hp' := q3.2) (fun _ => rfl) ?_
    cases h
    exact Ex.ret rfl rfl rfl
def fX10_meanDarkness_14 (hp : HP) : Option (UInt64 × HP) := some (FP.dconst0, hp)
theorem exX10_meanDarkness_14 {d : Nat} {j1 : Option VL} {j2 : Option VL} {hp : HP} {v : (UInt64 × HP)} (h : fX10_meanDarkness_14 hp = some v) : Ex (d + 2) kX10_meanDarkness 14 [some (vR (10, 0, 0)), j1, j2] [] hp (rsD v.1 v.2) := by
  replace h : (some (FP.dconst0, hp)) = some v := h
  refine Ex.go 1 (pc' := 15) (ls' := [some (vR (10, 0, 0)), j1, j2]) (st' := [vD FP.dconst0]) (hp' := hp) (fun _ => rfl) ?_
  cases h
  exact Ex.ret rfl rfl rfl
def fX10_meanDarkness_20 (n : Nat) (x1 : Int32) (x2 : Int32) (hp : HP) : Option (UInt64 × HP) := match n with
  | 0 => none
  | n + 1 => if x2 < 480 then (if inb (670 + x2) (alen (11, 22, 0)) = true then (fX10_meanDarkness_20 n (x1 + (hp (11, 22, 0) (670 + x2).toNatClampNeg)) (x2 + 1) hp) else none) else ((fX10_filled hp).bind fun v1 => if okD (FP.ddiv (FP.i2d x1) (FP.i2d v1)) = true then (some ((FP.ddiv (FP.i2d x1) (FP.i2d v1)), hp)) else none)
theorem exX10_meanDarkness_20 {d : Nat} : ∀ (n : Nat) (x1 : Int32) (x2 : Int32) (hp : HP) (v : (UInt64 × HP)), fX10_meanDarkness_20 n x1 x2 hp = some v → Ex (d + 2) kX10_meanDarkness 20 [some (vR (10, 0, 0)), some (vI x1), some (vI x2)] [] hp (rsD v.1 v.2) := by
  intro n
  induction n with
  | zero =>
    intro x1 x2 hp v h
    cases h
  | succ n ih =>
    intro x1 x2 hp v h
    replace h : (if x2 < 480 then (if inb (670 + x2) (alen (11, 22, 0)) = true then (fX10_meanDarkness_20 n (x1 + (hp (11, 22, 0) (670 + x2).toNatClampNeg)) (x2 + 1) hp) else none) else ((fX10_filled hp).bind fun v1 => if okD (FP.ddiv (FP.i2d x1) (FP.i2d v1)) = true then (some ((FP.ddiv (FP.i2d x1) (FP.i2d v1)), hp)) else none)) = some v := h
    refine Ex.go 2 (pc' := 24) (ls' := [some (vR (10, 0, 0)), some (vI x1), some (vI x2)]) (st' := [vI 480, vI x2]) (hp' := hp) (fun _ => rfl) ?_
    refine Ex.icmp rfl ?_
    by_cases hc : x2 < 480
    · rw [if_pos hc] at h
      rw [brI_ge_p hc]
      show Ex (d + 2) kX10_meanDarkness 27 [some (vR (10, 0, 0)), some (vI x1), some (vI x2)] [] hp _
      refine Ex.go 6 (pc' := 37) (ls' := [some (vR (10, 0, 0)), some (vI x1), some (vI x2)]) (st' := [vI (670 + x2), vR (11, 22, 0), vI x1]) (hp' := hp) (fun _ => rfl) ?_
      by_cases hc : inb (670 + x2) (alen (11, 22, 0)) = true
      · rw [if_pos hc] at h
        refine Ex.iald rfl rfl hc rfl ?_
        show Ex (d + 2) kX10_meanDarkness 38 [some (vR (10, 0, 0)), some (vI x1), some (vI x2)] [vI (hp (11, 22, 0) (670 + x2).toNatClampNeg), vI x1] hp _
        refine Ex.go 4 (pc' := 20) (ls' := [some (vR (10, 0, 0)), some (vI (x1 + (hp (11, 22, 0) (670 + x2).toNatClampNeg))), some (vI (x2 + 1))]) (st' := []) (hp' := hp) (fun _ => rfl) ?_
        exact ih _ _ _ _ h
      · rw [if_neg hc] at h
        cases h
    · rw [if_neg hc] at h
      rw [brI_ge_n hc]
      show Ex (d + 2) kX10_meanDarkness 46 [some (vR (10, 0, 0)), some (vI x1), some (vI x2)] [] hp _
      refine Ex.go 3 (pc' := 49) (ls' := [some (vR (10, 0, 0)), some (vI x1), some (vI x2)]) (st' := [vR (10, 0, 0), vD (FP.i2d x1)]) (hp' := hp) (fun _ => rfl) ?_
      obtain ⟨v1, hv, h⟩ := Option.bind_eq_some_iff.mp h
      refine Ex.call (args := [vR (10, 0, 0)]) (rest := [vD (FP.i2d x1)]) rfl rfl rfl (exX10_filled (d := d + 0) hv) ?_
      show Ex (d + 2) kX10_meanDarkness 52 [some (vR (10, 0, 0)), some (vI x1), some (vI x2)] [vI v1, vD (FP.i2d x1)] hp _
      refine Ex.go 1 (pc' := 53) (ls' := [some (vR (10, 0, 0)), some (vI x1), some (vI x2)]) (st' := [vD (FP.i2d v1), vD (FP.i2d x1)]) (hp' := hp) (fun _ => rfl) ?_
      by_cases hc : okD (FP.ddiv (FP.i2d x1) (FP.i2d v1)) = true
      · rw [if_pos hc] at h
        refine Ex.ddiv rfl hc ?_
        show Ex (d + 2) kX10_meanDarkness 54 [some (vR (10, 0, 0)), some (vI x1), some (vI x2)] [vD (FP.ddiv (FP.i2d x1) (FP.i2d v1))] hp _
        cases h
        exact Ex.ret rfl rfl rfl
      · rw [if_neg hc] at h
        cases h
def fX10_meanDarkness (hp : HP) : Option (UInt64 × HP) := (fX10_notLoaded hp).bind fun q3 => if q3.1 = 0 then ((fX10_filled q3.2).bind fun v4 => if v4 = 0 then (fX10_meanDarkness_14 q3.2) else (fX10_meanDarkness_20 FU 0 0 q3.2)) else (fX10_meanDarkness_14 q3.2)
theorem exX10_meanDarkness {d : Nat} {hp : HP} {v : (UInt64 × HP)} (h : fX10_meanDarkness hp = some v) : Calls (d + 2) 248 [vR (10, 0, 0)] hp (rsD v.1 v.2) := by
  replace h : ((fX10_notLoaded hp).bind fun q3 => if q3.1 = 0 then ((fX10_filled q3.2).bind fun v4 => if v4 = 0 then (fX10_meanDarkness_14 q3.2) else (fX10_meanDarkness_20 FU 0 0 q3.2)) else (fX10_meanDarkness_14 q3.2)) = some v := h
  show Ex (d + 2) kX10_meanDarkness 0 [some (vR (10, 0, 0)), none, none] [] hp _
  refine Ex.go 1 (pc' := 1) (ls' := [some (vR (10, 0, 0)), none, none]) (st' := [vR (10, 0, 0)]) (hp' := hp) (fun _ => rfl) ?_
  obtain ⟨q3, hv, h⟩ := Option.bind_eq_some_iff.mp h
  refine Ex.call (args := [vR (10, 0, 0)]) (rest := []) rfl rfl rfl (exX10_notLoaded (d := d + 0) hv) ?_
  show Ex (d + 2) kX10_meanDarkness 4 [some (vR (10, 0, 0)), none, none] [vI q3.1] q3.2 _
  refine Ex.ifc rfl ?_
  by_cases hc : q3.1 = 0
  · rw [if_pos hc] at h
    rw [brI_ne_p hc]
    show Ex (d + 2) kX10_meanDarkness 7 [some (vR (10, 0, 0)), none, none] [] q3.2 _
    refine Ex.go 1 (pc' := 8) (ls' := [some (vR (10, 0, 0)), none, none]) (st' := [vR (10, 0, 0)]) (hp' := q3.2) (fun _ => rfl) ?_
    obtain ⟨v4, hv, h⟩ := Option.bind_eq_some_iff.mp h
    refine Ex.call (args := [vR (10, 0, 0)]) (rest := []) rfl rfl rfl (exX10_filled (d := d + 0) hv) ?_
    show Ex (d + 2) kX10_meanDarkness 11 [some (vR (10, 0, 0)), none, none] [vI v4] q3.2 _
    refine Ex.ifc rfl ?_
    by_cases hc : v4 = 0
    · rw [if_pos hc] at h
      rw [brI_ne_p hc]
      show Ex (d + 2) kX10_meanDarkness 14 [some (vR (10, 0, 0)), none, none] [] q3.2 _
      exact exX10_meanDarkness_14 h
    · rw [if_neg hc] at h
      rw [brI_ne_n hc]
      show Ex (d + 2) kX10_meanDarkness 16 [some (vR (10, 0, 0)), none, none] [] q3.2 _
      refine Ex.go 4 (pc' := 20) (ls' := [some (vR (10, 0, 0)), some (vI 0), some (vI 0)]) (st' := []) (hp' := q3.2) (fun _ => rfl) ?_
      exact exX10_meanDarkness_20 FU _ _ _ _ h
  · rw [if_neg hc] at h
    rw [brI_ne_n hc]
    show Ex (d + 2) kX10_meanDarkness 14 [some (vR (10, 0, 0)), none, none] [] q3.2 _
    exact exX10_meanDarkness_14 h
def fX10_inkShare_31 (y0 : UInt32) (hp : HP) : Option (UInt32 × HP) := some (y0, hp)
theorem exX10_inkShare_31 {d : Nat} {y0 : UInt32} {hp : HP} {v : (UInt32 × HP)} (h : fX10_inkShare_31 y0 hp = some v) : Ex (d + 2) kX10_inkShare 31 [some (vR (10, 0, 0))] [vF y0] hp (rsF v.1 v.2) := by
  replace h : (some (y0, hp)) = some v := h
  cases h
  exact Ex.ret rfl rfl rfl
def fX10_inkShare (hp : HP) : Option (UInt32 × HP) := (fX10_notLoaded hp).bind fun q2 => if q2.1 = 0 then ((fX10_allInk q2.2).bind fun v3 => (fX10_its 9 q2.2).bind fun v4 => (fX10_its 10 q2.2).bind fun v5 => if okF (FP.fdiv (FP.i2f v3) (FP.i2f (v4 * v5))) = true then (fX10_inkShare_31 (FP.fdiv (FP.i2f v3) (FP.i2f (v4 * v5))) q2.2) else none) else (fX10_inkShare_31 FP.fconst0 q2.2)
theorem exX10_inkShare {d : Nat} {hp : HP} {v : (UInt32 × HP)} (h : fX10_inkShare hp = some v) : Calls (d + 2) 249 [vR (10, 0, 0)] hp (rsF v.1 v.2) := by
  replace h : ((fX10_notLoaded hp).bind fun q2 => if q2.1 = 0 then ((fX10_allInk q2.2).bind fun v3 => (fX10_its 9 q2.2).bind fun v4 => (fX10_its 10 q2.2).bind fun v5 => if okF (FP.fdiv (FP.i2f v3) (FP.i2f (v4 * v5))) = true then (fX10_inkShare_31 (FP.fdiv (FP.i2f v3) (FP.i2f (v4 * v5))) q2.2) else none) else (fX10_inkShare_31 FP.fconst0 q2.2)) = some v := h
  show Ex (d + 2) kX10_inkShare 0 [some (vR (10, 0, 0))] [] hp _
  refine Ex.go 1 (pc' := 1) (ls' := [some (vR (10, 0, 0))]) (st' := [vR (10, 0, 0)]) (hp' := hp) (fun _ => rfl) ?_
  obtain ⟨q2, hv, h⟩ := Option.bind_eq_some_iff.mp h
  refine Ex.call (args := [vR (10, 0, 0)]) (rest := []) rfl rfl rfl (exX10_notLoaded (d := d + 0) hv) ?_
  show Ex (d + 2) kX10_inkShare 4 [some (vR (10, 0, 0))] [vI q2.1] q2.2 _
  refine Ex.ifc rfl ?_
  by_cases hc : q2.1 = 0
  · rw [if_pos hc] at h
    rw [brI_eq_p hc]
    show Ex (d + 2) kX10_inkShare 11 [some (vR (10, 0, 0))] [] q2.2 _
    refine Ex.go 1 (pc' := 12) (ls' := [some (vR (10, 0, 0))]) (st' := [vR (10, 0, 0)]) (hp' := q2.2) (fun _ => rfl) ?_
    obtain ⟨v3, hv, h⟩ := Option.bind_eq_some_iff.mp h
    refine Ex.call (args := [vR (10, 0, 0)]) (rest := []) rfl rfl rfl (exX10_allInk (d := d + 0) hv) ?_
    show Ex (d + 2) kX10_inkShare 15 [some (vR (10, 0, 0))] [vI v3] q2.2 _
    refine Ex.go 3 (pc' := 19) (ls' := [some (vR (10, 0, 0))]) (st' := [vI 9, vR (10, 0, 0), vF (FP.i2f v3)]) (hp' := q2.2) (fun _ => rfl) ?_
    obtain ⟨v4, hv, h⟩ := Option.bind_eq_some_iff.mp h
    refine Ex.call (args := [vR (10, 0, 0), vI 9]) (rest := [vF (FP.i2f v3)]) rfl rfl rfl (exX10_its (d := d + 1) hv) ?_
    show Ex (d + 2) kX10_inkShare 22 [some (vR (10, 0, 0))] [vI v4, vF (FP.i2f v3)] q2.2 _
    refine Ex.go 2 (pc' := 25) (ls' := [some (vR (10, 0, 0))]) (st' := [vI 10, vR (10, 0, 0), vI v4, vF (FP.i2f v3)]) (hp' := q2.2) (fun _ => rfl) ?_
    obtain ⟨v5, hv, h⟩ := Option.bind_eq_some_iff.mp h
    refine Ex.call (args := [vR (10, 0, 0), vI 10]) (rest := [vI v4, vF (FP.i2f v3)]) rfl rfl rfl (exX10_its (d := d + 1) hv) ?_
    show Ex (d + 2) kX10_inkShare 28 [some (vR (10, 0, 0))] [vI v5, vI v4, vF (FP.i2f v3)] q2.2 _
    refine Ex.go 2 (pc' := 30) (ls' := [some (vR (10, 0, 0))]) (st' := [vF (FP.i2f (v4 * v5)), vF (FP.i2f v3)]) (hp' := q2.2) (fun _ => rfl) ?_
    by_cases hc : okF (FP.fdiv (FP.i2f v3) (FP.i2f (v4 * v5))) = true
    · rw [if_pos hc] at h
      refine Ex.fdiv rfl hc ?_
      show Ex (d + 2) kX10_inkShare 31 [some (vR (10, 0, 0))] [vF (FP.fdiv (FP.i2f v3) (FP.i2f (v4 * v5)))] q2.2 _
      exact exX10_inkShare_31 h
    · rw [if_neg hc] at h
      cases h
  · rw [if_neg hc] at h
    rw [brI_eq_n hc]
    show Ex (d + 2) kX10_inkShare 7 [some (vR (10, 0, 0))] [] q2.2 _
    refine Ex.go 2 (pc' := 31) (ls' := [some (vR (10, 0, 0))]) (st' := [vF FP.fconst0]) (hp' := q2.2) (fun _ => rfl) ?_
    exact exX10_inkShare_31 h
def fX10_slowest_44 (x2 : Int32) (y0 : Int32) (k13 : Int32 → Int32 → HP → Option (Int32 × HP)) (hp : HP) : Option (Int32 × HP) := k13 y0 (x2 + 1) hp
theorem exX10_slowest_44 {d : Nat} {x2 : Int32} {y0 : Int32} {j1 : Option VL} {hp : HP} {v : (Int32 × HP)} {k13 : Int32 → Int32 → HP → Option (Int32 × HP)} (hk13 : ∀ (x1 : Int32) (x2 : Int32) (hp : HP) (v : (Int32 × HP)), k13 x1 x2 hp = some v → Ex (d + 2) kX10_slowest 13 [some (vR (10, 0, 0)), some (vI x1), some (vI x2)] [] hp (rsI v.1 v.2)) (h : fX10_slowest_44 x2 y0 k13 hp = some v) : Ex (d + 2) kX10_slowest 44 [some (vR (10, 0, 0)), j1, some (vI x2)] [vI y0] hp (rsI v.1 v.2) := by
  replace h : (k13 y0 (x2 + 1) hp) = some v := h
  refine Ex.go 3 (pc' := 13) (ls' := [some (vR (10, 0, 0)), some (vI y0), some (vI (x2 + 1))]) (st' := []) (hp' := hp) (fun _ => rfl) ?_
  exact hk13 _ _ _ _ h
def fX10_slowest_39 (x2 : Int32) (k13 : Int32 → Int32 → HP → Option (Int32 × HP)) (hp : HP) : Option (Int32 × HP) := fX10_slowest_44 x2 x2 k13 hp
theorem exX10_slowest_39 {d : Nat} {x2 : Int32} {j1 : Option VL} {hp : HP} {v : (Int32 × HP)} {k13 : Int32 → Int32 → HP → Option (Int32 × HP)} (hk13 : ∀ (x1 : Int32) (x2 : Int32) (hp : HP) (v : (Int32 × HP)), k13 x1 x2 hp = some v → Ex (d + 2) kX10_slowest 13 [some (vR (10, 0, 0)), some (vI x1), some (vI x2)] [] hp (rsI v.1 v.2)) (h : fX10_slowest_39 x2 k13 hp = some v) : Ex (d + 2) kX10_slowest 39 [some (vR (10, 0, 0)), j1, some (vI x2)] [] hp (rsI v.1 v.2) := by
  replace h : (fX10_slowest_44 x2 x2 k13 hp) = some v := h
  refine Ex.go 2 (pc' := 44) (ls' := [some (vR (10, 0, 0)), j1, some (vI x2)]) (st' := [vI x2]) (hp' := hp) (fun _ => rfl) ?_
  exact exX10_slowest_44 hk13 h
def fX10_slowest_13 (n : Nat) (x1 : Int32) (x2 : Int32) (hp : HP) : Option (Int32 × HP) := match n with
  | 0 => none
  | n + 1 => if x2 < (hp (10, 0, 0) 2) then (if x1 = m1 then (fX10_slowest_39 x2 (fun x1 x2 hq => fX10_slowest_13 n x1 x2 hq) hp) else ((fX10_rise x2 hp).bind fun v1 => (fX10_rise x1 hp).bind fun v2 => if v2 < v1 then (fX10_slowest_39 x2 (fun x1 x2 hq => fX10_slowest_13 n x1 x2 hq) hp) else (fX10_slowest_44 x2 x1 (fun x1 x2 hq => fX10_slowest_13 n x1 x2 hq) hp))) else (some (x1, hp))
theorem exX10_slowest_13 {d : Nat} : ∀ (n : Nat) (x1 : Int32) (x2 : Int32) (hp : HP) (v : (Int32 × HP)), fX10_slowest_13 n x1 x2 hp = some v → Ex (d + 2) kX10_slowest 13 [some (vR (10, 0, 0)), some (vI x1), some (vI x2)] [] hp (rsI v.1 v.2) := by
  intro n
  induction n with
  | zero =>
    intro x1 x2 hp v h
    cases h
  | succ n ih =>
    intro x1 x2 hp v h
    replace h : (if x2 < (hp (10, 0, 0) 2) then (if x1 = m1 then (fX10_slowest_39 x2 (fun x1 x2 hq => fX10_slowest_13 n x1 x2 hq) hp) else ((fX10_rise x2 hp).bind fun v1 => (fX10_rise x1 hp).bind fun v2 => if v2 < v1 then (fX10_slowest_39 x2 (fun x1 x2 hq => fX10_slowest_13 n x1 x2 hq) hp) else (fX10_slowest_44 x2 x1 (fun x1 x2 hq => fX10_slowest_13 n x1 x2 hq) hp))) else (some (x1, hp))) = some v := h
    refine Ex.go 3 (pc' := 18) (ls' := [some (vR (10, 0, 0)), some (vI x1), some (vI x2)]) (st' := [vI (hp (10, 0, 0) 2), vI x2]) (hp' := hp) (fun _ => rfl) ?_
    refine Ex.icmp rfl ?_
    by_cases hc : x2 < (hp (10, 0, 0) 2)
    · rw [if_pos hc] at h
      rw [brI_ge_p hc]
      show Ex (d + 2) kX10_slowest 21 [some (vR (10, 0, 0)), some (vI x1), some (vI x2)] [] hp _
      refine Ex.go 2 (pc' := 23) (ls' := [some (vR (10, 0, 0)), some (vI x1), some (vI x2)]) (st' := [vI m1, vI x1]) (hp' := hp) (fun _ => rfl) ?_
      refine Ex.icmp rfl ?_
      by_cases hc : x1 = m1
      · rw [if_pos hc] at h
        rw [brI_eq_p hc]
        show Ex (d + 2) kX10_slowest 39 [some (vR (10, 0, 0)), some (vI x1), some (vI x2)] [] hp _
        exact exX10_slowest_39 (fun q0 q1 q2 q3 hv => ih q0 q1 q2 q3 hv) h
      · rw [if_neg hc] at h
        rw [brI_eq_n hc]
        show Ex (d + 2) kX10_slowest 26 [some (vR (10, 0, 0)), some (vI x1), some (vI x2)] [] hp _
        refine Ex.go 2 (pc' := 28) (ls' := [some (vR (10, 0, 0)), some (vI x1), some (vI x2)]) (st' := [vI x2, vR (10, 0, 0)]) (hp' := hp) (fun _ => rfl) ?_
        obtain ⟨v1, hv, h⟩ := Option.bind_eq_some_iff.mp h
        refine Ex.call (args := [vR (10, 0, 0), vI x2]) (rest := []) rfl rfl rfl (exX10_rise (d := d + 0) hv) ?_
        show Ex (d + 2) kX10_slowest 31 [some (vR (10, 0, 0)), some (vI x1), some (vI x2)] [vI v1] hp _
        refine Ex.go 2 (pc' := 33) (ls' := [some (vR (10, 0, 0)), some (vI x1), some (vI x2)]) (st' := [vI x1, vR (10, 0, 0), vI v1]) (hp' := hp) (fun _ => rfl) ?_
        obtain ⟨v2, hv, h⟩ := Option.bind_eq_some_iff.mp h
        refine Ex.call (args := [vR (10, 0, 0), vI x1]) (rest := [vI v1]) rfl rfl rfl (exX10_rise (d := d + 0) hv) ?_
        show Ex (d + 2) kX10_slowest 36 [some (vR (10, 0, 0)), some (vI x1), some (vI x2)] [vI v2, vI v1] hp _
        refine Ex.icmp rfl ?_
        by_cases hc : v2 < v1
        · rw [if_pos hc] at h
          rw [brI_le_p hc]
          show Ex (d + 2) kX10_slowest 39 [some (vR (10, 0, 0)), some (vI x1), some (vI x2)] [] hp _
          exact exX10_slowest_39 (fun q0 q1 q2 q3 hv => ih q0 q1 q2 q3 hv) h
        · rw [if_neg hc] at h
          rw [brI_le_n hc]
          show Ex (d + 2) kX10_slowest 43 [some (vR (10, 0, 0)), some (vI x1), some (vI x2)] [] hp _
          refine Ex.go 1 (pc' := 44) (ls' := [some (vR (10, 0, 0)), some (vI x1), some (vI x2)]) (st' := [vI x1]) (hp' := hp) (fun _ => rfl) ?_
          exact exX10_slowest_44 (fun q0 q1 q2 q3 hv => ih q0 q1 q2 q3 hv) h
    · rw [if_neg hc] at h
      rw [brI_ge_n hc]
      show Ex (d + 2) kX10_slowest 51 [some (vR (10, 0, 0)), some (vI x1), some (vI x2)] [] hp _
      refine Ex.go 1 (pc' := 52) (ls' := [some (vR (10, 0, 0)), some (vI x1), some (vI x2)]) (st' := [vI x1]) (hp' := hp) (fun _ => rfl) ?_
      cases h
      exact Ex.ret rfl rfl rfl
def fX10_slowest (hp : HP) : Option (Int32 × HP) := (fX10_notLoaded hp).bind fun q4 => if q4.1 = 0 then (fX10_slowest_13 FU m1 0 q4.2) else (some (0, q4.2))
theorem exX10_slowest {d : Nat} {hp : HP} {v : (Int32 × HP)} (h : fX10_slowest hp = some v) : Calls (d + 2) 250 [vR (10, 0, 0)] hp (rsI v.1 v.2) := by
  replace h : ((fX10_notLoaded hp).bind fun q4 => if q4.1 = 0 then (fX10_slowest_13 FU m1 0 q4.2) else (some (0, q4.2))) = some v := h
  show Ex (d + 2) kX10_slowest 0 [some (vR (10, 0, 0)), none, none] [] hp _
  refine Ex.go 1 (pc' := 1) (ls' := [some (vR (10, 0, 0)), none, none]) (st' := [vR (10, 0, 0)]) (hp' := hp) (fun _ => rfl) ?_
  obtain ⟨q4, hv, h⟩ := Option.bind_eq_some_iff.mp h
  refine Ex.call (args := [vR (10, 0, 0)]) (rest := []) rfl rfl rfl (exX10_notLoaded (d := d + 0) hv) ?_
  show Ex (d + 2) kX10_slowest 4 [some (vR (10, 0, 0)), none, none] [vI q4.1] q4.2 _
  refine Ex.ifc rfl ?_
  by_cases hc : q4.1 = 0
  · rw [if_pos hc] at h
    rw [brI_eq_p hc]
    show Ex (d + 2) kX10_slowest 9 [some (vR (10, 0, 0)), none, none] [] q4.2 _
    refine Ex.go 4 (pc' := 13) (ls' := [some (vR (10, 0, 0)), some (vI m1), some (vI 0)]) (st' := []) (hp' := q4.2) (fun _ => rfl) ?_
    exact exX10_slowest_13 FU _ _ _ _ h
  · rw [if_neg hc] at h
    rw [brI_eq_n hc]
    show Ex (d + 2) kX10_slowest 7 [some (vR (10, 0, 0)), none, none] [] q4.2 _
    refine Ex.go 1 (pc' := 8) (ls' := [some (vR (10, 0, 0)), none, none]) (st' := [vI 0]) (hp' := q4.2) (fun _ => rfl) ?_
    cases h
    exact Ex.ret rfl rfl rfl
def fX10_nextStop_26 (x1 : Int32) (y1 : Int32) (hp : HP) : Option (Int32 × HP) := (fX10_refuse y1 2 hp).bind fun q2 => if q2.1 = 0 then ((fX10_stopFrom x1 q2.2).bind fun v3 => some (v3, q2.2)) else (some (0, q2.2))
theorem exX10_nextStop_26 {d : Nat} {x1 : Int32} {y1 : Int32} {hp : HP} {v : (Int32 × HP)} (h : fX10_nextStop_26 x1 y1 hp = some v) : Ex (d + 2) kX10_nextStop 26 [some (vR (10, 0, 0)), some (vI x1)] [vI y1, vR (10, 0, 0)] hp (rsI v.1 v.2) := by
  replace h : ((fX10_refuse y1 2 hp).bind fun q2 => if q2.1 = 0 then ((fX10_stopFrom x1 q2.2).bind fun v3 => some (v3, q2.2)) else (some (0, q2.2))) = some v := h
  refine Ex.go 1 (pc' := 27) (ls' := [some (vR (10, 0, 0)), some (vI x1)]) (st' := [vI 2, vI y1, vR (10, 0, 0)]) (hp' := hp) (fun _ => rfl) ?_
  obtain ⟨q2, hv, h⟩ := Option.bind_eq_some_iff.mp h
  refine Ex.call (args := [vR (10, 0, 0), vI y1, vI 2]) (rest := []) rfl rfl rfl (exX10_refuse (d := d + 1) hv) ?_
  show Ex (d + 2) kX10_nextStop 30 [some (vR (10, 0, 0)), some (vI x1)] [vI q2.1] q2.2 _
  refine Ex.ifc rfl ?_
  by_cases hc : q2.1 = 0
  · rw [if_pos hc] at h
    rw [brI_eq_p hc]
    show Ex (d + 2) kX10_nextStop 37 [some (vR (10, 0, 0)), some (vI x1)] [] q2.2 _
    refine Ex.go 2 (pc' := 39) (ls' := [some (vR (10, 0, 0)), some (vI x1)]) (st' := [vI x1, vR (10, 0, 0)]) (hp' := q2.2) (fun _ => rfl) ?_
    obtain ⟨v3, hv, h⟩ := Option.bind_eq_some_iff.mp h
    refine Ex.call (args := [vR (10, 0, 0), vI x1]) (rest := []) rfl rfl rfl (exX10_stopFrom (d := d + 0) hv) ?_
    show Ex (d + 2) kX10_nextStop 42 [some (vR (10, 0, 0)), some (vI x1)] [vI v3] q2.2 _
    cases h
    exact Ex.ret rfl rfl rfl
  · rw [if_neg hc] at h
    rw [brI_eq_n hc]
    show Ex (d + 2) kX10_nextStop 33 [some (vR (10, 0, 0)), some (vI x1)] [] q2.2 _
    refine Ex.go 2 (pc' := 42) (ls' := [some (vR (10, 0, 0)), some (vI x1)]) (st' := [vI 0]) (hp' := q2.2) (fun _ => rfl) ?_
    cases h
    exact Ex.ret rfl rfl rfl
def fX10_nextStop (a0 : Int32) (hp : HP) : Option (Int32 × HP) := (fX10_notLoaded hp).bind fun q5 => if q5.1 = 0 then ((fX10_its 0 q5.2).bind fun v6 => (fX10_in a0 0 v6 q5.2).bind fun v7 => if v7 = 0 then (fX10_nextStop_26 a0 1 q5.2) else (fX10_nextStop_26 a0 0 q5.2)) else (some (0, q5.2))
theorem exX10_nextStop {d : Nat} {a0 : Int32} {hp : HP} {v : (Int32 × HP)} (h : fX10_nextStop a0 hp = some v) : Calls (d + 2) 251 [vR (10, 0, 0), vI a0] hp (rsI v.1 v.2) := by
  replace h : ((fX10_notLoaded hp).bind fun q5 => if q5.1 = 0 then ((fX10_its 0 q5.2).bind fun v6 => (fX10_in a0 0 v6 q5.2).bind fun v7 => if v7 = 0 then (fX10_nextStop_26 a0 1 q5.2) else (fX10_nextStop_26 a0 0 q5.2)) else (some (0, q5.2))) = some v := h
  show Ex (d + 2) kX10_nextStop 0 [some (vR (10, 0, 0)), some (vI a0)] [] hp _
  refine Ex.go 1 (pc' := 1) (ls' := [some (vR (10, 0, 0)), some (vI a0)]) (st' := [vR (10, 0, 0)]) (hp' := hp) (fun _ => rfl) ?_
  obtain ⟨q5, hv, h⟩ := Option.bind_eq_some_iff.mp h
  refine Ex.call (args := [vR (10, 0, 0)]) (rest := []) rfl rfl rfl (exX10_notLoaded (d := d + 0) hv) ?_
  show Ex (d + 2) kX10_nextStop 4 [some (vR (10, 0, 0)), some (vI a0)] [vI q5.1] q5.2 _
  refine Ex.ifc rfl ?_
  by_cases hc : q5.1 = 0
  · rw [if_pos hc] at h
    rw [brI_ne_p hc]
    show Ex (d + 2) kX10_nextStop 7 [some (vR (10, 0, 0)), some (vI a0)] [] q5.2 _
    refine Ex.go 5 (pc' := 12) (ls' := [some (vR (10, 0, 0)), some (vI a0)]) (st' := [vI 0, vR (10, 0, 0), vI 0, vI a0, vR (10, 0, 0)]) (hp' := q5.2) (fun _ => rfl) ?_
    obtain ⟨v6, hv, h⟩ := Option.bind_eq_some_iff.mp h
    refine Ex.call (args := [vR (10, 0, 0), vI 0]) (rest := [vI 0, vI a0, vR (10, 0, 0)]) rfl rfl rfl (exX10_its (d := d + 1) hv) ?_
    show Ex (d + 2) kX10_nextStop 15 [some (vR (10, 0, 0)), some (vI a0)] [vI v6, vI 0, vI a0, vR (10, 0, 0)] q5.2 _
    obtain ⟨v7, hv, h⟩ := Option.bind_eq_some_iff.mp h
    refine Ex.call (args := [vI a0, vI 0, vI v6]) (rest := [vR (10, 0, 0)]) rfl rfl rfl (exX10_in (d := d + 1) hv) ?_
    show Ex (d + 2) kX10_nextStop 18 [some (vR (10, 0, 0)), some (vI a0)] [vI v7, vR (10, 0, 0)] q5.2 _
    refine Ex.ifc rfl ?_
    by_cases hc : v7 = 0
    · rw [if_pos hc] at h
      rw [brI_ne_p hc]
      show Ex (d + 2) kX10_nextStop 21 [some (vR (10, 0, 0)), some (vI a0)] [vR (10, 0, 0)] q5.2 _
      refine Ex.go 2 (pc' := 26) (ls' := [some (vR (10, 0, 0)), some (vI a0)]) (st' := [vI 1, vR (10, 0, 0)]) (hp' := q5.2) (fun _ => rfl) ?_
      exact exX10_nextStop_26 h
    · rw [if_neg hc] at h
      rw [brI_ne_n hc]
      show Ex (d + 2) kX10_nextStop 25 [some (vR (10, 0, 0)), some (vI a0)] [vR (10, 0, 0)] q5.2 _
      refine Ex.go 1 (pc' := 26) (ls' := [some (vR (10, 0, 0)), some (vI a0)]) (st' := [vI 0, vR (10, 0, 0)]) (hp' := q5.2) (fun _ => rfl) ?_
      exact exX10_nextStop_26 h
  · rw [if_neg hc] at h
    rw [brI_ne_n hc]
    show Ex (d + 2) kX10_nextStop 33 [some (vR (10, 0, 0)), some (vI a0)] [] q5.2 _
    refine Ex.go 2 (pc' := 42) (ls' := [some (vR (10, 0, 0)), some (vI a0)]) (st' := [vI 0]) (hp' := q5.2) (fun _ => rfl) ?_
    cases h
    exact Ex.ret rfl rfl rfl
def fX10_bellIn_28 (n : Nat) (x1 : Int32) (x2 : Int32) (hp : HP) : Option (Int32 × HP) := match n with
  | 0 => none
  | n + 1 => (fX10_isLocked x2 hp).bind fun v1 => if v1 = 0 then (if (x2 + 1) = x1 then (some (((x2 + 1) - (hp (11, 22, 0) 1)), hp)) else (fX10_bellIn_28 n x1 (x2 + 1) hp)) else (some (m1, hp))
theorem exX10_bellIn_28 {d : Nat} : ∀ (n : Nat) (x1 : Int32) (x2 : Int32) (hp : HP) (v : (Int32 × HP)), fX10_bellIn_28 n x1 x2 hp = some v → Ex (d + 2) kX10_bellIn 28 [some (vR (10, 0, 0)), some (vI x1), some (vI x2)] [] hp (rsI v.1 v.2) := by
  intro n
  induction n with
  | zero =>
    intro x1 x2 hp v h
    cases h
  | succ n ih =>
    intro x1 x2 hp v h
    replace h : ((fX10_isLocked x2 hp).bind fun v1 => if v1 = 0 then (if (x2 + 1) = x1 then (some (((x2 + 1) - (hp (11, 22, 0) 1)), hp)) else (fX10_bellIn_28 n x1 (x2 + 1) hp)) else (some (m1, hp))) = some v := h
    refine Ex.go 2 (pc' := 30) (ls' := [some (vR (10, 0, 0)), some (vI x1), some (vI x2)]) (st' := [vI x2, vR (10, 0, 0)]) (hp' := hp) (fun _ => rfl) ?_
    obtain ⟨v1, hv, h⟩ := Option.bind_eq_some_iff.mp h
    refine Ex.call (args := [vR (10, 0, 0), vI x2]) (rest := []) rfl rfl rfl (exX10_isLocked (d := d + 0) hv) ?_
    show Ex (d + 2) kX10_bellIn 33 [some (vR (10, 0, 0)), some (vI x1), some (vI x2)] [vI v1] hp _
    refine Ex.ifc rfl ?_
    by_cases hc : v1 = 0
    · rw [if_pos hc] at h
      rw [brI_ne_p hc]
      show Ex (d + 2) kX10_bellIn 36 [some (vR (10, 0, 0)), some (vI x1), some (vI x2)] [] hp _
      refine Ex.go 4 (pc' := 40) (ls' := [some (vR (10, 0, 0)), some (vI x1), some (vI x2)]) (st' := [vI x1, vI (x2 + 1)]) (hp' := hp) (fun _ => rfl) ?_
      refine Ex.icmp rfl ?_
      by_cases hc : (x2 + 1) = x1
      · rw [if_pos hc] at h
        rw [brI_ne_p hc]
        show Ex (d + 2) kX10_bellIn 43 [some (vR (10, 0, 0)), some (vI x1), some (vI x2)] [] hp _
        refine Ex.go 6 (pc' := 51) (ls' := [some (vR (10, 0, 0)), some (vI x1), some (vI x2)]) (st' := [vI 1, vR (11, 22, 0), vI (x2 + 1)]) (hp' := hp) (fun _ => rfl) ?_
        refine Ex.iald (k := 1) rfl rfl (by decide) (by decide) ?_
        show Ex (d + 2) kX10_bellIn 52 [some (vR (10, 0, 0)), some (vI x1), some (vI x2)] [vI (hp (11, 22, 0) 1), vI (x2 + 1)] hp _
        refine Ex.go 1 (pc' := 53) (ls' := [some (vR (10, 0, 0)), some (vI x1), some (vI x2)]) (st' := [vI ((x2 + 1) - (hp (11, 22, 0) 1))]) (hp' := hp) (fun _ => rfl) ?_
        cases h
        exact Ex.ret rfl rfl rfl
      · rw [if_neg hc] at h
        rw [brI_ne_n hc]
        show Ex (d + 2) kX10_bellIn 54 [some (vR (10, 0, 0)), some (vI x1), some (vI x2)] [] hp _
        refine Ex.go 2 (pc' := 28) (ls' := [some (vR (10, 0, 0)), some (vI x1), some (vI (x2 + 1))]) (st' := []) (hp' := hp) (fun _ => rfl) ?_
        exact ih _ _ _ _ h
    · rw [if_neg hc] at h
      rw [brI_ne_n hc]
      show Ex (d + 2) kX10_bellIn 60 [some (vR (10, 0, 0)), some (vI x1), some (vI x2)] [] hp _
      refine Ex.go 1 (pc' := 61) (ls' := [some (vR (10, 0, 0)), some (vI x1), some (vI x2)]) (st' := [vI m1]) (hp' := hp) (fun _ => rfl) ?_
      cases h
      exact Ex.ret rfl rfl rfl
def fX10_bellIn (hp : HP) : Option (Int32 × HP) := (fX10_notLoaded hp).bind fun q3 => if q3.1 = 0 then ((fX10_its 3 q3.2).bind fun v4 => (fX10_its 4 q3.2).bind fun v5 => fX10_bellIn_28 FU (v4 - v5) (q3.2 (11, 22, 0) 1) q3.2) else (some (0, q3.2))
theorem exX10_bellIn {d : Nat} {hp : HP} {v : (Int32 × HP)} (h : fX10_bellIn hp = some v) : Calls (d + 2) 252 [vR (10, 0, 0)] hp (rsI v.1 v.2) := by
  replace h : ((fX10_notLoaded hp).bind fun q3 => if q3.1 = 0 then ((fX10_its 3 q3.2).bind fun v4 => (fX10_its 4 q3.2).bind fun v5 => fX10_bellIn_28 FU (v4 - v5) (q3.2 (11, 22, 0) 1) q3.2) else (some (0, q3.2))) = some v := h
  show Ex (d + 2) kX10_bellIn 0 [some (vR (10, 0, 0)), none, none] [] hp _
  refine Ex.go 1 (pc' := 1) (ls' := [some (vR (10, 0, 0)), none, none]) (st' := [vR (10, 0, 0)]) (hp' := hp) (fun _ => rfl) ?_
  obtain ⟨q3, hv, h⟩ := Option.bind_eq_some_iff.mp h
  refine Ex.call (args := [vR (10, 0, 0)]) (rest := []) rfl rfl rfl (exX10_notLoaded (d := d + 0) hv) ?_
  show Ex (d + 2) kX10_bellIn 4 [some (vR (10, 0, 0)), none, none] [vI q3.1] q3.2 _
  refine Ex.ifc rfl ?_
  by_cases hc : q3.1 = 0
  · rw [if_pos hc] at h
    rw [brI_eq_p hc]
    show Ex (d + 2) kX10_bellIn 9 [some (vR (10, 0, 0)), none, none] [] q3.2 _
    refine Ex.go 2 (pc' := 11) (ls' := [some (vR (10, 0, 0)), none, none]) (st' := [vI 3, vR (10, 0, 0)]) (hp' := q3.2) (fun _ => rfl) ?_
    obtain ⟨v4, hv, h⟩ := Option.bind_eq_some_iff.mp h
    refine Ex.call (args := [vR (10, 0, 0), vI 3]) (rest := []) rfl rfl rfl (exX10_its (d := d + 1) hv) ?_
    show Ex (d + 2) kX10_bellIn 14 [some (vR (10, 0, 0)), none, none] [vI v4] q3.2 _
    refine Ex.go 2 (pc' := 16) (ls' := [some (vR (10, 0, 0)), none, none]) (st' := [vI 4, vR (10, 0, 0), vI v4]) (hp' := q3.2) (fun _ => rfl) ?_
    obtain ⟨v5, hv, h⟩ := Option.bind_eq_some_iff.mp h
    refine Ex.call (args := [vR (10, 0, 0), vI 4]) (rest := [vI v4]) rfl rfl rfl (exX10_its (d := d + 1) hv) ?_
    show Ex (d + 2) kX10_bellIn 19 [some (vR (10, 0, 0)), none, none] [vI v5, vI v4] q3.2 _
    refine Ex.go 5 (pc' := 26) (ls' := [some (vR (10, 0, 0)), some (vI (v4 - v5)), none]) (st' := [vI 1, vR (11, 22, 0)]) (hp' := q3.2) (fun _ => rfl) ?_
    refine Ex.iald (k := 1) rfl rfl (by decide) (by decide) ?_
    show Ex (d + 2) kX10_bellIn 27 [some (vR (10, 0, 0)), some (vI (v4 - v5)), none] [vI (q3.2 (11, 22, 0) 1)] q3.2 _
    refine Ex.go 1 (pc' := 28) (ls' := [some (vR (10, 0, 0)), some (vI (v4 - v5)), some (vI (q3.2 (11, 22, 0) 1))]) (st' := []) (hp' := q3.2) (fun _ => rfl) ?_
    exact exX10_bellIn_28 FU _ _ _ _ h
  · rw [if_neg hc] at h
    rw [brI_eq_n hc]
    show Ex (d + 2) kX10_bellIn 7 [some (vR (10, 0, 0)), none, none] [] q3.2 _
    refine Ex.go 1 (pc' := 8) (ls' := [some (vR (10, 0, 0)), none, none]) (st' := [vI 0]) (hp' := q3.2) (fun _ => rfl) ?_
    cases h
    exact Ex.ret rfl rfl rfl
def fX10_wouldBe (a0 : Int32) (a1 : Int32) (hp : HP) : Option (Int32 × HP) := (fX10_noBar a0 hp).bind fun q2 => if q2.1 = 0 then ((fX10_its 5 q2.2).bind fun v3 => (fX10_reasonOf a0 ((q2.2 (11, 22, 0) 3) + v3) q2.2).bind fun v4 => some (v4, q2.2)) else (some (0, q2.2))
theorem exX10_wouldBe {d : Nat} {a0 : Int32} {a1 : Int32} {hp : HP} {v : (Int32 × HP)} (h : fX10_wouldBe a0 a1 hp = some v) : Calls (d + 5) 253 [vR (10, 0, 0), vI a0, vI a1] hp (rsI v.1 v.2) := by
  replace h : ((fX10_noBar a0 hp).bind fun q2 => if q2.1 = 0 then ((fX10_its 5 q2.2).bind fun v3 => (fX10_reasonOf a0 ((q2.2 (11, 22, 0) 3) + v3) q2.2).bind fun v4 => some (v4, q2.2)) else (some (0, q2.2))) = some v := h
  show Ex (d + 5) kX10_wouldBe 0 [some (vR (10, 0, 0)), some (vI a0), some (vI a1)] [] hp _
  refine Ex.go 2 (pc' := 2) (ls' := [some (vR (10, 0, 0)), some (vI a0), some (vI a1)]) (st' := [vI a0, vR (10, 0, 0)]) (hp' := hp) (fun _ => rfl) ?_
  obtain ⟨q2, hv, h⟩ := Option.bind_eq_some_iff.mp h
  refine Ex.call (args := [vR (10, 0, 0), vI a0]) (rest := []) rfl rfl rfl (exX10_noBar (d := d + 2) hv) ?_
  show Ex (d + 5) kX10_wouldBe 5 [some (vR (10, 0, 0)), some (vI a0), some (vI a1)] [vI q2.1] q2.2 _
  refine Ex.ifc rfl ?_
  by_cases hc : q2.1 = 0
  · rw [if_pos hc] at h
    rw [brI_eq_p hc]
    show Ex (d + 5) kX10_wouldBe 12 [some (vR (10, 0, 0)), some (vI a0), some (vI a1)] [] q2.2 _
    refine Ex.go 5 (pc' := 19) (ls' := [some (vR (10, 0, 0)), some (vI a0), some (vI a1)]) (st' := [vI 3, vR (11, 22, 0), vI a0, vR (10, 0, 0)]) (hp' := q2.2) (fun _ => rfl) ?_
    refine Ex.iald (k := 3) rfl rfl (by decide) (by decide) ?_
    show Ex (d + 5) kX10_wouldBe 20 [some (vR (10, 0, 0)), some (vI a0), some (vI a1)] [vI (q2.2 (11, 22, 0) 3), vI a0, vR (10, 0, 0)] q2.2 _
    refine Ex.go 2 (pc' := 22) (ls' := [some (vR (10, 0, 0)), some (vI a0), some (vI a1)]) (st' := [vI 5, vR (10, 0, 0), vI (q2.2 (11, 22, 0) 3), vI a0, vR (10, 0, 0)]) (hp' := q2.2) (fun _ => rfl) ?_
    obtain ⟨v3, hv, h⟩ := Option.bind_eq_some_iff.mp h
    refine Ex.call (args := [vR (10, 0, 0), vI 5]) (rest := [vI (q2.2 (11, 22, 0) 3), vI a0, vR (10, 0, 0)]) rfl rfl rfl (exX10_its (d := d + 4) hv) ?_
    show Ex (d + 5) kX10_wouldBe 25 [some (vR (10, 0, 0)), some (vI a0), some (vI a1)] [vI v3, vI (q2.2 (11, 22, 0) 3), vI a0, vR (10, 0, 0)] q2.2 _
    refine Ex.go 1 (pc' := 26) (ls' := [some (vR (10, 0, 0)), some (vI a0), some (vI a1)]) (st' := [vI ((q2.2 (11, 22, 0) 3) + v3), vI a0, vR (10, 0, 0)]) (hp' := q2.2) (fun _ => rfl) ?_
    obtain ⟨v4, hv, h⟩ := Option.bind_eq_some_iff.mp h
    refine Ex.call (args := [vR (10, 0, 0), vI a0, vI ((q2.2 (11, 22, 0) 3) + v3)]) (rest := []) rfl rfl rfl (exX10_reasonOf (d := d + 0) hv) ?_
    show Ex (d + 5) kX10_wouldBe 29 [some (vR (10, 0, 0)), some (vI a0), some (vI a1)] [vI v4] q2.2 _
    cases h
    exact Ex.ret rfl rfl rfl
  · rw [if_neg hc] at h
    rw [brI_eq_n hc]
    show Ex (d + 5) kX10_wouldBe 8 [some (vR (10, 0, 0)), some (vI a0), some (vI a1)] [] q2.2 _
    refine Ex.go 2 (pc' := 29) (ls' := [some (vR (10, 0, 0)), some (vI a0), some (vI a1)]) (st' := [vI 0]) (hp' := q2.2) (fun _ => rfl) ?_
    cases h
    exact Ex.ret rfl rfl rfl
def fX10_freeIn_53 (x1 : Int32) (x2 : Int32) (k12 : Int32 → Int32 → HP → Option (Int32 × HP)) (hp : HP) : Option (Int32 × HP) := k12 x1 (x2 + 1) hp
theorem exX10_freeIn_53 {d : Nat} {x1 : Int32} {x2 : Int32} {hp : HP} {v : (Int32 × HP)} {k12 : Int32 → Int32 → HP → Option (Int32 × HP)} (hk12 : ∀ (x1 : Int32) (x2 : Int32) (hp : HP) (v : (Int32 × HP)), k12 x1 x2 hp = some v → Ex (d + 4) kX10_freeIn 12 [some (vR (10, 0, 0)), some (vI x1), some (vI x2)] [] hp (rsI v.1 v.2)) (h : fX10_freeIn_53 x1 x2 k12 hp = some v) : Ex (d + 4) kX10_freeIn 53 [some (vR (10, 0, 0)), some (vI x1), some (vI x2)] [] hp (rsI v.1 v.2) := by
  replace h : (k12 x1 (x2 + 1) hp) = some v := h
  refine Ex.go 2 (pc' := 12) (ls' := [some (vR (10, 0, 0)), some (vI x1), some (vI (x2 + 1))]) (st' := []) (hp' := hp) (fun _ => rfl) ?_
  exact hk12 _ _ _ _ h
def fX10_freeIn_12 (n : Nat) (x1 : Int32) (x2 : Int32) (hp : HP) : Option (Int32 × HP) := match n with
  | 0 => none
  | n + 1 => if 999 < x2 then (some (m1, hp)) else ((fX10_backIn x1 ((hp (11, 22, 0) 3) + x2) hp).bind fun v1 => if v1 = 0 then ((fX10_wouldJam x1 ((hp (11, 22, 0) 3) + x2) hp).bind fun v2 => if v2 = 0 then (some (x2, hp)) else (fX10_freeIn_53 x1 x2 (fun x1 x2 hq => fX10_freeIn_12 n x1 x2 hq) hp)) else (fX10_freeIn_53 x1 x2 (fun x1 x2 hq => fX10_freeIn_12 n x1 x2 hq) hp))
theorem exX10_freeIn_12 {d : Nat} : ∀ (n : Nat) (x1 : Int32) (x2 : Int32) (hp : HP) (v : (Int32 × HP)), fX10_freeIn_12 n x1 x2 hp = some v → Ex (d + 4) kX10_freeIn 12 [some (vR (10, 0, 0)), some (vI x1), some (vI x2)] [] hp (rsI v.1 v.2) := by
  intro n
  induction n with
  | zero =>
    intro x1 x2 hp v h
    cases h
  | succ n ih =>
    intro x1 x2 hp v h
    replace h : (if 999 < x2 then (some (m1, hp)) else ((fX10_backIn x1 ((hp (11, 22, 0) 3) + x2) hp).bind fun v1 => if v1 = 0 then ((fX10_wouldJam x1 ((hp (11, 22, 0) 3) + x2) hp).bind fun v2 => if v2 = 0 then (some (x2, hp)) else (fX10_freeIn_53 x1 x2 (fun x1 x2 hq => fX10_freeIn_12 n x1 x2 hq) hp)) else (fX10_freeIn_53 x1 x2 (fun x1 x2 hq => fX10_freeIn_12 n x1 x2 hq) hp))) = some v := h
    refine Ex.go 2 (pc' := 16) (ls' := [some (vR (10, 0, 0)), some (vI x1), some (vI x2)]) (st' := [vI 999, vI x2]) (hp' := hp) (fun _ => rfl) ?_
    refine Ex.icmp rfl ?_
    by_cases hc : 999 < x2
    · rw [if_pos hc] at h
      rw [brI_gt_p hc]
      show Ex (d + 4) kX10_freeIn 59 [some (vR (10, 0, 0)), some (vI x1), some (vI x2)] [] hp _
      refine Ex.go 1 (pc' := 60) (ls' := [some (vR (10, 0, 0)), some (vI x1), some (vI x2)]) (st' := [vI m1]) (hp' := hp) (fun _ => rfl) ?_
      cases h
      exact Ex.ret rfl rfl rfl
    · rw [if_neg hc] at h
      rw [brI_gt_n hc]
      show Ex (d + 4) kX10_freeIn 19 [some (vR (10, 0, 0)), some (vI x1), some (vI x2)] [] hp _
      refine Ex.go 5 (pc' := 26) (ls' := [some (vR (10, 0, 0)), some (vI x1), some (vI x2)]) (st' := [vI 3, vR (11, 22, 0), vI x1, vR (10, 0, 0)]) (hp' := hp) (fun _ => rfl) ?_
      refine Ex.iald (k := 3) rfl rfl (by decide) (by decide) ?_
      show Ex (d + 4) kX10_freeIn 27 [some (vR (10, 0, 0)), some (vI x1), some (vI x2)] [vI (hp (11, 22, 0) 3), vI x1, vR (10, 0, 0)] hp _
      refine Ex.go 2 (pc' := 29) (ls' := [some (vR (10, 0, 0)), some (vI x1), some (vI x2)]) (st' := [vI ((hp (11, 22, 0) 3) + x2), vI x1, vR (10, 0, 0)]) (hp' := hp) (fun _ => rfl) ?_
      obtain ⟨v1, hv, h⟩ := Option.bind_eq_some_iff.mp h
      refine Ex.call (args := [vR (10, 0, 0), vI x1, vI ((hp (11, 22, 0) 3) + x2)]) (rest := []) rfl rfl rfl (exX10_backIn (d := d + 1) hv) ?_
      show Ex (d + 4) kX10_freeIn 32 [some (vR (10, 0, 0)), some (vI x1), some (vI x2)] [vI v1] hp _
      refine Ex.ifc rfl ?_
      by_cases hc : v1 = 0
      · rw [if_pos hc] at h
        rw [brI_ne_p hc]
        show Ex (d + 4) kX10_freeIn 35 [some (vR (10, 0, 0)), some (vI x1), some (vI x2)] [] hp _
        refine Ex.go 5 (pc' := 42) (ls' := [some (vR (10, 0, 0)), some (vI x1), some (vI x2)]) (st' := [vI 3, vR (11, 22, 0), vI x1, vR (10, 0, 0)]) (hp' := hp) (fun _ => rfl) ?_
        refine Ex.iald (k := 3) rfl rfl (by decide) (by decide) ?_
        show Ex (d + 4) kX10_freeIn 43 [some (vR (10, 0, 0)), some (vI x1), some (vI x2)] [vI (hp (11, 22, 0) 3), vI x1, vR (10, 0, 0)] hp _
        refine Ex.go 2 (pc' := 45) (ls' := [some (vR (10, 0, 0)), some (vI x1), some (vI x2)]) (st' := [vI ((hp (11, 22, 0) 3) + x2), vI x1, vR (10, 0, 0)]) (hp' := hp) (fun _ => rfl) ?_
        obtain ⟨v2, hv, h⟩ := Option.bind_eq_some_iff.mp h
        refine Ex.call (args := [vR (10, 0, 0), vI x1, vI ((hp (11, 22, 0) 3) + x2)]) (rest := []) rfl rfl rfl (exX10_wouldJam (d := d + 0) hv) ?_
        show Ex (d + 4) kX10_freeIn 48 [some (vR (10, 0, 0)), some (vI x1), some (vI x2)] [vI v2] hp _
        refine Ex.ifc rfl ?_
        by_cases hc : v2 = 0
        · rw [if_pos hc] at h
          rw [brI_ne_p hc]
          show Ex (d + 4) kX10_freeIn 51 [some (vR (10, 0, 0)), some (vI x1), some (vI x2)] [] hp _
          refine Ex.go 1 (pc' := 52) (ls' := [some (vR (10, 0, 0)), some (vI x1), some (vI x2)]) (st' := [vI x2]) (hp' := hp) (fun _ => rfl) ?_
          cases h
          exact Ex.ret rfl rfl rfl
        · rw [if_neg hc] at h
          rw [brI_ne_n hc]
          show Ex (d + 4) kX10_freeIn 53 [some (vR (10, 0, 0)), some (vI x1), some (vI x2)] [] hp _
          exact exX10_freeIn_53 (fun q0 q1 q2 q3 hv => ih q0 q1 q2 q3 hv) h
      · rw [if_neg hc] at h
        rw [brI_ne_n hc]
        show Ex (d + 4) kX10_freeIn 53 [some (vR (10, 0, 0)), some (vI x1), some (vI x2)] [] hp _
        exact exX10_freeIn_53 (fun q0 q1 q2 q3 hv => ih q0 q1 q2 q3 hv) h
def fX10_freeIn (a0 : Int32) (hp : HP) : Option (Int32 × HP) := (fX10_noBar a0 hp).bind fun q4 => if q4.1 = 0 then (fX10_freeIn_12 FU a0 1 q4.2) else (some (0, q4.2))
theorem exX10_freeIn {d : Nat} {a0 : Int32} {hp : HP} {v : (Int32 × HP)} (h : fX10_freeIn a0 hp = some v) : Calls (d + 4) 254 [vR (10, 0, 0), vI a0] hp (rsI v.1 v.2) := by
  replace h : ((fX10_noBar a0 hp).bind fun q4 => if q4.1 = 0 then (fX10_freeIn_12 FU a0 1 q4.2) else (some (0, q4.2))) = some v := h
  show Ex (d + 4) kX10_freeIn 0 [some (vR (10, 0, 0)), some (vI a0), none] [] hp _
  refine Ex.go 2 (pc' := 2) (ls' := [some (vR (10, 0, 0)), some (vI a0), none]) (st' := [vI a0, vR (10, 0, 0)]) (hp' := hp) (fun _ => rfl) ?_
  obtain ⟨q4, hv, h⟩ := Option.bind_eq_some_iff.mp h
  refine Ex.call (args := [vR (10, 0, 0), vI a0]) (rest := []) rfl rfl rfl (exX10_noBar (d := d + 1) hv) ?_
  show Ex (d + 4) kX10_freeIn 5 [some (vR (10, 0, 0)), some (vI a0), none] [vI q4.1] q4.2 _
  refine Ex.ifc rfl ?_
  by_cases hc : q4.1 = 0
  · rw [if_pos hc] at h
    rw [brI_eq_p hc]
    show Ex (d + 4) kX10_freeIn 10 [some (vR (10, 0, 0)), some (vI a0), none] [] q4.2 _
    refine Ex.go 2 (pc' := 12) (ls' := [some (vR (10, 0, 0)), some (vI a0), some (vI 1)]) (st' := []) (hp' := q4.2) (fun _ => rfl) ?_
    exact exX10_freeIn_12 FU _ _ _ _ h
  · rw [if_neg hc] at h
    rw [brI_eq_n hc]
    show Ex (d + 4) kX10_freeIn 8 [some (vR (10, 0, 0)), some (vI a0), none] [] q4.2 _
    refine Ex.go 1 (pc' := 9) (ls' := [some (vR (10, 0, 0)), some (vI a0), none]) (st' := [vI 0]) (hp' := q4.2) (fun _ => rfl) ?_
    cases h
    exact Ex.ret rfl rfl rfl
def fX10_paceBetween_57 (x1 : Int32) (x2 : Int32) (x3 : Int32) (k2 : Int32 → Int32 → Int32 → HP → Option Int32) (hp : HP) : Option Int32 := k2 x1 x2 (x3 + 1) hp
theorem exX10_paceBetween_57 {d : Nat} {x1 : Int32} {x2 : Int32} {x3 : Int32} {j4 : Option VL} {hp : HP} {v : Int32} {k2 : Int32 → Int32 → Int32 → HP → Option Int32} (hk2 : ∀ (x1 : Int32) (x2 : Int32) (x3 : Int32) (j4 : Option VL) (hp : HP) (v : Int32), k2 x1 x2 x3 hp = some v → Ex (d + 2) kX10_paceBetween 2 [some (vR (10, 0, 0)), some (vI x1), some (vI x2), some (vI x3), j4] [] hp (rsI v hp)) (h : fX10_paceBetween_57 x1 x2 x3 k2 hp = some v) : Ex (d + 2) kX10_paceBetween 57 [some (vR (10, 0, 0)), some (vI x1), some (vI x2), some (vI x3), j4] [] hp (rsI v hp) := by
  replace h : (k2 x1 x2 (x3 + 1) hp) = some v := h
  refine Ex.go 2 (pc' := 2) (ls' := [some (vR (10, 0, 0)), some (vI x1), some (vI x2), some (vI (x3 + 1)), j4]) (st' := []) (hp' := hp) (fun _ => rfl) ?_
  exact hk2 _ _ _ _ _ _ h
def fX10_paceBetween_43 (x1 : Int32) (x2 : Int32) (x3 : Int32) (y0 : Int32) (k2 : Int32 → Int32 → Int32 → HP → Option Int32) (hp : HP) : Option Int32 := if x1 = x2 then (fX10_paceBetween_57 x1 x2 x3 k2 hp) else (if y0 = 0 then (some x3) else (fX10_paceBetween_57 x1 x2 x3 k2 hp))
theorem exX10_paceBetween_43 {d : Nat} {x1 : Int32} {x2 : Int32} {x3 : Int32} {y0 : Int32} {j4 : Option VL} {hp : HP} {v : Int32} {k2 : Int32 → Int32 → Int32 → HP → Option Int32} (hk2 : ∀ (x1 : Int32) (x2 : Int32) (x3 : Int32) (j4 : Option VL) (hp : HP) (v : Int32), k2 x1 x2 x3 hp = some v → Ex (d + 2) kX10_paceBetween 2 [some (vR (10, 0, 0)), some (vI x1), some (vI x2), some (vI x3), j4] [] hp (rsI v hp)) (h : fX10_paceBetween_43 x1 x2 x3 y0 k2 hp = some v) : Ex (d + 2) kX10_paceBetween 43 [some (vR (10, 0, 0)), some (vI x1), some (vI x2), some (vI x3), j4] [vI y0] hp (rsI v hp) := by
  replace h : (if x1 = x2 then (fX10_paceBetween_57 x1 x2 x3 k2 hp) else (if y0 = 0 then (some x3) else (fX10_paceBetween_57 x1 x2 x3 k2 hp))) = some v := h
  refine Ex.go 3 (pc' := 47) (ls' := [some (vR (10, 0, 0)), some (vI x1), some (vI x2), some (vI x3), some (vI y0)]) (st' := [vI x2, vI x1]) (hp' := hp) (fun _ => rfl) ?_
  refine Ex.icmp rfl ?_
  by_cases hc : x1 = x2
  · rw [if_pos hc] at h
    rw [brI_eq_p hc]
    show Ex (d + 2) kX10_paceBetween 57 [some (vR (10, 0, 0)), some (vI x1), some (vI x2), some (vI x3), some (vI y0)] [] hp _
    exact exX10_paceBetween_57 hk2 h
  · rw [if_neg hc] at h
    rw [brI_eq_n hc]
    show Ex (d + 2) kX10_paceBetween 50 [some (vR (10, 0, 0)), some (vI x1), some (vI x2), some (vI x3), some (vI y0)] [] hp _
    refine Ex.go 1 (pc' := 52) (ls' := [some (vR (10, 0, 0)), some (vI x1), some (vI x2), some (vI x3), some (vI y0)]) (st' := [vI y0]) (hp' := hp) (fun _ => rfl) ?_
    refine Ex.ifc rfl ?_
    by_cases hc : y0 = 0
    · rw [if_pos hc] at h
      rw [brI_ne_p hc]
      show Ex (d + 2) kX10_paceBetween 55 [some (vR (10, 0, 0)), some (vI x1), some (vI x2), some (vI x3), some (vI y0)] [] hp _
      refine Ex.go 1 (pc' := 56) (ls' := [some (vR (10, 0, 0)), some (vI x1), some (vI x2), some (vI x3), some (vI y0)]) (st' := [vI x3]) (hp' := hp) (fun _ => rfl) ?_
      cases h
      exact Ex.ret rfl rfl rfl
    · rw [if_neg hc] at h
      rw [brI_ne_n hc]
      show Ex (d + 2) kX10_paceBetween 57 [some (vR (10, 0, 0)), some (vI x1), some (vI x2), some (vI x3), some (vI y0)] [] hp _
      exact exX10_paceBetween_57 hk2 h
def fX10_paceBetween_2 (n : Nat) (x1 : Int32) (x2 : Int32) (x3 : Int32) (hp : HP) : Option Int32 := match n with
  | 0 => none
  | n + 1 => (fX10_rise x1 hp).bind fun v1 => if x3 < (2 * v1) then ((fX10_rise x2 hp).bind fun v3 => (fX10_rise x1 hp).bind fun v4 => (fX10_clearance x1 x2 hp).bind fun v5 => if (iabs ((x3 + v3) - v4)) < v5 then (fX10_paceBetween_43 x1 x2 x3 1 (fun x1 x2 x3 hq => fX10_paceBetween_2 n x1 x2 x3 hq) hp) else (fX10_paceBetween_43 x1 x2 x3 0 (fun x1 x2 x3 hq => fX10_paceBetween_2 n x1 x2 x3 hq) hp)) else ((fX10_rise x1 hp).bind fun v2 => some (2 * v2))
theorem exX10_paceBetween_2 {d : Nat} : ∀ (n : Nat) (x1 : Int32) (x2 : Int32) (x3 : Int32) (j4 : Option VL) (hp : HP) (v : Int32), fX10_paceBetween_2 n x1 x2 x3 hp = some v → Ex (d + 2) kX10_paceBetween 2 [some (vR (10, 0, 0)), some (vI x1), some (vI x2), some (vI x3), j4] [] hp (rsI v hp) := by
  intro n
  induction n with
  | zero =>
    intro x1 x2 x3 j4 hp v h
    cases h
  | succ n ih =>
    intro x1 x2 x3 j4 hp v h
    replace h : ((fX10_rise x1 hp).bind fun v1 => if x3 < (2 * v1) then ((fX10_rise x2 hp).bind fun v3 => (fX10_rise x1 hp).bind fun v4 => (fX10_clearance x1 x2 hp).bind fun v5 => if (iabs ((x3 + v3) - v4)) < v5 then (fX10_paceBetween_43 x1 x2 x3 1 (fun x1 x2 x3 hq => fX10_paceBetween_2 n x1 x2 x3 hq) hp) else (fX10_paceBetween_43 x1 x2 x3 0 (fun x1 x2 x3 hq => fX10_paceBetween_2 n x1 x2 x3 hq) hp)) else ((fX10_rise x1 hp).bind fun v2 => some (2 * v2))) = some v := h
    refine Ex.go 4 (pc' := 6) (ls' := [some (vR (10, 0, 0)), some (vI x1), some (vI x2), some (vI x3), j4]) (st' := [vI x1, vR (10, 0, 0), vI 2, vI x3]) (hp' := hp) (fun _ => rfl) ?_
    obtain ⟨v1, hv, h⟩ := Option.bind_eq_some_iff.mp h
    refine Ex.call (args := [vR (10, 0, 0), vI x1]) (rest := [vI 2, vI x3]) rfl rfl rfl (exX10_rise (d := d + 0) hv) ?_
    show Ex (d + 2) kX10_paceBetween 9 [some (vR (10, 0, 0)), some (vI x1), some (vI x2), some (vI x3), j4] [vI v1, vI 2, vI x3] hp _
    refine Ex.go 1 (pc' := 10) (ls' := [some (vR (10, 0, 0)), some (vI x1), some (vI x2), some (vI x3), j4]) (st' := [vI (2 * v1), vI x3]) (hp' := hp) (fun _ => rfl) ?_
    refine Ex.icmp rfl ?_
    by_cases hc : x3 < (2 * v1)
    · rw [if_pos hc] at h
      rw [brI_ge_p hc]
      show Ex (d + 2) kX10_paceBetween 13 [some (vR (10, 0, 0)), some (vI x1), some (vI x2), some (vI x3), j4] [] hp _
      refine Ex.go 3 (pc' := 16) (ls' := [some (vR (10, 0, 0)), some (vI x1), some (vI x2), some (vI x3), j4]) (st' := [vI x2, vR (10, 0, 0), vI x3]) (hp' := hp) (fun _ => rfl) ?_
      obtain ⟨v3, hv, h⟩ := Option.bind_eq_some_iff.mp h
      refine Ex.call (args := [vR (10, 0, 0), vI x2]) (rest := [vI x3]) rfl rfl rfl (exX10_rise (d := d + 0) hv) ?_
      show Ex (d + 2) kX10_paceBetween 19 [some (vR (10, 0, 0)), some (vI x1), some (vI x2), some (vI x3), j4] [vI v3, vI x3] hp _
      refine Ex.go 3 (pc' := 22) (ls' := [some (vR (10, 0, 0)), some (vI x1), some (vI x2), some (vI x3), j4]) (st' := [vI x1, vR (10, 0, 0), vI (x3 + v3)]) (hp' := hp) (fun _ => rfl) ?_
      obtain ⟨v4, hv, h⟩ := Option.bind_eq_some_iff.mp h
      refine Ex.call (args := [vR (10, 0, 0), vI x1]) (rest := [vI (x3 + v3)]) rfl rfl rfl (exX10_rise (d := d + 0) hv) ?_
      show Ex (d + 2) kX10_paceBetween 25 [some (vR (10, 0, 0)), some (vI x1), some (vI x2), some (vI x3), j4] [vI v4, vI (x3 + v3)] hp _
      refine Ex.go 5 (pc' := 32) (ls' := [some (vR (10, 0, 0)), some (vI x1), some (vI x2), some (vI x3), j4]) (st' := [vI x2, vI x1, vR (10, 0, 0), vI (iabs ((x3 + v3) - v4))]) (hp' := hp) (fun _ => rfl) ?_
      obtain ⟨v5, hv, h⟩ := Option.bind_eq_some_iff.mp h
      refine Ex.call (args := [vR (10, 0, 0), vI x1, vI x2]) (rest := [vI (iabs ((x3 + v3) - v4))]) rfl rfl rfl (exX10_clearance (d := d + 0) hv) ?_
      show Ex (d + 2) kX10_paceBetween 35 [some (vR (10, 0, 0)), some (vI x1), some (vI x2), some (vI x3), j4] [vI v5, vI (iabs ((x3 + v3) - v4))] hp _
      refine Ex.icmp rfl ?_
      by_cases hc : (iabs ((x3 + v3) - v4)) < v5
      · rw [if_pos hc] at h
        rw [brI_ge_p hc]
        show Ex (d + 2) kX10_paceBetween 38 [some (vR (10, 0, 0)), some (vI x1), some (vI x2), some (vI x3), j4] [] hp _
        refine Ex.go 2 (pc' := 43) (ls' := [some (vR (10, 0, 0)), some (vI x1), some (vI x2), some (vI x3), j4]) (st' := [vI 1]) (hp' := hp) (fun _ => rfl) ?_
        exact exX10_paceBetween_43 (fun q0 q1 q2 q3 q4 q5 hv => ih q0 q1 q2 q3 q4 q5 hv) h
      · rw [if_neg hc] at h
        rw [brI_ge_n hc]
        show Ex (d + 2) kX10_paceBetween 42 [some (vR (10, 0, 0)), some (vI x1), some (vI x2), some (vI x3), j4] [] hp _
        refine Ex.go 1 (pc' := 43) (ls' := [some (vR (10, 0, 0)), some (vI x1), some (vI x2), some (vI x3), j4]) (st' := [vI 0]) (hp' := hp) (fun _ => rfl) ?_
        exact exX10_paceBetween_43 (fun q0 q1 q2 q3 q4 q5 hv => ih q0 q1 q2 q3 q4 q5 hv) h
    · rw [if_neg hc] at h
      rw [brI_ge_n hc]
      show Ex (d + 2) kX10_paceBetween 63 [some (vR (10, 0, 0)), some (vI x1), some (vI x2), some (vI x3), j4] [] hp _
      refine Ex.go 3 (pc' := 66) (ls' := [some (vR (10, 0, 0)), some (vI x1), some (vI x2), some (vI x3), j4]) (st' := [vI x1, vR (10, 0, 0), vI 2]) (hp' := hp) (fun _ => rfl) ?_
      obtain ⟨v2, hv, h⟩ := Option.bind_eq_some_iff.mp h
      refine Ex.call (args := [vR (10, 0, 0), vI x1]) (rest := [vI 2]) rfl rfl rfl (exX10_rise (d := d + 0) hv) ?_
      show Ex (d + 2) kX10_paceBetween 69 [some (vR (10, 0, 0)), some (vI x1), some (vI x2), some (vI x3), j4] [vI v2, vI 2] hp _
      refine Ex.go 1 (pc' := 70) (ls' := [some (vR (10, 0, 0)), some (vI x1), some (vI x2), some (vI x3), j4]) (st' := [vI (2 * v2)]) (hp' := hp) (fun _ => rfl) ?_
      cases h
      exact Ex.ret rfl rfl rfl
def fX10_paceBetween (a0 : Int32) (a1 : Int32) (hp : HP) : Option Int32 := fX10_paceBetween_2 FU a0 a1 1 hp
theorem exX10_paceBetween {d : Nat} {a0 : Int32} {a1 : Int32} {hp : HP} {v : Int32} (h : fX10_paceBetween a0 a1 hp = some v) : Calls (d + 2) 255 [vR (10, 0, 0), vI a0, vI a1] hp (rsI v hp) := by
  replace h : (fX10_paceBetween_2 FU a0 a1 1 hp) = some v := h
  show Ex (d + 2) kX10_paceBetween 0 [some (vR (10, 0, 0)), some (vI a0), some (vI a1), none, none] [] hp _
  refine Ex.go 2 (pc' := 2) (ls' := [some (vR (10, 0, 0)), some (vI a0), some (vI a1), some (vI 1), none]) (st' := []) (hp' := hp) (fun _ => rfl) ?_
  exact exX10_paceBetween_2 FU _ _ _ _ _ _ h
def fX10_paceOf_22 (x1 : Int32) (x2 : Int32) (y1 : Int32) (hp : HP) : Option (Int32 × HP) := (fX10_refuse y1 2 hp).bind fun q2 => if q2.1 = 0 then ((fX10_paceBetween x1 x2 q2.2).bind fun v3 => some (v3, q2.2)) else (some (0, q2.2))
theorem exX10_paceOf_22 {d : Nat} {x1 : Int32} {x2 : Int32} {y1 : Int32} {hp : HP} {v : (Int32 × HP)} (h : fX10_paceOf_22 x1 x2 y1 hp = some v) : Ex (d + 3) kX10_paceOf 22 [some (vR (10, 0, 0)), some (vI x1), some (vI x2)] [vI y1, vR (10, 0, 0)] hp (rsI v.1 v.2) := by
  replace h : ((fX10_refuse y1 2 hp).bind fun q2 => if q2.1 = 0 then ((fX10_paceBetween x1 x2 q2.2).bind fun v3 => some (v3, q2.2)) else (some (0, q2.2))) = some v := h
  refine Ex.go 1 (pc' := 23) (ls' := [some (vR (10, 0, 0)), some (vI x1), some (vI x2)]) (st' := [vI 2, vI y1, vR (10, 0, 0)]) (hp' := hp) (fun _ => rfl) ?_
  obtain ⟨q2, hv, h⟩ := Option.bind_eq_some_iff.mp h
  refine Ex.call (args := [vR (10, 0, 0), vI y1, vI 2]) (rest := []) rfl rfl rfl (exX10_refuse (d := d + 2) hv) ?_
  show Ex (d + 3) kX10_paceOf 26 [some (vR (10, 0, 0)), some (vI x1), some (vI x2)] [vI q2.1] q2.2 _
  refine Ex.ifc rfl ?_
  by_cases hc : q2.1 = 0
  · rw [if_pos hc] at h
    rw [brI_eq_p hc]
    show Ex (d + 3) kX10_paceOf 33 [some (vR (10, 0, 0)), some (vI x1), some (vI x2)] [] q2.2 _
    refine Ex.go 3 (pc' := 36) (ls' := [some (vR (10, 0, 0)), some (vI x1), some (vI x2)]) (st' := [vI x2, vI x1, vR (10, 0, 0)]) (hp' := q2.2) (fun _ => rfl) ?_
    obtain ⟨v3, hv, h⟩ := Option.bind_eq_some_iff.mp h
    refine Ex.call (args := [vR (10, 0, 0), vI x1, vI x2]) (rest := []) rfl rfl rfl (exX10_paceBetween (d := d + 0) hv) ?_
    show Ex (d + 3) kX10_paceOf 39 [some (vR (10, 0, 0)), some (vI x1), some (vI x2)] [vI v3] q2.2 _
    cases h
    exact Ex.ret rfl rfl rfl
  · rw [if_neg hc] at h
    rw [brI_eq_n hc]
    show Ex (d + 3) kX10_paceOf 29 [some (vR (10, 0, 0)), some (vI x1), some (vI x2)] [] q2.2 _
    refine Ex.go 2 (pc' := 39) (ls' := [some (vR (10, 0, 0)), some (vI x1), some (vI x2)]) (st' := [vI 0]) (hp' := q2.2) (fun _ => rfl) ?_
    cases h
    exact Ex.ret rfl rfl rfl
def fX10_paceOf (a0 : Int32) (a1 : Int32) (hp : HP) : Option (Int32 × HP) := (fX10_noBar a0 hp).bind fun q5 => if q5.1 = 0 then ((fX10_isBar a1 q5.2).bind fun v6 => if v6 = 0 then (fX10_paceOf_22 a0 a1 1 q5.2) else (fX10_paceOf_22 a0 a1 0 q5.2)) else (some (0, q5.2))
theorem exX10_paceOf {d : Nat} {a0 : Int32} {a1 : Int32} {hp : HP} {v : (Int32 × HP)} (h : fX10_paceOf a0 a1 hp = some v) : Calls (d + 3) 256 [vR (10, 0, 0), vI a0, vI a1] hp (rsI v.1 v.2) := by
  replace h : ((fX10_noBar a0 hp).bind fun q5 => if q5.1 = 0 then ((fX10_isBar a1 q5.2).bind fun v6 => if v6 = 0 then (fX10_paceOf_22 a0 a1 1 q5.2) else (fX10_paceOf_22 a0 a1 0 q5.2)) else (some (0, q5.2))) = some v := h
  show Ex (d + 3) kX10_paceOf 0 [some (vR (10, 0, 0)), some (vI a0), some (vI a1)] [] hp _
  refine Ex.go 2 (pc' := 2) (ls' := [some (vR (10, 0, 0)), some (vI a0), some (vI a1)]) (st' := [vI a0, vR (10, 0, 0)]) (hp' := hp) (fun _ => rfl) ?_
  obtain ⟨q5, hv, h⟩ := Option.bind_eq_some_iff.mp h
  refine Ex.call (args := [vR (10, 0, 0), vI a0]) (rest := []) rfl rfl rfl (exX10_noBar (d := d + 0) hv) ?_
  show Ex (d + 3) kX10_paceOf 5 [some (vR (10, 0, 0)), some (vI a0), some (vI a1)] [vI q5.1] q5.2 _
  refine Ex.ifc rfl ?_
  by_cases hc : q5.1 = 0
  · rw [if_pos hc] at h
    rw [brI_ne_p hc]
    show Ex (d + 3) kX10_paceOf 8 [some (vR (10, 0, 0)), some (vI a0), some (vI a1)] [] q5.2 _
    refine Ex.go 3 (pc' := 11) (ls' := [some (vR (10, 0, 0)), some (vI a0), some (vI a1)]) (st' := [vI a1, vR (10, 0, 0), vR (10, 0, 0)]) (hp' := q5.2) (fun _ => rfl) ?_
    obtain ⟨v6, hv, h⟩ := Option.bind_eq_some_iff.mp h
    refine Ex.call (args := [vR (10, 0, 0), vI a1]) (rest := [vR (10, 0, 0)]) rfl rfl rfl (exX10_isBar (d := d + 1) hv) ?_
    show Ex (d + 3) kX10_paceOf 14 [some (vR (10, 0, 0)), some (vI a0), some (vI a1)] [vI v6, vR (10, 0, 0)] q5.2 _
    refine Ex.ifc rfl ?_
    by_cases hc : v6 = 0
    · rw [if_pos hc] at h
      rw [brI_ne_p hc]
      show Ex (d + 3) kX10_paceOf 17 [some (vR (10, 0, 0)), some (vI a0), some (vI a1)] [vR (10, 0, 0)] q5.2 _
      refine Ex.go 2 (pc' := 22) (ls' := [some (vR (10, 0, 0)), some (vI a0), some (vI a1)]) (st' := [vI 1, vR (10, 0, 0)]) (hp' := q5.2) (fun _ => rfl) ?_
      exact exX10_paceOf_22 h
    · rw [if_neg hc] at h
      rw [brI_ne_n hc]
      show Ex (d + 3) kX10_paceOf 21 [some (vR (10, 0, 0)), some (vI a0), some (vI a1)] [vR (10, 0, 0)] q5.2 _
      refine Ex.go 1 (pc' := 22) (ls' := [some (vR (10, 0, 0)), some (vI a0), some (vI a1)]) (st' := [vI 0, vR (10, 0, 0)]) (hp' := q5.2) (fun _ => rfl) ?_
      exact exX10_paceOf_22 h
  · rw [if_neg hc] at h
    rw [brI_ne_n hc]
    show Ex (d + 3) kX10_paceOf 29 [some (vR (10, 0, 0)), some (vI a0), some (vI a1)] [] q5.2 _
    refine Ex.go 2 (pc' := 39) (ls' := [some (vR (10, 0, 0)), some (vI a0), some (vI a1)]) (st' := [vI 0]) (hp' := q5.2) (fun _ => rfl) ?_
    cases h
    exact Ex.ret rfl rfl rfl
def fX10_worstPair_61 (x2 : Int32) (x3 : Int32) (x4 : Int32) (x5 : Int32) (y0 : Int32) (k15 : Int32 → Int32 → Int32 → HP → Option (Int32 × HP)) (k26 : Int32 → Int32 → Int32 → Int32 → HP → Option (Int32 × HP)) (hp : HP) : Option (Int32 × HP) := k26 y0 (imax x2 x5) x3 (x4 + 1) hp
theorem exX10_worstPair_61 {d : Nat} {x2 : Int32} {x3 : Int32} {x4 : Int32} {x5 : Int32} {y0 : Int32} {j1 : Option VL} {hp : HP} {v : (Int32 × HP)} {k15 : Int32 → Int32 → Int32 → HP → Option (Int32 × HP)} {k26 : Int32 → Int32 → Int32 → Int32 → HP → Option (Int32 × HP)} (hk15 : ∀ (x1 : Int32) (x2 : Int32) (x3 : Int32) (j4 : Option VL) (j5 : Option VL) (hp : HP) (v : (Int32 × HP)), k15 x1 x2 x3 hp = some v → Ex (d + 3) kX10_worstPair 15 [some (vR (10, 0, 0)), some (vI x1), some (vI x2), some (vI x3), j4, j5] [] hp (rsI v.1 v.2)) (hk26 : ∀ (x1 : Int32) (x2 : Int32) (x3 : Int32) (x4 : Int32) (j5 : Option VL) (hp : HP) (v : (Int32 × HP)), k26 x1 x2 x3 x4 hp = some v → Ex (d + 3) kX10_worstPair 26 [some (vR (10, 0, 0)), some (vI x1), some (vI x2), some (vI x3), some (vI x4), j5] [] hp (rsI v.1 v.2)) (h : fX10_worstPair_61 x2 x3 x4 x5 y0 k15 k26 hp = some v) : Ex (d + 3) kX10_worstPair 61 [some (vR (10, 0, 0)), j1, some (vI x2), some (vI x3), some (vI x4), some (vI x5)] [vI y0] hp (rsI v.1 v.2) := by
  replace h : (k26 y0 (imax x2 x5) x3 (x4 + 1) hp) = some v := h
  refine Ex.go 7 (pc' := 26) (ls' := [some (vR (10, 0, 0)), some (vI y0), some (vI (imax x2 x5)), some (vI x3), some (vI (x4 + 1)), some (vI x5)]) (st' := []) (hp' := hp) (fun _ => rfl) ?_
  exact hk26 _ _ _ _ _ _ _ h
def fX10_worstPair_26 (n : Nat) (x1 : Int32) (x2 : Int32) (x3 : Int32) (x4 : Int32) (k15 : Int32 → Int32 → Int32 → HP → Option (Int32 × HP)) (hp : HP) : Option (Int32 × HP) := match n with
  | 0 => none
  | n + 1 => if x4 < (hp (10, 0, 0) 2) then ((fX10_paceBetween x3 x4 hp).bind fun v1 => if x2 < v1 then (fX10_worstPair_61 x2 x3 x4 v1 ((100 * x3) + x4) k15 (fun x1 x2 x3 x4 hq => fX10_worstPair_26 n x1 x2 x3 x4 k15 hq) hp) else (fX10_worstPair_61 x2 x3 x4 v1 x1 k15 (fun x1 x2 x3 x4 hq => fX10_worstPair_26 n x1 x2 x3 x4 k15 hq) hp)) else (k15 x1 x2 (x3 + 1) hp)
theorem exX10_worstPair_26 {d : Nat} {k15 : Int32 → Int32 → Int32 → HP → Option (Int32 × HP)} (hk15 : ∀ (x1 : Int32) (x2 : Int32) (x3 : Int32) (j4 : Option VL) (j5 : Option VL) (hp : HP) (v : (Int32 × HP)), k15 x1 x2 x3 hp = some v → Ex (d + 3) kX10_worstPair 15 [some (vR (10, 0, 0)), some (vI x1), some (vI x2), some (vI x3), j4, j5] [] hp (rsI v.1 v.2)) : ∀ (n : Nat) (x1 : Int32) (x2 : Int32) (x3 : Int32) (x4 : Int32) (j5 : Option VL) (hp : HP) (v : (Int32 × HP)), fX10_worstPair_26 n x1 x2 x3 x4 k15 hp = some v → Ex (d + 3) kX10_worstPair 26 [some (vR (10, 0, 0)), some (vI x1), some (vI x2), some (vI x3), some (vI x4), j5] [] hp (rsI v.1 v.2) := by
  intro n
  induction n with
  | zero =>
    intro x1 x2 x3 x4 j5 hp v h
    cases h
  | succ n ih =>
    intro x1 x2 x3 x4 j5 hp v h
    replace h : (if x4 < (hp (10, 0, 0) 2) then ((fX10_paceBetween x3 x4 hp).bind fun v1 => if x2 < v1 then (fX10_worstPair_61 x2 x3 x4 v1 ((100 * x3) + x4) k15 (fun x1 x2 x3 x4 hq => fX10_worstPair_26 n x1 x2 x3 x4 k15 hq) hp) else (fX10_worstPair_61 x2 x3 x4 v1 x1 k15 (fun x1 x2 x3 x4 hq => fX10_worstPair_26 n x1 x2 x3 x4 k15 hq) hp)) else (k15 x1 x2 (x3 + 1) hp)) = some v := h
    refine Ex.go 3 (pc' := 32) (ls' := [some (vR (10, 0, 0)), some (vI x1), some (vI x2), some (vI x3), some (vI x4), j5]) (st' := [vI (hp (10, 0, 0) 2), vI x4]) (hp' := hp) (fun _ => rfl) ?_
    refine Ex.icmp rfl ?_
    by_cases hc : x4 < (hp (10, 0, 0) 2)
    · rw [if_pos hc] at h
      rw [brI_ge_p hc]
      show Ex (d + 3) kX10_worstPair 35 [some (vR (10, 0, 0)), some (vI x1), some (vI x2), some (vI x3), some (vI x4), j5] [] hp _
      refine Ex.go 3 (pc' := 39) (ls' := [some (vR (10, 0, 0)), some (vI x1), some (vI x2), some (vI x3), some (vI x4), j5]) (st' := [vI x4, vI x3, vR (10, 0, 0)]) (hp' := hp) (fun _ => rfl) ?_
      obtain ⟨v1, hv, h⟩ := Option.bind_eq_some_iff.mp h
      refine Ex.call (args := [vR (10, 0, 0), vI x3, vI x4]) (rest := []) rfl rfl rfl (exX10_paceBetween (d := d + 0) hv) ?_
      show Ex (d + 3) kX10_worstPair 42 [some (vR (10, 0, 0)), some (vI x1), some (vI x2), some (vI x3), some (vI x4), j5] [vI v1] hp _
      refine Ex.go 3 (pc' := 47) (ls' := [some (vR (10, 0, 0)), some (vI x1), some (vI x2), some (vI x3), some (vI x4), some (vI v1)]) (st' := [vI x2, vI v1]) (hp' := hp) (fun _ => rfl) ?_
      refine Ex.icmp rfl ?_
      by_cases hc : x2 < v1
      · rw [if_pos hc] at h
        rw [brI_le_p hc]
        show Ex (d + 3) kX10_worstPair 50 [some (vR (10, 0, 0)), some (vI x1), some (vI x2), some (vI x3), some (vI x4), some (vI v1)] [] hp _
        refine Ex.go 6 (pc' := 61) (ls' := [some (vR (10, 0, 0)), some (vI x1), some (vI x2), some (vI x3), some (vI x4), some (vI v1)]) (st' := [vI ((100 * x3) + x4)]) (hp' := hp) (fun _ => rfl) ?_
        exact exX10_worstPair_61 hk15 (fun q0 q1 q2 q3 q4 q5 q6 hv => ih q0 q1 q2 q3 q4 q5 q6 hv) h
      · rw [if_neg hc] at h
        rw [brI_le_n hc]
        show Ex (d + 3) kX10_worstPair 60 [some (vR (10, 0, 0)), some (vI x1), some (vI x2), some (vI x3), some (vI x4), some (vI v1)] [] hp _
        refine Ex.go 1 (pc' := 61) (ls' := [some (vR (10, 0, 0)), some (vI x1), some (vI x2), some (vI x3), some (vI x4), some (vI v1)]) (st' := [vI x1]) (hp' := hp) (fun _ => rfl) ?_
        exact exX10_worstPair_61 hk15 (fun q0 q1 q2 q3 q4 q5 q6 hv => ih q0 q1 q2 q3 q4 q5 q6 hv) h
    · rw [if_neg hc] at h
      rw [brI_ge_n hc]
      show Ex (d + 3) kX10_worstPair 75 [some (vR (10, 0, 0)), some (vI x1), some (vI x2), some (vI x3), some (vI x4), j5] [] hp _
      refine Ex.go 2 (pc' := 15) (ls' := [some (vR (10, 0, 0)), some (vI x1), some (vI x2), some (vI (x3 + 1)), some (vI x4), j5]) (st' := []) (hp' := hp) (fun _ => rfl) ?_
      exact hk15 _ _ _ _ _ _ _ h
def fX10_worstPair_15 (n : Nat) (x1 : Int32) (x2 : Int32) (x3 : Int32) (hp : HP) : Option (Int32 × HP) := match n with
  | 0 => none
  | n + 1 => if x3 < (hp (10, 0, 0) 2) then (fX10_worstPair_26 FU x1 x2 x3 0 (fun x1 x2 x3 hq => fX10_worstPair_15 n x1 x2 x3 hq) hp) else (some (x1, hp))
theorem exX10_worstPair_15 {d : Nat} : ∀ (n : Nat) (x1 : Int32) (x2 : Int32) (x3 : Int32) (j4 : Option VL) (j5 : Option VL) (hp : HP) (v : (Int32 × HP)), fX10_worstPair_15 n x1 x2 x3 hp = some v → Ex (d + 3) kX10_worstPair 15 [some (vR (10, 0, 0)), some (vI x1), some (vI x2), some (vI x3), j4, j5] [] hp (rsI v.1 v.2) := by
  intro n
  induction n with
  | zero =>
    intro x1 x2 x3 j4 j5 hp v h
    cases h
  | succ n ih =>
    intro x1 x2 x3 j4 j5 hp v h
    replace h : (if x3 < (hp (10, 0, 0) 2) then (fX10_worstPair_26 FU x1 x2 x3 0 (fun x1 x2 x3 hq => fX10_worstPair_15 n x1 x2 x3 hq) hp) else (some (x1, hp))) = some v := h
    refine Ex.go 3 (pc' := 20) (ls' := [some (vR (10, 0, 0)), some (vI x1), some (vI x2), some (vI x3), j4, j5]) (st' := [vI (hp (10, 0, 0) 2), vI x3]) (hp' := hp) (fun _ => rfl) ?_
    refine Ex.icmp rfl ?_
    by_cases hc : x3 < (hp (10, 0, 0) 2)
    · rw [if_pos hc] at h
      rw [brI_ge_p hc]
      show Ex (d + 3) kX10_worstPair 23 [some (vR (10, 0, 0)), some (vI x1), some (vI x2), some (vI x3), j4, j5] [] hp _
      refine Ex.go 2 (pc' := 26) (ls' := [some (vR (10, 0, 0)), some (vI x1), some (vI x2), some (vI x3), some (vI 0), j5]) (st' := []) (hp' := hp) (fun _ => rfl) ?_
      exact exX10_worstPair_26 (fun q0 q1 q2 q3 q4 q5 q6 hv => ih q0 q1 q2 q3 q4 q5 q6 hv) FU _ _ _ _ _ _ _ h
    · rw [if_neg hc] at h
      rw [brI_ge_n hc]
      show Ex (d + 3) kX10_worstPair 81 [some (vR (10, 0, 0)), some (vI x1), some (vI x2), some (vI x3), j4, j5] [] hp _
      refine Ex.go 1 (pc' := 82) (ls' := [some (vR (10, 0, 0)), some (vI x1), some (vI x2), some (vI x3), j4, j5]) (st' := [vI x1]) (hp' := hp) (fun _ => rfl) ?_
      cases h
      exact Ex.ret rfl rfl rfl
def fX10_worstPair (hp : HP) : Option (Int32 × HP) := (fX10_notLoaded hp).bind fun q3 => if q3.1 = 0 then (fX10_worstPair_15 FU m1 0 0 q3.2) else (some (0, q3.2))
theorem exX10_worstPair {d : Nat} {hp : HP} {v : (Int32 × HP)} (h : fX10_worstPair hp = some v) : Calls (d + 3) 257 [vR (10, 0, 0)] hp (rsI v.1 v.2) := by
  replace h : ((fX10_notLoaded hp).bind fun q3 => if q3.1 = 0 then (fX10_worstPair_15 FU m1 0 0 q3.2) else (some (0, q3.2))) = some v := h
  show Ex (d + 3) kX10_worstPair 0 [some (vR (10, 0, 0)), none, none, none, none, none] [] hp _
  refine Ex.go 1 (pc' := 1) (ls' := [some (vR (10, 0, 0)), none, none, none, none, none]) (st' := [vR (10, 0, 0)]) (hp' := hp) (fun _ => rfl) ?_
  obtain ⟨q3, hv, h⟩ := Option.bind_eq_some_iff.mp h
  refine Ex.call (args := [vR (10, 0, 0)]) (rest := []) rfl rfl rfl (exX10_notLoaded (d := d + 1) hv) ?_
  show Ex (d + 3) kX10_worstPair 4 [some (vR (10, 0, 0)), none, none, none, none, none] [vI q3.1] q3.2 _
  refine Ex.ifc rfl ?_
  by_cases hc : q3.1 = 0
  · rw [if_pos hc] at h
    rw [brI_eq_p hc]
    show Ex (d + 3) kX10_worstPair 9 [some (vR (10, 0, 0)), none, none, none, none, none] [] q3.2 _
    refine Ex.go 6 (pc' := 15) (ls' := [some (vR (10, 0, 0)), some (vI m1), some (vI 0), some (vI 0), none, none]) (st' := []) (hp' := q3.2) (fun _ => rfl) ?_
    exact exX10_worstPair_15 FU _ _ _ _ _ _ _ h
  · rw [if_neg hc] at h
    rw [brI_eq_n hc]
    show Ex (d + 3) kX10_worstPair 7 [some (vR (10, 0, 0)), none, none, none, none, none] [] q3.2 _
    refine Ex.go 1 (pc' := 8) (ls' := [some (vR (10, 0, 0)), none, none, none, none, none]) (st' := [vI 0]) (hp' := q3.2) (fun _ => rfl) ?_
    cases h
    exact Ex.ret rfl rfl rfl
def fX10_putsAside_2 (n : Nat) (x1 : Int32) (hp : HP) : Option HP := match n with
  | 0 => none
  | n + 1 => if x1 < 1150 then (if inb x1 (alen (11, 22, 0)) = true then (if inb x1 (alen (11, 23, 0)) = true then (fX10_putsAside_2 n (x1 + 1) (up hp (11, 23, 0) (x1.toNatClampNeg) (hp (11, 22, 0) x1.toNatClampNeg))) else none) else none) else (some hp)
theorem exX10_putsAside_2 {d : Nat} : ∀ (n : Nat) (x1 : Int32) (hp : HP) (v : HP), fX10_putsAside_2 n x1 hp = some v → Ex (d + 0) kX10_putsAside 2 [some (vR (10, 0, 0)), some (vI x1)] [] hp (rsV () v) := by
  intro n
  induction n with
  | zero =>
    intro x1 hp v h
    cases h
  | succ n ih =>
    intro x1 hp v h
    replace h : (if x1 < 1150 then (if inb x1 (alen (11, 22, 0)) = true then (if inb x1 (alen (11, 23, 0)) = true then (fX10_putsAside_2 n (x1 + 1) (up hp (11, 23, 0) (x1.toNatClampNeg) (hp (11, 22, 0) x1.toNatClampNeg))) else none) else none) else (some hp)) = some v := h
    refine Ex.go 2 (pc' := 6) (ls' := [some (vR (10, 0, 0)), some (vI x1)]) (st' := [vI 1150, vI x1]) (hp' := hp) (fun _ => rfl) ?_
    refine Ex.icmp rfl ?_
    by_cases hc : x1 < 1150
    · rw [if_pos hc] at h
      rw [brI_ge_p hc]
      show Ex (d + 0) kX10_putsAside 9 [some (vR (10, 0, 0)), some (vI x1)] [] hp _
      refine Ex.go 6 (pc' := 19) (ls' := [some (vR (10, 0, 0)), some (vI x1)]) (st' := [vI x1, vR (11, 22, 0), vI x1, vR (11, 23, 0)]) (hp' := hp) (fun _ => rfl) ?_
      by_cases hc : inb x1 (alen (11, 22, 0)) = true
      · rw [if_pos hc] at h
        refine Ex.iald rfl rfl hc rfl ?_
        show Ex (d + 0) kX10_putsAside 20 [some (vR (10, 0, 0)), some (vI x1)] [vI (hp (11, 22, 0) x1.toNatClampNeg), vI x1, vR (11, 23, 0)] hp _
        by_cases hc : inb x1 (alen (11, 23, 0)) = true
        · rw [if_pos hc] at h
          refine Ex.iast rfl rfl hc rfl ?_
          show Ex (d + 0) kX10_putsAside 21 [some (vR (10, 0, 0)), some (vI x1)] [] (up hp (11, 23, 0) (x1.toNatClampNeg) (hp (11, 22, 0) x1.toNatClampNeg)) _
          refine Ex.go 2 (pc' := 2) (ls' := [some (vR (10, 0, 0)), some (vI (x1 + 1))]) (st' := []) (hp' := (up hp (11, 23, 0) (x1.toNatClampNeg) (hp (11, 22, 0) x1.toNatClampNeg))) (fun _ => rfl) ?_
          exact ih _ _ _ h
        · rw [if_neg hc] at h
          cases h
      · rw [if_neg hc] at h
        cases h
    · rw [if_neg hc] at h
      rw [brI_ge_n hc]
      show Ex (d + 0) kX10_putsAside 27 [some (vR (10, 0, 0)), some (vI x1)] [] hp _
      cases h
      exact Ex.ret rfl rfl rfl
def fX10_putsAside (hp : HP) : Option HP := fX10_putsAside_2 FU 0 hp
theorem exX10_putsAside {d : Nat} {hp : HP} {v : HP} (h : fX10_putsAside hp = some v) : Calls (d + 0) 258 [vR (10, 0, 0)] hp (rsV () v) := by
  replace h : (fX10_putsAside_2 FU 0 hp) = some v := h
  show Ex (d + 0) kX10_putsAside 0 [some (vR (10, 0, 0)), none] [] hp _
  refine Ex.go 2 (pc' := 2) (ls' := [some (vR (10, 0, 0)), some (vI 0)]) (st' := []) (hp' := hp) (fun _ => rfl) ?_
  exact exX10_putsAside_2 FU _ _ _ h
def fX10_fetchesBack_2 (n : Nat) (x1 : Int32) (x2 : Int32) (hp : HP) : Option (Int32 × HP) := match n with
  | 0 => none
  | n + 1 => if x2 < 1150 then (if inb x2 (alen (11, 23, 0)) = true then (if inb x2 (alen (11, 22, 0)) = true then (fX10_fetchesBack_2 n x1 (x2 + 1) (up hp (11, 22, 0) (x2.toNatClampNeg) (hp (11, 23, 0) x2.toNatClampNeg))) else none) else none) else (some (x1, hp))
theorem exX10_fetchesBack_2 {d : Nat} : ∀ (n : Nat) (x1 : Int32) (x2 : Int32) (hp : HP) (v : (Int32 × HP)), fX10_fetchesBack_2 n x1 x2 hp = some v → Ex (d + 0) kX10_fetchesBack 2 [some (vR (10, 0, 0)), some (vI x1), some (vI x2)] [] hp (rsI v.1 v.2) := by
  intro n
  induction n with
  | zero =>
    intro x1 x2 hp v h
    cases h
  | succ n ih =>
    intro x1 x2 hp v h
    replace h : (if x2 < 1150 then (if inb x2 (alen (11, 23, 0)) = true then (if inb x2 (alen (11, 22, 0)) = true then (fX10_fetchesBack_2 n x1 (x2 + 1) (up hp (11, 22, 0) (x2.toNatClampNeg) (hp (11, 23, 0) x2.toNatClampNeg))) else none) else none) else (some (x1, hp))) = some v := h
    refine Ex.go 2 (pc' := 6) (ls' := [some (vR (10, 0, 0)), some (vI x1), some (vI x2)]) (st' := [vI 1150, vI x2]) (hp' := hp) (fun _ => rfl) ?_
    refine Ex.icmp rfl ?_
    by_cases hc : x2 < 1150
    · rw [if_pos hc] at h
      rw [brI_ge_p hc]
      show Ex (d + 0) kX10_fetchesBack 9 [some (vR (10, 0, 0)), some (vI x1), some (vI x2)] [] hp _
      refine Ex.go 6 (pc' := 19) (ls' := [some (vR (10, 0, 0)), some (vI x1), some (vI x2)]) (st' := [vI x2, vR (11, 23, 0), vI x2, vR (11, 22, 0)]) (hp' := hp) (fun _ => rfl) ?_
      by_cases hc : inb x2 (alen (11, 23, 0)) = true
      · rw [if_pos hc] at h
        refine Ex.iald rfl rfl hc rfl ?_
        show Ex (d + 0) kX10_fetchesBack 20 [some (vR (10, 0, 0)), some (vI x1), some (vI x2)] [vI (hp (11, 23, 0) x2.toNatClampNeg), vI x2, vR (11, 22, 0)] hp _
        by_cases hc : inb x2 (alen (11, 22, 0)) = true
        · rw [if_pos hc] at h
          refine Ex.iast rfl rfl hc rfl ?_
          show Ex (d + 0) kX10_fetchesBack 21 [some (vR (10, 0, 0)), some (vI x1), some (vI x2)] [] (up hp (11, 22, 0) (x2.toNatClampNeg) (hp (11, 23, 0) x2.toNatClampNeg)) _
          refine Ex.go 2 (pc' := 2) (ls' := [some (vR (10, 0, 0)), some (vI x1), some (vI (x2 + 1))]) (st' := []) (hp' := (up hp (11, 22, 0) (x2.toNatClampNeg) (hp (11, 23, 0) x2.toNatClampNeg))) (fun _ => rfl) ?_
          exact ih _ _ _ _ h
        · rw [if_neg hc] at h
          cases h
      · rw [if_neg hc] at h
        cases h
    · rw [if_neg hc] at h
      rw [brI_ge_n hc]
      show Ex (d + 0) kX10_fetchesBack 27 [some (vR (10, 0, 0)), some (vI x1), some (vI x2)] [] hp _
      refine Ex.go 1 (pc' := 28) (ls' := [some (vR (10, 0, 0)), some (vI x1), some (vI x2)]) (st' := [vI x1]) (hp' := hp) (fun _ => rfl) ?_
      cases h
      exact Ex.ret rfl rfl rfl
def fX10_fetchesBack (a0 : Int32) (hp : HP) : Option (Int32 × HP) := fX10_fetchesBack_2 FU a0 0 hp
theorem exX10_fetchesBack {d : Nat} {a0 : Int32} {hp : HP} {v : (Int32 × HP)} (h : fX10_fetchesBack a0 hp = some v) : Calls (d + 0) 259 [vR (10, 0, 0), vI a0] hp (rsI v.1 v.2) := by
  replace h : (fX10_fetchesBack_2 FU a0 0 hp) = some v := h
  show Ex (d + 0) kX10_fetchesBack 0 [some (vR (10, 0, 0)), some (vI a0), none] [] hp _
  refine Ex.go 2 (pc' := 2) (ls' := [some (vR (10, 0, 0)), some (vI a0), some (vI 0)]) (st' := []) (hp' := hp) (fun _ => rfl) ?_
  exact exX10_fetchesBack_2 FU _ _ _ _ h
def fX10_noBytes_25 (y1 : Int32) (hp : HP) : Option (Int32 × HP) := (fX10_refuse y1 2 hp).bind fun q2 => if q2.1 = 0 then (some (0, q2.2)) else (some (1, q2.2))
theorem exX10_noBytes_25 {d : Nat} {y1 : Int32} {j1 : Option VL} {hp : HP} {v : (Int32 × HP)} (h : fX10_noBytes_25 y1 hp = some v) : Ex (d + 2) kX10_noBytes 25 [some (vR (10, 0, 0)), j1] [vI y1, vR (10, 0, 0)] hp (rsI v.1 v.2) := by
  replace h : ((fX10_refuse y1 2 hp).bind fun q2 => if q2.1 = 0 then (some (0, q2.2)) else (some (1, q2.2))) = some v := h
  refine Ex.go 1 (pc' := 26) (ls' := [some (vR (10, 0, 0)), j1]) (st' := [vI 2, vI y1, vR (10, 0, 0)]) (hp' := hp) (fun _ => rfl) ?_
  obtain ⟨q2, hv, h⟩ := Option.bind_eq_some_iff.mp h
  refine Ex.call (args := [vR (10, 0, 0), vI y1, vI 2]) (rest := []) rfl rfl rfl (exX10_refuse (d := d + 1) hv) ?_
  show Ex (d + 2) kX10_noBytes 29 [some (vR (10, 0, 0)), j1] [vI q2.1] q2.2 _
  refine Ex.ifc rfl ?_
  by_cases hc : q2.1 = 0
  · rw [if_pos hc] at h
    rw [brI_eq_p hc]
    show Ex (d + 2) kX10_noBytes 36 [some (vR (10, 0, 0)), j1] [] q2.2 _
    refine Ex.go 1 (pc' := 37) (ls' := [some (vR (10, 0, 0)), j1]) (st' := [vI 0]) (hp' := q2.2) (fun _ => rfl) ?_
    cases h
    exact Ex.ret rfl rfl rfl
  · rw [if_neg hc] at h
    rw [brI_eq_n hc]
    show Ex (d + 2) kX10_noBytes 32 [some (vR (10, 0, 0)), j1] [] q2.2 _
    refine Ex.go 2 (pc' := 37) (ls' := [some (vR (10, 0, 0)), j1]) (st' := [vI 1]) (hp' := q2.2) (fun _ => rfl) ?_
    cases h
    exact Ex.ret rfl rfl rfl
def fX10_noBytes (a0 : Int32) (hp : HP) : Option (Int32 × HP) := (fX10_notLoaded hp).bind fun q4 => if q4.1 = 0 then ((fX10_in a0 0 (q4.2 (10, 0, 0) 11) q4.2).bind fun v5 => if v5 = 0 then (fX10_noBytes_25 1 q4.2) else (fX10_noBytes_25 0 q4.2)) else (some (1, q4.2))
theorem exX10_noBytes {d : Nat} {a0 : Int32} {hp : HP} {v : (Int32 × HP)} (h : fX10_noBytes a0 hp = some v) : Calls (d + 2) 260 [vR (10, 0, 0), vI a0] hp (rsI v.1 v.2) := by
  replace h : ((fX10_notLoaded hp).bind fun q4 => if q4.1 = 0 then ((fX10_in a0 0 (q4.2 (10, 0, 0) 11) q4.2).bind fun v5 => if v5 = 0 then (fX10_noBytes_25 1 q4.2) else (fX10_noBytes_25 0 q4.2)) else (some (1, q4.2))) = some v := h
  show Ex (d + 2) kX10_noBytes 0 [some (vR (10, 0, 0)), some (vI a0)] [] hp _
  refine Ex.go 1 (pc' := 1) (ls' := [some (vR (10, 0, 0)), some (vI a0)]) (st' := [vR (10, 0, 0)]) (hp' := hp) (fun _ => rfl) ?_
  obtain ⟨q4, hv, h⟩ := Option.bind_eq_some_iff.mp h
  refine Ex.call (args := [vR (10, 0, 0)]) (rest := []) rfl rfl rfl (exX10_notLoaded (d := d + 0) hv) ?_
  show Ex (d + 2) kX10_noBytes 4 [some (vR (10, 0, 0)), some (vI a0)] [vI q4.1] q4.2 _
  refine Ex.ifc rfl ?_
  by_cases hc : q4.1 = 0
  · rw [if_pos hc] at h
    rw [brI_ne_p hc]
    show Ex (d + 2) kX10_noBytes 7 [some (vR (10, 0, 0)), some (vI a0)] [] q4.2 _
    refine Ex.go 5 (pc' := 14) (ls' := [some (vR (10, 0, 0)), some (vI a0)]) (st' := [vI (q4.2 (10, 0, 0) 11), vI 0, vI a0, vR (10, 0, 0)]) (hp' := q4.2) (fun _ => rfl) ?_
    obtain ⟨v5, hv, h⟩ := Option.bind_eq_some_iff.mp h
    refine Ex.call (args := [vI a0, vI 0, vI (q4.2 (10, 0, 0) 11)]) (rest := [vR (10, 0, 0)]) rfl rfl rfl (exX10_in (d := d + 1) hv) ?_
    show Ex (d + 2) kX10_noBytes 17 [some (vR (10, 0, 0)), some (vI a0)] [vI v5, vR (10, 0, 0)] q4.2 _
    refine Ex.ifc rfl ?_
    by_cases hc : v5 = 0
    · rw [if_pos hc] at h
      rw [brI_ne_p hc]
      show Ex (d + 2) kX10_noBytes 20 [some (vR (10, 0, 0)), some (vI a0)] [vR (10, 0, 0)] q4.2 _
      refine Ex.go 2 (pc' := 25) (ls' := [some (vR (10, 0, 0)), some (vI a0)]) (st' := [vI 1, vR (10, 0, 0)]) (hp' := q4.2) (fun _ => rfl) ?_
      exact exX10_noBytes_25 h
    · rw [if_neg hc] at h
      rw [brI_ne_n hc]
      show Ex (d + 2) kX10_noBytes 24 [some (vR (10, 0, 0)), some (vI a0)] [vR (10, 0, 0)] q4.2 _
      refine Ex.go 1 (pc' := 25) (ls' := [some (vR (10, 0, 0)), some (vI a0)]) (st' := [vI 0, vR (10, 0, 0)]) (hp' := q4.2) (fun _ => rfl) ?_
      exact exX10_noBytes_25 h
  · rw [if_neg hc] at h
    rw [brI_ne_n hc]
    show Ex (d + 2) kX10_noBytes 32 [some (vR (10, 0, 0)), some (vI a0)] [] q4.2 _
    refine Ex.go 2 (pc' := 37) (ls' := [some (vR (10, 0, 0)), some (vI a0)]) (st' := [vI 1]) (hp' := q4.2) (fun _ => rfl) ?_
    cases h
    exact Ex.ret rfl rfl rfl
def fX10_wouldType_23 (x1 : Int32) (x2 : Int32) (y1 : Int32) (hp : HP) : Option (Int32 × HP) := (fX10_refuse y1 3 hp).bind fun q2 => if q2.1 = 0 then ((fX10_putsAside q2.2).bind fun hp5 => (fX10_typesAll x1 (up hp5 (10, 0, 0) 25 0)).bind fun q7 => if x2 = 0 then ((fX10_fetchesBack q7.1 q7.2).bind fun q19 => some (q19.1, q19.2)) else (if x2 = 1 then ((fX10_fetchesBack (q7.2 (11, 22, 0) 36) q7.2).bind fun q17 => some (q17.1, q17.2)) else (if x2 = 2 then ((fX10_fetchesBack (q7.2 (11, 22, 0) 1) q7.2).bind fun q15 => some (q15.1, q15.2)) else (if x2 = 3 then ((fX10_fetchesBack (q7.2 (11, 22, 0) 0) q7.2).bind fun q13 => some (q13.1, q13.2)) else (if x2 = 4 then ((fX10_fetchesBack ((q7.2 (11, 22, 0) 32) - (hp5 (11, 22, 0) 32)) q7.2).bind fun q11 => some (q11.1, q11.2)) else ((fX10_fetchesBack (q7.2 (10, 0, 0) 25) q7.2).bind fun q9 => some (q9.1, q9.2))))))) else (some (0, q2.2))
theorem exX10_wouldType_23 {d : Nat} {x1 : Int32} {x2 : Int32} {y1 : Int32} {j3 : Option VL} {j4 : Option VL} {hp : HP} {v : (Int32 × HP)} (h : fX10_wouldType_23 x1 x2 y1 hp = some v) : Ex (d + 8) kX10_wouldType 23 [some (vR (10, 0, 0)), some (vI x1), some (vI x2), j3, j4] [vI y1, vR (10, 0, 0)] hp (rsI v.1 v.2) := by
  replace h : ((fX10_refuse y1 3 hp).bind fun q2 => if q2.1 = 0 then ((fX10_putsAside q2.2).bind fun hp5 => (fX10_typesAll x1 (up hp5 (10, 0, 0) 25 0)).bind fun q7 => if x2 = 0 then ((fX10_fetchesBack q7.1 q7.2).bind fun q19 => some (q19.1, q19.2)) else (if x2 = 1 then ((fX10_fetchesBack (q7.2 (11, 22, 0) 36) q7.2).bind fun q17 => some (q17.1, q17.2)) else (if x2 = 2 then ((fX10_fetchesBack (q7.2 (11, 22, 0) 1) q7.2).bind fun q15 => some (q15.1, q15.2)) else (if x2 = 3 then ((fX10_fetchesBack (q7.2 (11, 22, 0) 0) q7.2).bind fun q13 => some (q13.1, q13.2)) else (if x2 = 4 then ((fX10_fetchesBack ((q7.2 (11, 22, 0) 32) - (hp5 (11, 22, 0) 32)) q7.2).bind fun q11 => some (q11.1, q11.2)) else ((fX10_fetchesBack (q7.2 (10, 0, 0) 25) q7.2).bind fun q9 => some (q9.1, q9.2))))))) else (some (0, q2.2))) = some v := h
  refine Ex.go 1 (pc' := 24) (ls' := [some (vR (10, 0, 0)), some (vI x1), some (vI x2), j3, j4]) (st' := [vI 3, vI y1, vR (10, 0, 0)]) (hp' := hp) (fun _ => rfl) ?_
  obtain ⟨q2, hv, h⟩ := Option.bind_eq_some_iff.mp h
  refine Ex.call (args := [vR (10, 0, 0), vI y1, vI 3]) (rest := []) rfl rfl rfl (exX10_refuse (d := d + 7) hv) ?_
  show Ex (d + 8) kX10_wouldType 27 [some (vR (10, 0, 0)), some (vI x1), some (vI x2), j3, j4] [vI q2.1] q2.2 _
  refine Ex.ifc rfl ?_
  by_cases hc : q2.1 = 0
  · rw [if_pos hc] at h
    rw [brI_eq_p hc]
    show Ex (d + 8) kX10_wouldType 32 [some (vR (10, 0, 0)), some (vI x1), some (vI x2), j3, j4] [] q2.2 _
    refine Ex.go 1 (pc' := 33) (ls' := [some (vR (10, 0, 0)), some (vI x1), some (vI x2), j3, j4]) (st' := [vR (10, 0, 0)]) (hp' := q2.2) (fun _ => rfl) ?_
    obtain ⟨hp5, hv, h⟩ := Option.bind_eq_some_iff.mp h
    refine Ex.call (args := [vR (10, 0, 0)]) (rest := []) rfl rfl rfl (exX10_putsAside (d := d + 7) hv) ?_
    show Ex (d + 8) kX10_wouldType 36 [some (vR (10, 0, 0)), some (vI x1), some (vI x2), j3, j4] [] hp5 _
    refine Ex.go 3 (pc' := 42) (ls' := [some (vR (10, 0, 0)), some (vI x1), some (vI x2), j3, j4]) (st' := [vI 32, vR (11, 22, 0)]) (hp' := hp5) (fun _ => rfl) ?_
    refine Ex.iald (k := 32) rfl rfl (by decide) (by decide) ?_
    show Ex (d + 8) kX10_wouldType 43 [some (vR (10, 0, 0)), some (vI x1), some (vI x2), j3, j4] [vI (hp5 (11, 22, 0) 32)] hp5 _
    refine Ex.go 6 (pc' := 51) (ls' := [some (vR (10, 0, 0)), some (vI x1), some (vI x2), some (vI (hp5 (11, 22, 0) 32)), j4]) (st' := [vI x1, vR (10, 0, 0)]) (hp' := (up hp5 (10, 0, 0) 25 0)) (fun _ => rfl) ?_
    obtain ⟨q7, hv, h⟩ := Option.bind_eq_some_iff.mp h
    refine Ex.call (args := [vR (10, 0, 0), vI x1]) (rest := []) rfl rfl rfl (exX10_typesAll (d := d + 0) hv) ?_
    show Ex (d + 8) kX10_wouldType 54 [some (vR (10, 0, 0)), some (vI x1), some (vI x2), some (vI (hp5 (11, 22, 0) 32)), j4] [vI q7.1] q7.2 _
    refine Ex.go 2 (pc' := 57) (ls' := [some (vR (10, 0, 0)), some (vI x1), some (vI x2), some (vI (hp5 (11, 22, 0) 32)), some (vI q7.1)]) (st' := [vI x2]) (hp' := q7.2) (fun _ => rfl) ?_
    refine Ex.tsw rfl ?_
    refine sw_c (k := 0) rfl (fun hc => ?_) (fun hc => ?_)
    · rw [if_pos hc] at h
      show Ex (d + 8) kX10_wouldType 92 [some (vR (10, 0, 0)), some (vI x1), some (vI x2), some (vI (hp5 (11, 22, 0) 32)), some (vI q7.1)] [] q7.2 _
      refine Ex.go 2 (pc' := 95) (ls' := [some (vR (10, 0, 0)), some (vI x1), some (vI x2), some (vI (hp5 (11, 22, 0) 32)), some (vI q7.1)]) (st' := [vI q7.1, vR (10, 0, 0)]) (hp' := q7.2) (fun _ => rfl) ?_
      obtain ⟨q21, hv, h⟩ := Option.bind_eq_some_iff.mp h
      refine Ex.call (args := [vR (10, 0, 0), vI q7.1]) (rest := []) rfl rfl rfl (exX10_fetchesBack (d := d + 7) hv) ?_
      show Ex (d + 8) kX10_wouldType 98 [some (vR (10, 0, 0)), some (vI x1), some (vI x2), some (vI (hp5 (11, 22, 0) 32)), some (vI q7.1)] [vI q21.1] q21.2 _
      cases h
      exact Ex.ret rfl rfl rfl
    rw [if_neg hc] at h
    refine sw_c (k := 1) rfl (fun hc => ?_) (fun hc => ?_)
    · rw [if_pos hc] at h
      show Ex (d + 8) kX10_wouldType 99 [some (vR (10, 0, 0)), some (vI x1), some (vI x2), some (vI (hp5 (11, 22, 0) 32)), some (vI q7.1)] [] q7.2 _
      refine Ex.go 4 (pc' := 106) (ls' := [some (vR (10, 0, 0)), some (vI x1), some (vI x2), some (vI (hp5 (11, 22, 0) 32)), some (vI q7.1)]) (st' := [vI 36, vR (11, 22, 0), vR (10, 0, 0)]) (hp' := q7.2) (fun _ => rfl) ?_
      refine Ex.iald (k := 36) rfl rfl (by decide) (by decide) ?_
      show Ex (d + 8) kX10_wouldType 107 [some (vR (10, 0, 0)), some (vI x1), some (vI x2), some (vI (hp5 (11, 22, 0) 32)), some (vI q7.1)] [vI (q7.2 (11, 22, 0) 36), vR (10, 0, 0)] q7.2 _
      obtain ⟨q23, hv, h⟩ := Option.bind_eq_some_iff.mp h
      refine Ex.call (args := [vR (10, 0, 0), vI (q7.2 (11, 22, 0) 36)]) (rest := []) rfl rfl rfl (exX10_fetchesBack (d := d + 7) hv) ?_
      show Ex (d + 8) kX10_wouldType 110 [some (vR (10, 0, 0)), some (vI x1), some (vI x2), some (vI (hp5 (11, 22, 0) 32)), some (vI q7.1)] [vI q23.1] q23.2 _
      cases h
      exact Ex.ret rfl rfl rfl
    rw [if_neg hc] at h
    refine sw_c (k := 2) rfl (fun hc => ?_) (fun hc => ?_)
    · rw [if_pos hc] at h
      show Ex (d + 8) kX10_wouldType 111 [some (vR (10, 0, 0)), some (vI x1), some (vI x2), some (vI (hp5 (11, 22, 0) 32)), some (vI q7.1)] [] q7.2 _
      refine Ex.go 4 (pc' := 117) (ls' := [some (vR (10, 0, 0)), some (vI x1), some (vI x2), some (vI (hp5 (11, 22, 0) 32)), some (vI q7.1)]) (st' := [vI 1, vR (11, 22, 0), vR (10, 0, 0)]) (hp' := q7.2) (fun _ => rfl) ?_
      refine Ex.iald (k := 1) rfl rfl (by decide) (by decide) ?_
      show Ex (d + 8) kX10_wouldType 118 [some (vR (10, 0, 0)), some (vI x1), some (vI x2), some (vI (hp5 (11, 22, 0) 32)), some (vI q7.1)] [vI (q7.2 (11, 22, 0) 1), vR (10, 0, 0)] q7.2 _
      obtain ⟨q25, hv, h⟩ := Option.bind_eq_some_iff.mp h
      refine Ex.call (args := [vR (10, 0, 0), vI (q7.2 (11, 22, 0) 1)]) (rest := []) rfl rfl rfl (exX10_fetchesBack (d := d + 7) hv) ?_
      show Ex (d + 8) kX10_wouldType 121 [some (vR (10, 0, 0)), some (vI x1), some (vI x2), some (vI (hp5 (11, 22, 0) 32)), some (vI q7.1)] [vI q25.1] q25.2 _
      cases h
      exact Ex.ret rfl rfl rfl
    rw [if_neg hc] at h
    refine sw_c (k := 3) rfl (fun hc => ?_) (fun hc => ?_)
    · rw [if_pos hc] at h
      show Ex (d + 8) kX10_wouldType 122 [some (vR (10, 0, 0)), some (vI x1), some (vI x2), some (vI (hp5 (11, 22, 0) 32)), some (vI q7.1)] [] q7.2 _
      refine Ex.go 4 (pc' := 128) (ls' := [some (vR (10, 0, 0)), some (vI x1), some (vI x2), some (vI (hp5 (11, 22, 0) 32)), some (vI q7.1)]) (st' := [vI 0, vR (11, 22, 0), vR (10, 0, 0)]) (hp' := q7.2) (fun _ => rfl) ?_
      refine Ex.iald (k := 0) rfl rfl (by decide) (by decide) ?_
      show Ex (d + 8) kX10_wouldType 129 [some (vR (10, 0, 0)), some (vI x1), some (vI x2), some (vI (hp5 (11, 22, 0) 32)), some (vI q7.1)] [vI (q7.2 (11, 22, 0) 0), vR (10, 0, 0)] q7.2 _
      obtain ⟨q27, hv, h⟩ := Option.bind_eq_some_iff.mp h
      refine Ex.call (args := [vR (10, 0, 0), vI (q7.2 (11, 22, 0) 0)]) (rest := []) rfl rfl rfl (exX10_fetchesBack (d := d + 7) hv) ?_
      show Ex (d + 8) kX10_wouldType 132 [some (vR (10, 0, 0)), some (vI x1), some (vI x2), some (vI (hp5 (11, 22, 0) 32)), some (vI q7.1)] [vI q27.1] q27.2 _
      cases h
      exact Ex.ret rfl rfl rfl
    rw [if_neg hc] at h
    refine sw_c (k := 4) rfl (fun hc => ?_) (fun hc => ?_)
    · rw [if_pos hc] at h
      show Ex (d + 8) kX10_wouldType 133 [some (vR (10, 0, 0)), some (vI x1), some (vI x2), some (vI (hp5 (11, 22, 0) 32)), some (vI q7.1)] [] q7.2 _
      refine Ex.go 4 (pc' := 140) (ls' := [some (vR (10, 0, 0)), some (vI x1), some (vI x2), some (vI (hp5 (11, 22, 0) 32)), some (vI q7.1)]) (st' := [vI 32, vR (11, 22, 0), vR (10, 0, 0)]) (hp' := q7.2) (fun _ => rfl) ?_
      refine Ex.iald (k := 32) rfl rfl (by decide) (by decide) ?_
      show Ex (d + 8) kX10_wouldType 141 [some (vR (10, 0, 0)), some (vI x1), some (vI x2), some (vI (hp5 (11, 22, 0) 32)), some (vI q7.1)] [vI (q7.2 (11, 22, 0) 32), vR (10, 0, 0)] q7.2 _
      refine Ex.go 2 (pc' := 143) (ls' := [some (vR (10, 0, 0)), some (vI x1), some (vI x2), some (vI (hp5 (11, 22, 0) 32)), some (vI q7.1)]) (st' := [vI ((q7.2 (11, 22, 0) 32) - (hp5 (11, 22, 0) 32)), vR (10, 0, 0)]) (hp' := q7.2) (fun _ => rfl) ?_
      obtain ⟨q29, hv, h⟩ := Option.bind_eq_some_iff.mp h
      refine Ex.call (args := [vR (10, 0, 0), vI ((q7.2 (11, 22, 0) 32) - (hp5 (11, 22, 0) 32))]) (rest := []) rfl rfl rfl (exX10_fetchesBack (d := d + 7) hv) ?_
      show Ex (d + 8) kX10_wouldType 146 [some (vR (10, 0, 0)), some (vI x1), some (vI x2), some (vI (hp5 (11, 22, 0) 32)), some (vI q7.1)] [vI q29.1] q29.2 _
      cases h
      exact Ex.ret rfl rfl rfl
    rw [if_neg hc] at h
    show Ex (d + 8) kX10_wouldType 147 [some (vR (10, 0, 0)), some (vI x1), some (vI x2), some (vI (hp5 (11, 22, 0) 32)), some (vI q7.1)] [] q7.2 _
    refine Ex.go 3 (pc' := 152) (ls' := [some (vR (10, 0, 0)), some (vI x1), some (vI x2), some (vI (hp5 (11, 22, 0) 32)), some (vI q7.1)]) (st' := [vI (q7.2 (10, 0, 0) 25), vR (10, 0, 0)]) (hp' := q7.2) (fun _ => rfl) ?_
    obtain ⟨q9, hv, h⟩ := Option.bind_eq_some_iff.mp h
    refine Ex.call (args := [vR (10, 0, 0), vI (q7.2 (10, 0, 0) 25)]) (rest := []) rfl rfl rfl (exX10_fetchesBack (d := d + 7) hv) ?_
    show Ex (d + 8) kX10_wouldType 155 [some (vR (10, 0, 0)), some (vI x1), some (vI x2), some (vI (hp5 (11, 22, 0) 32)), some (vI q7.1)] [vI q9.1] q9.2 _
    cases h
    exact Ex.ret rfl rfl rfl
  · rw [if_neg hc] at h
    rw [brI_eq_n hc]
    show Ex (d + 8) kX10_wouldType 30 [some (vR (10, 0, 0)), some (vI x1), some (vI x2), j3, j4] [] q2.2 _
    refine Ex.go 1 (pc' := 31) (ls' := [some (vR (10, 0, 0)), some (vI x1), some (vI x2), j3, j4]) (st' := [vI 0]) (hp' := q2.2) (fun _ => rfl) ?_
    cases h
    exact Ex.ret rfl rfl rfl
def fX10_wouldType (a0 : Int32) (a1 : Int32) (hp : HP) : Option (Int32 × HP) := (fX10_noBytes a0 hp).bind fun q31 => if q31.1 = 0 then ((fX10_in a1 0 5 q31.2).bind fun v32 => if v32 = 0 then (fX10_wouldType_23 a0 a1 1 q31.2) else (fX10_wouldType_23 a0 a1 0 q31.2)) else (some (0, q31.2))
theorem exX10_wouldType {d : Nat} {a0 : Int32} {a1 : Int32} {hp : HP} {v : (Int32 × HP)} (h : fX10_wouldType a0 a1 hp = some v) : Calls (d + 8) 261 [vR (10, 0, 0), vI a0, vI a1] hp (rsI v.1 v.2) := by
  replace h : ((fX10_noBytes a0 hp).bind fun q31 => if q31.1 = 0 then ((fX10_in a1 0 5 q31.2).bind fun v32 => if v32 = 0 then (fX10_wouldType_23 a0 a1 1 q31.2) else (fX10_wouldType_23 a0 a1 0 q31.2)) else (some (0, q31.2))) = some v := h
  show Ex (d + 8) kX10_wouldType 0 [some (vR (10, 0, 0)), some (vI a0), some (vI a1), none, none] [] hp _
  refine Ex.go 2 (pc' := 2) (ls' := [some (vR (10, 0, 0)), some (vI a0), some (vI a1), none, none]) (st' := [vI a0, vR (10, 0, 0)]) (hp' := hp) (fun _ => rfl) ?_
  obtain ⟨q31, hv, h⟩ := Option.bind_eq_some_iff.mp h
  refine Ex.call (args := [vR (10, 0, 0), vI a0]) (rest := []) rfl rfl rfl (exX10_noBytes (d := d + 5) hv) ?_
  show Ex (d + 8) kX10_wouldType 5 [some (vR (10, 0, 0)), some (vI a0), some (vI a1), none, none] [vI q31.1] q31.2 _
  refine Ex.ifc rfl ?_
  by_cases hc : q31.1 = 0
  · rw [if_pos hc] at h
    rw [brI_ne_p hc]
    show Ex (d + 8) kX10_wouldType 8 [some (vR (10, 0, 0)), some (vI a0), some (vI a1), none, none] [] q31.2 _
    refine Ex.go 4 (pc' := 12) (ls' := [some (vR (10, 0, 0)), some (vI a0), some (vI a1), none, none]) (st' := [vI 5, vI 0, vI a1, vR (10, 0, 0)]) (hp' := q31.2) (fun _ => rfl) ?_
    obtain ⟨v32, hv, h⟩ := Option.bind_eq_some_iff.mp h
    refine Ex.call (args := [vI a1, vI 0, vI 5]) (rest := [vR (10, 0, 0)]) rfl rfl rfl (exX10_in (d := d + 7) hv) ?_
    show Ex (d + 8) kX10_wouldType 15 [some (vR (10, 0, 0)), some (vI a0), some (vI a1), none, none] [vI v32, vR (10, 0, 0)] q31.2 _
    refine Ex.ifc rfl ?_
    by_cases hc : v32 = 0
    · rw [if_pos hc] at h
      rw [brI_ne_p hc]
      show Ex (d + 8) kX10_wouldType 18 [some (vR (10, 0, 0)), some (vI a0), some (vI a1), none, none] [vR (10, 0, 0)] q31.2 _
      refine Ex.go 2 (pc' := 23) (ls' := [some (vR (10, 0, 0)), some (vI a0), some (vI a1), none, none]) (st' := [vI 1, vR (10, 0, 0)]) (hp' := q31.2) (fun _ => rfl) ?_
      exact exX10_wouldType_23 h
    · rw [if_neg hc] at h
      rw [brI_ne_n hc]
      show Ex (d + 8) kX10_wouldType 22 [some (vR (10, 0, 0)), some (vI a0), some (vI a1), none, none] [vR (10, 0, 0)] q31.2 _
      refine Ex.go 1 (pc' := 23) (ls' := [some (vR (10, 0, 0)), some (vI a0), some (vI a1), none, none]) (st' := [vI 0, vR (10, 0, 0)]) (hp' := q31.2) (fun _ => rfl) ?_
      exact exX10_wouldType_23 h
  · rw [if_neg hc] at h
    rw [brI_ne_n hc]
    show Ex (d + 8) kX10_wouldType 30 [some (vR (10, 0, 0)), some (vI a0), some (vI a1), none, none] [] q31.2 _
    refine Ex.go 1 (pc' := 31) (ls' := [some (vR (10, 0, 0)), some (vI a0), some (vI a1), none, none]) (st' := [vI 0]) (hp' := q31.2) (fun _ => rfl) ?_
    cases h
    exact Ex.ret rfl rfl rfl
def fX10_paceFor_62 (x1 : Int32) (x2 : Int32) (k16 : Int32 → Int32 → HP → Option (Int32 × HP)) (hp : HP) : Option (Int32 × HP) := k16 x1 (x2 + 1) hp
theorem exX10_paceFor_62 {d : Nat} {x1 : Int32} {x2 : Int32} {j3 : Option VL} {j4 : Option VL} {hp : HP} {v : (Int32 × HP)} {k16 : Int32 → Int32 → HP → Option (Int32 × HP)} (hk16 : ∀ (x1 : Int32) (x2 : Int32) (j3 : Option VL) (j4 : Option VL) (hp : HP) (v : (Int32 × HP)), k16 x1 x2 hp = some v → Ex (d + 8) kX10_paceFor 16 [some (vR (10, 0, 0)), some (vI x1), some (vI x2), j3, j4] [] hp (rsI v.1 v.2)) (h : fX10_paceFor_62 x1 x2 k16 hp = some v) : Ex (d + 8) kX10_paceFor 62 [some (vR (10, 0, 0)), some (vI x1), some (vI x2), j3, j4] [] hp (rsI v.1 v.2) := by
  replace h : (k16 x1 (x2 + 1) hp) = some v := h
  refine Ex.go 2 (pc' := 16) (ls' := [some (vR (10, 0, 0)), some (vI x1), some (vI (x2 + 1)), j3, j4]) (st' := []) (hp' := hp) (fun _ => rfl) ?_
  exact hk16 _ _ _ _ _ _ h
def fX10_paceFor_16 (n : Nat) (x1 : Int32) (x2 : Int32) (hp : HP) : Option (Int32 × HP) := match n with
  | 0 => none
  | n + 1 => if 300 < x2 then (some (m1, hp)) else ((fX10_puts 5 x2 hp).bind fun hp3 => (fX10_typesAll x1 hp3).bind fun q5 => (fX10_fetchesBack (q5.2 (11, 22, 0) 36) q5.2).bind fun q7 => if q7.1 = 4 then (fX10_paceFor_62 x1 x2 (fun x1 x2 hq => fX10_paceFor_16 n x1 x2 hq) q7.2) else (if q7.1 = 5 then (fX10_paceFor_62 x1 x2 (fun x1 x2 hq => fX10_paceFor_16 n x1 x2 hq) q7.2) else (some (x2, q7.2))))
theorem exX10_paceFor_16 {d : Nat} : ∀ (n : Nat) (x1 : Int32) (x2 : Int32) (j3 : Option VL) (j4 : Option VL) (hp : HP) (v : (Int32 × HP)), fX10_paceFor_16 n x1 x2 hp = some v → Ex (d + 8) kX10_paceFor 16 [some (vR (10, 0, 0)), some (vI x1), some (vI x2), j3, j4] [] hp (rsI v.1 v.2) := by
  intro n
  induction n with
  | zero =>
    intro x1 x2 j3 j4 hp v h
    cases h
  | succ n ih =>
    intro x1 x2 j3 j4 hp v h
    replace h : (if 300 < x2 then (some (m1, hp)) else ((fX10_puts 5 x2 hp).bind fun hp3 => (fX10_typesAll x1 hp3).bind fun q5 => (fX10_fetchesBack (q5.2 (11, 22, 0) 36) q5.2).bind fun q7 => if q7.1 = 4 then (fX10_paceFor_62 x1 x2 (fun x1 x2 hq => fX10_paceFor_16 n x1 x2 hq) q7.2) else (if q7.1 = 5 then (fX10_paceFor_62 x1 x2 (fun x1 x2 hq => fX10_paceFor_16 n x1 x2 hq) q7.2) else (some (x2, q7.2))))) = some v := h
    refine Ex.go 2 (pc' := 20) (ls' := [some (vR (10, 0, 0)), some (vI x1), some (vI x2), j3, j4]) (st' := [vI 300, vI x2]) (hp' := hp) (fun _ => rfl) ?_
    refine Ex.icmp rfl ?_
    by_cases hc : 300 < x2
    · rw [if_pos hc] at h
      rw [brI_gt_p hc]
      show Ex (d + 8) kX10_paceFor 68 [some (vR (10, 0, 0)), some (vI x1), some (vI x2), j3, j4] [] hp _
      refine Ex.go 1 (pc' := 69) (ls' := [some (vR (10, 0, 0)), some (vI x1), some (vI x2), j3, j4]) (st' := [vI m1]) (hp' := hp) (fun _ => rfl) ?_
      cases h
      exact Ex.ret rfl rfl rfl
    · rw [if_neg hc] at h
      rw [brI_gt_n hc]
      show Ex (d + 8) kX10_paceFor 23 [some (vR (10, 0, 0)), some (vI x1), some (vI x2), j3, j4] [] hp _
      refine Ex.go 3 (pc' := 26) (ls' := [some (vR (10, 0, 0)), some (vI x1), some (vI x2), j3, j4]) (st' := [vI x2, vI 5, vR (10, 0, 0)]) (hp' := hp) (fun _ => rfl) ?_
      obtain ⟨hp3, hv, h⟩ := Option.bind_eq_some_iff.mp h
      refine Ex.call (args := [vR (10, 0, 0), vI 5, vI x2]) (rest := []) rfl rfl rfl (exX10_puts (d := d + 7) hv) ?_
      show Ex (d + 8) kX10_paceFor 29 [some (vR (10, 0, 0)), some (vI x1), some (vI x2), j3, j4] [] hp3 _
      refine Ex.go 2 (pc' := 31) (ls' := [some (vR (10, 0, 0)), some (vI x1), some (vI x2), j3, j4]) (st' := [vI x1, vR (10, 0, 0)]) (hp' := hp3) (fun _ => rfl) ?_
      obtain ⟨q5, hv, h⟩ := Option.bind_eq_some_iff.mp h
      refine Ex.call (args := [vR (10, 0, 0), vI x1]) (rest := []) rfl rfl rfl (exX10_typesAll (d := d + 0) hv) ?_
      show Ex (d + 8) kX10_paceFor 34 [some (vR (10, 0, 0)), some (vI x1), some (vI x2), j3, j4] [vI q5.1] q5.2 _
      refine Ex.go 5 (pc' := 42) (ls' := [some (vR (10, 0, 0)), some (vI x1), some (vI x2), some (vI q5.1), j4]) (st' := [vI 36, vR (11, 22, 0), vR (10, 0, 0)]) (hp' := q5.2) (fun _ => rfl) ?_
      refine Ex.iald (k := 36) rfl rfl (by decide) (by decide) ?_
      show Ex (d + 8) kX10_paceFor 43 [some (vR (10, 0, 0)), some (vI x1), some (vI x2), some (vI q5.1), j4] [vI (q5.2 (11, 22, 0) 36), vR (10, 0, 0)] q5.2 _
      obtain ⟨q7, hv, h⟩ := Option.bind_eq_some_iff.mp h
      refine Ex.call (args := [vR (10, 0, 0), vI (q5.2 (11, 22, 0) 36)]) (rest := []) rfl rfl rfl (exX10_fetchesBack (d := d + 7) hv) ?_
      show Ex (d + 8) kX10_paceFor 46 [some (vR (10, 0, 0)), some (vI x1), some (vI x2), some (vI q5.1), j4] [vI q7.1] q7.2 _
      refine Ex.go 3 (pc' := 51) (ls' := [some (vR (10, 0, 0)), some (vI x1), some (vI x2), some (vI q5.1), some (vI q7.1)]) (st' := [vI 4, vI q7.1]) (hp' := q7.2) (fun _ => rfl) ?_
      refine Ex.icmp rfl ?_
      by_cases hc : q7.1 = 4
      · rw [if_pos hc] at h
        rw [brI_eq_p hc]
        show Ex (d + 8) kX10_paceFor 62 [some (vR (10, 0, 0)), some (vI x1), some (vI x2), some (vI q5.1), some (vI q7.1)] [] q7.2 _
        exact exX10_paceFor_62 (fun q0 q1 q2 q3 q4 q5 hv => ih q0 q1 q2 q3 q4 q5 hv) h
      · rw [if_neg hc] at h
        rw [brI_eq_n hc]
        show Ex (d + 8) kX10_paceFor 54 [some (vR (10, 0, 0)), some (vI x1), some (vI x2), some (vI q5.1), some (vI q7.1)] [] q7.2 _
        refine Ex.go 2 (pc' := 57) (ls' := [some (vR (10, 0, 0)), some (vI x1), some (vI x2), some (vI q5.1), some (vI q7.1)]) (st' := [vI 5, vI q7.1]) (hp' := q7.2) (fun _ => rfl) ?_
        refine Ex.icmp rfl ?_
        by_cases hc : q7.1 = 5
        · rw [if_pos hc] at h
          rw [brI_eq_p hc]
          show Ex (d + 8) kX10_paceFor 62 [some (vR (10, 0, 0)), some (vI x1), some (vI x2), some (vI q5.1), some (vI q7.1)] [] q7.2 _
          exact exX10_paceFor_62 (fun q0 q1 q2 q3 q4 q5 hv => ih q0 q1 q2 q3 q4 q5 hv) h
        · rw [if_neg hc] at h
          rw [brI_eq_n hc]
          show Ex (d + 8) kX10_paceFor 60 [some (vR (10, 0, 0)), some (vI x1), some (vI x2), some (vI q5.1), some (vI q7.1)] [] q7.2 _
          refine Ex.go 1 (pc' := 61) (ls' := [some (vR (10, 0, 0)), some (vI x1), some (vI x2), some (vI q5.1), some (vI q7.1)]) (st' := [vI x2]) (hp' := q7.2) (fun _ => rfl) ?_
          cases h
          exact Ex.ret rfl rfl rfl
def fX10_paceFor (a0 : Int32) (hp : HP) : Option (Int32 × HP) := (fX10_noBytes a0 hp).bind fun q9 => if q9.1 = 0 then ((fX10_putsAside q9.2).bind fun hp12 => fX10_paceFor_16 FU a0 1 hp12) else (some (0, q9.2))
theorem exX10_paceFor {d : Nat} {a0 : Int32} {hp : HP} {v : (Int32 × HP)} (h : fX10_paceFor a0 hp = some v) : Calls (d + 8) 262 [vR (10, 0, 0), vI a0] hp (rsI v.1 v.2) := by
  replace h : ((fX10_noBytes a0 hp).bind fun q9 => if q9.1 = 0 then ((fX10_putsAside q9.2).bind fun hp12 => fX10_paceFor_16 FU a0 1 hp12) else (some (0, q9.2))) = some v := h
  show Ex (d + 8) kX10_paceFor 0 [some (vR (10, 0, 0)), some (vI a0), none, none, none] [] hp _
  refine Ex.go 2 (pc' := 2) (ls' := [some (vR (10, 0, 0)), some (vI a0), none, none, none]) (st' := [vI a0, vR (10, 0, 0)]) (hp' := hp) (fun _ => rfl) ?_
  obtain ⟨q9, hv, h⟩ := Option.bind_eq_some_iff.mp h
  refine Ex.call (args := [vR (10, 0, 0), vI a0]) (rest := []) rfl rfl rfl (exX10_noBytes (d := d + 5) hv) ?_
  show Ex (d + 8) kX10_paceFor 5 [some (vR (10, 0, 0)), some (vI a0), none, none, none] [vI q9.1] q9.2 _
  refine Ex.ifc rfl ?_
  by_cases hc : q9.1 = 0
  · rw [if_pos hc] at h
    rw [brI_eq_p hc]
    show Ex (d + 8) kX10_paceFor 10 [some (vR (10, 0, 0)), some (vI a0), none, none, none] [] q9.2 _
    refine Ex.go 1 (pc' := 11) (ls' := [some (vR (10, 0, 0)), some (vI a0), none, none, none]) (st' := [vR (10, 0, 0)]) (hp' := q9.2) (fun _ => rfl) ?_
    obtain ⟨hp12, hv, h⟩ := Option.bind_eq_some_iff.mp h
    refine Ex.call (args := [vR (10, 0, 0)]) (rest := []) rfl rfl rfl (exX10_putsAside (d := d + 7) hv) ?_
    show Ex (d + 8) kX10_paceFor 14 [some (vR (10, 0, 0)), some (vI a0), none, none, none] [] hp12 _
    refine Ex.go 2 (pc' := 16) (ls' := [some (vR (10, 0, 0)), some (vI a0), some (vI 1), none, none]) (st' := []) (hp' := hp12) (fun _ => rfl) ?_
    exact exX10_paceFor_16 FU _ _ _ _ _ _ h
  · rw [if_neg hc] at h
    rw [brI_eq_n hc]
    show Ex (d + 8) kX10_paceFor 8 [some (vR (10, 0, 0)), some (vI a0), none, none, none] [] q9.2 _
    refine Ex.go 1 (pc' := 9) (ls' := [some (vR (10, 0, 0)), some (vI a0), none, none, none]) (st' := [vI 0]) (hp' := q9.2) (fun _ => rfl) ?_
    cases h
    exact Ex.ret rfl rfl rfl
def fX10_reaches_27 (hp : HP) : Option HP := some (up hp (10, 0, 0) 28 ((hp (10, 0, 0) 28) + 1))
theorem exX10_reaches_27 {d : Nat} {j1 : Option VL} {j2 : Option VL} {hp : HP} {v : HP} (h : fX10_reaches_27 hp = some v) : Ex (d + 0) kX10_reaches 27 [some (vR (10, 0, 0)), j1, j2] [] hp (rsV () v) := by
  replace h : (some (up hp (10, 0, 0) 28 ((hp (10, 0, 0) 28) + 1))) = some v := h
  refine Ex.go 6 (pc' := 37) (ls' := [some (vR (10, 0, 0)), j1, j2]) (st' := []) (hp' := (up hp (10, 0, 0) 28 ((hp (10, 0, 0) 28) + 1))) (fun _ => rfl) ?_
  cases h
  exact Ex.ret rfl rfl rfl
def fX10_reaches_17 (x1 : Int32) (hp : HP) : Option HP := if inb (hp (10, 0, 0) 28) (alen (11, 30, 0)) = true then (fX10_reaches_27 (up hp (11, 30, 0) ((hp (10, 0, 0) 28).toNatClampNeg) x1)) else none
theorem exX10_reaches_17 {d : Nat} {x1 : Int32} {j2 : Option VL} {hp : HP} {v : HP} (h : fX10_reaches_17 x1 hp = some v) : Ex (d + 0) kX10_reaches 17 [some (vR (10, 0, 0)), some (vI x1), j2] [] hp (rsV () v) := by
  replace h : (if inb (hp (10, 0, 0) 28) (alen (11, 30, 0)) = true then (fX10_reaches_27 (up hp (11, 30, 0) ((hp (10, 0, 0) 28).toNatClampNeg) x1)) else none) = some v := h
  refine Ex.go 5 (pc' := 26) (ls' := [some (vR (10, 0, 0)), some (vI x1), j2]) (st' := [vI x1, vI (hp (10, 0, 0) 28), vR (11, 30, 0)]) (hp' := hp) (fun _ => rfl) ?_
  by_cases hc : inb (hp (10, 0, 0) 28) (alen (11, 30, 0)) = true
  · rw [if_pos hc] at h
    refine Ex.iast rfl rfl hc rfl ?_
    show Ex (d + 0) kX10_reaches 27 [some (vR (10, 0, 0)), some (vI x1), j2] [] (up hp (11, 30, 0) ((hp (10, 0, 0) 28).toNatClampNeg) x1) _
    exact exX10_reaches_27 h
  · rw [if_neg hc] at h
    cases h
def fX10_reaches (a0 : Int32) (a1 : Int32) (hp : HP) : Option HP := if inb a0 (alen (11, 29, 0)) = true then (if (hp (11, 29, 0) a0.toNatClampNeg) = m1 then (if inb a0 (alen (11, 29, 0)) = true then (fX10_reaches_17 a0 (up hp (11, 29, 0) (a0.toNatClampNeg) a1)) else none) else (some hp)) else none
theorem exX10_reaches {d : Nat} {a0 : Int32} {a1 : Int32} {hp : HP} {v : HP} (h : fX10_reaches a0 a1 hp = some v) : Calls (d + 0) 263 [vR (10, 0, 0), vI a0, vI a1] hp (rsV () v) := by
  replace h : (if inb a0 (alen (11, 29, 0)) = true then (if (hp (11, 29, 0) a0.toNatClampNeg) = m1 then (if inb a0 (alen (11, 29, 0)) = true then (fX10_reaches_17 a0 (up hp (11, 29, 0) (a0.toNatClampNeg) a1)) else none) else (some hp)) else none) = some v := h
  show Ex (d + 0) kX10_reaches 0 [some (vR (10, 0, 0)), some (vI a0), some (vI a1)] [] hp _
  refine Ex.go 3 (pc' := 5) (ls' := [some (vR (10, 0, 0)), some (vI a0), some (vI a1)]) (st' := [vI a0, vR (11, 29, 0)]) (hp' := hp) (fun _ => rfl) ?_
  by_cases hc : inb a0 (alen (11, 29, 0)) = true
  · rw [if_pos hc] at h
    refine Ex.iald rfl rfl hc rfl ?_
    show Ex (d + 0) kX10_reaches 6 [some (vR (10, 0, 0)), some (vI a0), some (vI a1)] [vI (hp (11, 29, 0) a0.toNatClampNeg)] hp _
    refine Ex.go 1 (pc' := 7) (ls' := [some (vR (10, 0, 0)), some (vI a0), some (vI a1)]) (st' := [vI m1, vI (hp (11, 29, 0) a0.toNatClampNeg)]) (hp' := hp) (fun _ => rfl) ?_
    refine Ex.icmp rfl ?_
    by_cases hc : (hp (11, 29, 0) a0.toNatClampNeg) = m1
    · rw [if_pos hc] at h
      rw [brI_ne_p hc]
      show Ex (d + 0) kX10_reaches 10 [some (vR (10, 0, 0)), some (vI a0), some (vI a1)] [] hp _
      refine Ex.go 4 (pc' := 16) (ls' := [some (vR (10, 0, 0)), some (vI a0), some (vI a1)]) (st' := [vI a1, vI a0, vR (11, 29, 0)]) (hp' := hp) (fun _ => rfl) ?_
      by_cases hc : inb a0 (alen (11, 29, 0)) = true
      · rw [if_pos hc] at h
        refine Ex.iast rfl rfl hc rfl ?_
        show Ex (d + 0) kX10_reaches 17 [some (vR (10, 0, 0)), some (vI a0), some (vI a1)] [] (up hp (11, 29, 0) (a0.toNatClampNeg) a1) _
        exact exX10_reaches_17 h
      · rw [if_neg hc] at h
        cases h
    · rw [if_neg hc] at h
      rw [brI_ne_n hc]
      show Ex (d + 0) kX10_reaches 37 [some (vR (10, 0, 0)), some (vI a0), some (vI a1)] [] hp _
      cases h
      exact Ex.ret rfl rfl rfl
  · rw [if_neg hc] at h
    cases h
def fX10_keysTo_146 (x1 : Int32) (x2 : Int32) (k74 : Int32 → Int32 → HP → Option (Int32 × HP)) (hp : HP) : Option (Int32 × HP) := k74 x1 (x2 + 1) hp
theorem exX10_keysTo_146 {d : Nat} {x1 : Int32} {x2 : Int32} {j3 : Option VL} {hp : HP} {v : (Int32 × HP)} {k74 : Int32 → Int32 → HP → Option (Int32 × HP)} (hk74 : ∀ (x1 : Int32) (x2 : Int32) (j3 : Option VL) (hp : HP) (v : (Int32 × HP)), k74 x1 x2 hp = some v → Ex (d + 2) kX10_keysTo 74 [some (vR (10, 0, 0)), some (vI x1), some (vI x2), j3] [] hp (rsI v.1 v.2)) (h : fX10_keysTo_146 x1 x2 k74 hp = some v) : Ex (d + 2) kX10_keysTo 146 [some (vR (10, 0, 0)), some (vI x1), some (vI x2), j3] [] hp (rsI v.1 v.2) := by
  replace h : (k74 x1 (x2 + 1) hp) = some v := h
  refine Ex.go 2 (pc' := 74) (ls' := [some (vR (10, 0, 0)), some (vI x1), some (vI (x2 + 1)), j3]) (st' := []) (hp' := hp) (fun _ => rfl) ?_
  exact hk74 _ _ _ _ _ h
def fX10_keysTo_74 (n : Nat) (x1 : Int32) (x2 : Int32) (hp : HP) : Option (Int32 × HP) := match n with
  | 0 => none
  | n + 1 => if x2 < (hp (10, 0, 0) 28) then (if inb x2 (alen (11, 30, 0)) = true then ((fX10_stopFrom (hp (11, 30, 0) x2.toNatClampNeg) hp).bind fun v1 => if inb (hp (11, 30, 0) x2.toNatClampNeg) (alen (11, 29, 0)) = true then ((fX10_reaches v1 ((hp (11, 29, 0) (hp (11, 30, 0) x2.toNatClampNeg).toNatClampNeg) + 1) hp).bind fun hp4 => (fX10_backFrom (hp (11, 30, 0) x2.toNatClampNeg) hp4).bind fun v5 => if inb (hp (11, 30, 0) x2.toNatClampNeg) (alen (11, 29, 0)) = true then ((fX10_reaches v5 ((hp4 (11, 29, 0) (hp (11, 30, 0) x2.toNatClampNeg).toNatClampNeg) + 1) hp4).bind fun hp8 => (fX10_isLocked (hp (11, 30, 0) x2.toNatClampNeg) hp8).bind fun v9 => if v9 = 0 then (if inb (hp (11, 30, 0) x2.toNatClampNeg) (alen (11, 29, 0)) = true then ((fX10_reaches ((hp (11, 30, 0) x2.toNatClampNeg) + 1) ((hp8 (11, 29, 0) (hp (11, 30, 0) x2.toNatClampNeg).toNatClampNeg) + 1) hp8).bind fun hp12 => fX10_keysTo_146 x1 x2 (fun x1 x2 hq => fX10_keysTo_74 n x1 x2 hq) hp12) else none) else (fX10_keysTo_146 x1 x2 (fun x1 x2 hq => fX10_keysTo_74 n x1 x2 hq) hp8)) else none) else none) else none) else (if inb x1 (alen (11, 29, 0)) = true then (some ((hp (11, 29, 0) x1.toNatClampNeg), hp)) else none)
theorem exX10_keysTo_74 {d : Nat} : ∀ (n : Nat) (x1 : Int32) (x2 : Int32) (j3 : Option VL) (hp : HP) (v : (Int32 × HP)), fX10_keysTo_74 n x1 x2 hp = some v → Ex (d + 2) kX10_keysTo 74 [some (vR (10, 0, 0)), some (vI x1), some (vI x2), j3] [] hp (rsI v.1 v.2) := by
  intro n
  induction n with
  | zero =>
    intro x1 x2 j3 hp v h
    cases h
  | succ n ih =>
    intro x1 x2 j3 hp v h
    replace h : (if x2 < (hp (10, 0, 0) 28) then (if inb x2 (alen (11, 30, 0)) = true then ((fX10_stopFrom (hp (11, 30, 0) x2.toNatClampNeg) hp).bind fun v1 => if inb (hp (11, 30, 0) x2.toNatClampNeg) (alen (11, 29, 0)) = true then ((fX10_reaches v1 ((hp (11, 29, 0) (hp (11, 30, 0) x2.toNatClampNeg).toNatClampNeg) + 1) hp).bind fun hp4 => (fX10_backFrom (hp (11, 30, 0) x2.toNatClampNeg) hp4).bind fun v5 => if inb (hp (11, 30, 0) x2.toNatClampNeg) (alen (11, 29, 0)) = true then ((fX10_reaches v5 ((hp4 (11, 29, 0) (hp (11, 30, 0) x2.toNatClampNeg).toNatClampNeg) + 1) hp4).bind fun hp8 => (fX10_isLocked (hp (11, 30, 0) x2.toNatClampNeg) hp8).bind fun v9 => if v9 = 0 then (if inb (hp (11, 30, 0) x2.toNatClampNeg) (alen (11, 29, 0)) = true then ((fX10_reaches ((hp (11, 30, 0) x2.toNatClampNeg) + 1) ((hp8 (11, 29, 0) (hp (11, 30, 0) x2.toNatClampNeg).toNatClampNeg) + 1) hp8).bind fun hp12 => fX10_keysTo_146 x1 x2 (fun x1 x2 hq => fX10_keysTo_74 n x1 x2 hq) hp12) else none) else (fX10_keysTo_146 x1 x2 (fun x1 x2 hq => fX10_keysTo_74 n x1 x2 hq) hp8)) else none) else none) else none) else (if inb x1 (alen (11, 29, 0)) = true then (some ((hp (11, 29, 0) x1.toNatClampNeg), hp)) else none)) = some v := h
    refine Ex.go 3 (pc' := 79) (ls' := [some (vR (10, 0, 0)), some (vI x1), some (vI x2), j3]) (st' := [vI (hp (10, 0, 0) 28), vI x2]) (hp' := hp) (fun _ => rfl) ?_
    refine Ex.icmp rfl ?_
    by_cases hc : x2 < (hp (10, 0, 0) 28)
    · rw [if_pos hc] at h
      rw [brI_ge_p hc]
      show Ex (d + 2) kX10_keysTo 82 [some (vR (10, 0, 0)), some (vI x1), some (vI x2), j3] [] hp _
      refine Ex.go 3 (pc' := 87) (ls' := [some (vR (10, 0, 0)), some (vI x1), some (vI x2), j3]) (st' := [vI x2, vR (11, 30, 0)]) (hp' := hp) (fun _ => rfl) ?_
      by_cases hc : inb x2 (alen (11, 30, 0)) = true
      · rw [if_pos hc] at h
        refine Ex.iald rfl rfl hc rfl ?_
        show Ex (d + 2) kX10_keysTo 88 [some (vR (10, 0, 0)), some (vI x1), some (vI x2), j3] [vI (hp (11, 30, 0) x2.toNatClampNeg)] hp _
        refine Ex.go 4 (pc' := 92) (ls' := [some (vR (10, 0, 0)), some (vI x1), some (vI x2), some (vI (hp (11, 30, 0) x2.toNatClampNeg))]) (st' := [vI (hp (11, 30, 0) x2.toNatClampNeg), vR (10, 0, 0), vR (10, 0, 0)]) (hp' := hp) (fun _ => rfl) ?_
        obtain ⟨v1, hv, h⟩ := Option.bind_eq_some_iff.mp h
        refine Ex.call (args := [vR (10, 0, 0), vI (hp (11, 30, 0) x2.toNatClampNeg)]) (rest := [vR (10, 0, 0)]) rfl rfl rfl (exX10_stopFrom (d := d + 0) hv) ?_
        show Ex (d + 2) kX10_keysTo 95 [some (vR (10, 0, 0)), some (vI x1), some (vI x2), some (vI (hp (11, 30, 0) x2.toNatClampNeg))] [vI v1, vR (10, 0, 0)] hp _
        refine Ex.go 3 (pc' := 100) (ls' := [some (vR (10, 0, 0)), some (vI x1), some (vI x2), some (vI (hp (11, 30, 0) x2.toNatClampNeg))]) (st' := [vI (hp (11, 30, 0) x2.toNatClampNeg), vR (11, 29, 0), vI v1, vR (10, 0, 0)]) (hp' := hp) (fun _ => rfl) ?_
        by_cases hc : inb (hp (11, 30, 0) x2.toNatClampNeg) (alen (11, 29, 0)) = true
        · rw [if_pos hc] at h
          refine Ex.iald rfl rfl hc rfl ?_
          show Ex (d + 2) kX10_keysTo 101 [some (vR (10, 0, 0)), some (vI x1), some (vI x2), some (vI (hp (11, 30, 0) x2.toNatClampNeg))] [vI (hp (11, 29, 0) (hp (11, 30, 0) x2.toNatClampNeg).toNatClampNeg), vI v1, vR (10, 0, 0)] hp _
          refine Ex.go 2 (pc' := 103) (ls' := [some (vR (10, 0, 0)), some (vI x1), some (vI x2), some (vI (hp (11, 30, 0) x2.toNatClampNeg))]) (st' := [vI ((hp (11, 29, 0) (hp (11, 30, 0) x2.toNatClampNeg).toNatClampNeg) + 1), vI v1, vR (10, 0, 0)]) (hp' := hp) (fun _ => rfl) ?_
          obtain ⟨hp4, hv, h⟩ := Option.bind_eq_some_iff.mp h
          refine Ex.call (args := [vR (10, 0, 0), vI v1, vI ((hp (11, 29, 0) (hp (11, 30, 0) x2.toNatClampNeg).toNatClampNeg) + 1)]) (rest := []) rfl rfl rfl (exX10_reaches (d := d + 1) hv) ?_
          show Ex (d + 2) kX10_keysTo 106 [some (vR (10, 0, 0)), some (vI x1), some (vI x2), some (vI (hp (11, 30, 0) x2.toNatClampNeg))] [] hp4 _
          refine Ex.go 3 (pc' := 109) (ls' := [some (vR (10, 0, 0)), some (vI x1), some (vI x2), some (vI (hp (11, 30, 0) x2.toNatClampNeg))]) (st' := [vI (hp (11, 30, 0) x2.toNatClampNeg), vR (10, 0, 0), vR (10, 0, 0)]) (hp' := hp4) (fun _ => rfl) ?_
          obtain ⟨v5, hv, h⟩ := Option.bind_eq_some_iff.mp h
          refine Ex.call (args := [vR (10, 0, 0), vI (hp (11, 30, 0) x2.toNatClampNeg)]) (rest := [vR (10, 0, 0)]) rfl rfl rfl (exX10_backFrom (d := d + 0) hv) ?_
          show Ex (d + 2) kX10_keysTo 112 [some (vR (10, 0, 0)), some (vI x1), some (vI x2), some (vI (hp (11, 30, 0) x2.toNatClampNeg))] [vI v5, vR (10, 0, 0)] hp4 _
          refine Ex.go 3 (pc' := 117) (ls' := [some (vR (10, 0, 0)), some (vI x1), some (vI x2), some (vI (hp (11, 30, 0) x2.toNatClampNeg))]) (st' := [vI (hp (11, 30, 0) x2.toNatClampNeg), vR (11, 29, 0), vI v5, vR (10, 0, 0)]) (hp' := hp4) (fun _ => rfl) ?_
          by_cases hc : inb (hp (11, 30, 0) x2.toNatClampNeg) (alen (11, 29, 0)) = true
          · rw [if_pos hc] at h
            refine Ex.iald rfl rfl hc rfl ?_
            show Ex (d + 2) kX10_keysTo 118 [some (vR (10, 0, 0)), some (vI x1), some (vI x2), some (vI (hp (11, 30, 0) x2.toNatClampNeg))] [vI (hp4 (11, 29, 0) (hp (11, 30, 0) x2.toNatClampNeg).toNatClampNeg), vI v5, vR (10, 0, 0)] hp4 _
            refine Ex.go 2 (pc' := 120) (ls' := [some (vR (10, 0, 0)), some (vI x1), some (vI x2), some (vI (hp (11, 30, 0) x2.toNatClampNeg))]) (st' := [vI ((hp4 (11, 29, 0) (hp (11, 30, 0) x2.toNatClampNeg).toNatClampNeg) + 1), vI v5, vR (10, 0, 0)]) (hp' := hp4) (fun _ => rfl) ?_
            obtain ⟨hp8, hv, h⟩ := Option.bind_eq_some_iff.mp h
            refine Ex.call (args := [vR (10, 0, 0), vI v5, vI ((hp4 (11, 29, 0) (hp (11, 30, 0) x2.toNatClampNeg).toNatClampNeg) + 1)]) (rest := []) rfl rfl rfl (exX10_reaches (d := d + 1) hv) ?_
            show Ex (d + 2) kX10_keysTo 123 [some (vR (10, 0, 0)), some (vI x1), some (vI x2), some (vI (hp (11, 30, 0) x2.toNatClampNeg))] [] hp8 _
            refine Ex.go 2 (pc' := 125) (ls' := [some (vR (10, 0, 0)), some (vI x1), some (vI x2), some (vI (hp (11, 30, 0) x2.toNatClampNeg))]) (st' := [vI (hp (11, 30, 0) x2.toNatClampNeg), vR (10, 0, 0)]) (hp' := hp8) (fun _ => rfl) ?_
            obtain ⟨v9, hv, h⟩ := Option.bind_eq_some_iff.mp h
            refine Ex.call (args := [vR (10, 0, 0), vI (hp (11, 30, 0) x2.toNatClampNeg)]) (rest := []) rfl rfl rfl (exX10_isLocked (d := d + 0) hv) ?_
            show Ex (d + 2) kX10_keysTo 128 [some (vR (10, 0, 0)), some (vI x1), some (vI x2), some (vI (hp (11, 30, 0) x2.toNatClampNeg))] [vI v9] hp8 _
            refine Ex.ifc rfl ?_
            by_cases hc : v9 = 0
            · rw [if_pos hc] at h
              rw [brI_ne_p hc]
              show Ex (d + 2) kX10_keysTo 131 [some (vR (10, 0, 0)), some (vI x1), some (vI x2), some (vI (hp (11, 30, 0) x2.toNatClampNeg))] [] hp8 _
              refine Ex.go 7 (pc' := 140) (ls' := [some (vR (10, 0, 0)), some (vI x1), some (vI x2), some (vI (hp (11, 30, 0) x2.toNatClampNeg))]) (st' := [vI (hp (11, 30, 0) x2.toNatClampNeg), vR (11, 29, 0), vI ((hp (11, 30, 0) x2.toNatClampNeg) + 1), vR (10, 0, 0)]) (hp' := hp8) (fun _ => rfl) ?_
              by_cases hc : inb (hp (11, 30, 0) x2.toNatClampNeg) (alen (11, 29, 0)) = true
              · rw [if_pos hc] at h
                refine Ex.iald rfl rfl hc rfl ?_
                show Ex (d + 2) kX10_keysTo 141 [some (vR (10, 0, 0)), some (vI x1), some (vI x2), some (vI (hp (11, 30, 0) x2.toNatClampNeg))] [vI (hp8 (11, 29, 0) (hp (11, 30, 0) x2.toNatClampNeg).toNatClampNeg), vI ((hp (11, 30, 0) x2.toNatClampNeg) + 1), vR (10, 0, 0)] hp8 _
                refine Ex.go 2 (pc' := 143) (ls' := [some (vR (10, 0, 0)), some (vI x1), some (vI x2), some (vI (hp (11, 30, 0) x2.toNatClampNeg))]) (st' := [vI ((hp8 (11, 29, 0) (hp (11, 30, 0) x2.toNatClampNeg).toNatClampNeg) + 1), vI ((hp (11, 30, 0) x2.toNatClampNeg) + 1), vR (10, 0, 0)]) (hp' := hp8) (fun _ => rfl) ?_
                obtain ⟨hp12, hv, h⟩ := Option.bind_eq_some_iff.mp h
                refine Ex.call (args := [vR (10, 0, 0), vI ((hp (11, 30, 0) x2.toNatClampNeg) + 1), vI ((hp8 (11, 29, 0) (hp (11, 30, 0) x2.toNatClampNeg).toNatClampNeg) + 1)]) (rest := []) rfl rfl rfl (exX10_reaches (d := d + 1) hv) ?_
                show Ex (d + 2) kX10_keysTo 146 [some (vR (10, 0, 0)), some (vI x1), some (vI x2), some (vI (hp (11, 30, 0) x2.toNatClampNeg))] [] hp12 _
                exact exX10_keysTo_146 (fun q0 q1 q2 q3 q4 hv => ih q0 q1 q2 q3 q4 hv) h
              · rw [if_neg hc] at h
                cases h
            · rw [if_neg hc] at h
              rw [brI_ne_n hc]
              show Ex (d + 2) kX10_keysTo 146 [some (vR (10, 0, 0)), some (vI x1), some (vI x2), some (vI (hp (11, 30, 0) x2.toNatClampNeg))] [] hp8 _
              exact exX10_keysTo_146 (fun q0 q1 q2 q3 q4 hv => ih q0 q1 q2 q3 q4 hv) h
          · rw [if_neg hc] at h
            cases h
        · rw [if_neg hc] at h
          cases h
      · rw [if_neg hc] at h
        cases h
    · rw [if_neg hc] at h
      rw [brI_ge_n hc]
      show Ex (d + 2) kX10_keysTo 152 [some (vR (10, 0, 0)), some (vI x1), some (vI x2), j3] [] hp _
      refine Ex.go 3 (pc' := 157) (ls' := [some (vR (10, 0, 0)), some (vI x1), some (vI x2), j3]) (st' := [vI x1, vR (11, 29, 0)]) (hp' := hp) (fun _ => rfl) ?_
      by_cases hc : inb x1 (alen (11, 29, 0)) = true
      · rw [if_pos hc] at h
        refine Ex.iald rfl rfl hc rfl ?_
        show Ex (d + 2) kX10_keysTo 158 [some (vR (10, 0, 0)), some (vI x1), some (vI x2), j3] [vI (hp (11, 29, 0) x1.toNatClampNeg)] hp _
        cases h
        exact Ex.ret rfl rfl rfl
      · rw [if_neg hc] at h
        cases h
def fX10_keysTo_61 (x1 : Int32) (hp : HP) : Option (Int32 × HP) := (fX10_reaches (hp (11, 22, 0) 1) 0 hp).bind fun hp15 => fX10_keysTo_74 FU x1 0 hp15
theorem exX10_keysTo_61 {d : Nat} {x1 : Int32} {j2 : Option VL} {j3 : Option VL} {hp : HP} {v : (Int32 × HP)} (h : fX10_keysTo_61 x1 hp = some v) : Ex (d + 2) kX10_keysTo 61 [some (vR (10, 0, 0)), some (vI x1), j2, j3] [] hp (rsI v.1 v.2) := by
  replace h : ((fX10_reaches (hp (11, 22, 0) 1) 0 hp).bind fun hp15 => fX10_keysTo_74 FU x1 0 hp15) = some v := h
  refine Ex.go 4 (pc' := 67) (ls' := [some (vR (10, 0, 0)), some (vI x1), j2, j3]) (st' := [vI 1, vR (11, 22, 0), vR (10, 0, 0)]) (hp' := hp) (fun _ => rfl) ?_
  refine Ex.iald (k := 1) rfl rfl (by decide) (by decide) ?_
  show Ex (d + 2) kX10_keysTo 68 [some (vR (10, 0, 0)), some (vI x1), j2, j3] [vI (hp (11, 22, 0) 1), vR (10, 0, 0)] hp _
  refine Ex.go 1 (pc' := 69) (ls' := [some (vR (10, 0, 0)), some (vI x1), j2, j3]) (st' := [vI 0, vI (hp (11, 22, 0) 1), vR (10, 0, 0)]) (hp' := hp) (fun _ => rfl) ?_
  obtain ⟨hp15, hv, h⟩ := Option.bind_eq_some_iff.mp h
  refine Ex.call (args := [vR (10, 0, 0), vI (hp (11, 22, 0) 1), vI 0]) (rest := []) rfl rfl rfl (exX10_reaches (d := d + 1) hv) ?_
  show Ex (d + 2) kX10_keysTo 72 [some (vR (10, 0, 0)), some (vI x1), j2, j3] [] hp15 _
  refine Ex.go 2 (pc' := 74) (ls' := [some (vR (10, 0, 0)), some (vI x1), some (vI 0), j3]) (st' := []) (hp' := hp15) (fun _ => rfl) ?_
  exact exX10_keysTo_74 FU _ _ _ _ _ h
def fX10_keysTo_37 (n : Nat) (x1 : Int32) (x2 : Int32) (hp : HP) : Option (Int32 × HP) := match n with
  | 0 => none
  | n + 1 => if 40 < x2 then (fX10_keysTo_61 x1 (up hp (10, 0, 0) 28 0)) else (if inb x2 (alen (11, 29, 0)) = true then (fX10_keysTo_37 n x1 (x2 + 1) (up hp (11, 29, 0) (x2.toNatClampNeg) m1)) else none)
theorem exX10_keysTo_37 {d : Nat} : ∀ (n : Nat) (x1 : Int32) (x2 : Int32) (j3 : Option VL) (hp : HP) (v : (Int32 × HP)), fX10_keysTo_37 n x1 x2 hp = some v → Ex (d + 2) kX10_keysTo 37 [some (vR (10, 0, 0)), some (vI x1), some (vI x2), j3] [] hp (rsI v.1 v.2) := by
  intro n
  induction n with
  | zero =>
    intro x1 x2 j3 hp v h
    cases h
  | succ n ih =>
    intro x1 x2 j3 hp v h
    replace h : (if 40 < x2 then (fX10_keysTo_61 x1 (up hp (10, 0, 0) 28 0)) else (if inb x2 (alen (11, 29, 0)) = true then (fX10_keysTo_37 n x1 (x2 + 1) (up hp (11, 29, 0) (x2.toNatClampNeg) m1)) else none)) = some v := h
    refine Ex.go 2 (pc' := 40) (ls' := [some (vR (10, 0, 0)), some (vI x1), some (vI x2), j3]) (st' := [vI 40, vI x2]) (hp' := hp) (fun _ => rfl) ?_
    refine Ex.icmp rfl ?_
    by_cases hc : 40 < x2
    · rw [if_pos hc] at h
      rw [brI_gt_p hc]
      show Ex (d + 2) kX10_keysTo 56 [some (vR (10, 0, 0)), some (vI x1), some (vI x2), j3] [] hp _
      refine Ex.go 3 (pc' := 61) (ls' := [some (vR (10, 0, 0)), some (vI x1), some (vI x2), j3]) (st' := []) (hp' := (up hp (10, 0, 0) 28 0)) (fun _ => rfl) ?_
      exact exX10_keysTo_61 h
    · rw [if_neg hc] at h
      rw [brI_gt_n hc]
      show Ex (d + 2) kX10_keysTo 43 [some (vR (10, 0, 0)), some (vI x1), some (vI x2), j3] [] hp _
      refine Ex.go 4 (pc' := 49) (ls' := [some (vR (10, 0, 0)), some (vI x1), some (vI x2), j3]) (st' := [vI m1, vI x2, vR (11, 29, 0)]) (hp' := hp) (fun _ => rfl) ?_
      by_cases hc : inb x2 (alen (11, 29, 0)) = true
      · rw [if_pos hc] at h
        refine Ex.iast rfl rfl hc rfl ?_
        show Ex (d + 2) kX10_keysTo 50 [some (vR (10, 0, 0)), some (vI x1), some (vI x2), j3] [] (up hp (11, 29, 0) (x2.toNatClampNeg) m1) _
        refine Ex.go 2 (pc' := 37) (ls' := [some (vR (10, 0, 0)), some (vI x1), some (vI (x2 + 1)), j3]) (st' := []) (hp' := (up hp (11, 29, 0) (x2.toNatClampNeg) m1)) (fun _ => rfl) ?_
        exact ih _ _ _ _ _ h
      · rw [if_neg hc] at h
        cases h
def fX10_keysTo_26 (x1 : Int32) (y1 : Int32) (hp : HP) : Option (Int32 × HP) := (fX10_refuse y1 2 hp).bind fun q17 => if q17.1 = 0 then (fX10_keysTo_37 FU x1 0 q17.2) else (some (0, q17.2))
theorem exX10_keysTo_26 {d : Nat} {x1 : Int32} {y1 : Int32} {j2 : Option VL} {j3 : Option VL} {hp : HP} {v : (Int32 × HP)} (h : fX10_keysTo_26 x1 y1 hp = some v) : Ex (d + 2) kX10_keysTo 26 [some (vR (10, 0, 0)), some (vI x1), j2, j3] [vI y1, vR (10, 0, 0)] hp (rsI v.1 v.2) := by
  replace h : ((fX10_refuse y1 2 hp).bind fun q17 => if q17.1 = 0 then (fX10_keysTo_37 FU x1 0 q17.2) else (some (0, q17.2))) = some v := h
  refine Ex.go 1 (pc' := 27) (ls' := [some (vR (10, 0, 0)), some (vI x1), j2, j3]) (st' := [vI 2, vI y1, vR (10, 0, 0)]) (hp' := hp) (fun _ => rfl) ?_
  obtain ⟨q17, hv, h⟩ := Option.bind_eq_some_iff.mp h
  refine Ex.call (args := [vR (10, 0, 0), vI y1, vI 2]) (rest := []) rfl rfl rfl (exX10_refuse (d := d + 1) hv) ?_
  show Ex (d + 2) kX10_keysTo 30 [some (vR (10, 0, 0)), some (vI x1), j2, j3] [vI q17.1] q17.2 _
  refine Ex.ifc rfl ?_
  by_cases hc : q17.1 = 0
  · rw [if_pos hc] at h
    rw [brI_eq_p hc]
    show Ex (d + 2) kX10_keysTo 35 [some (vR (10, 0, 0)), some (vI x1), j2, j3] [] q17.2 _
    refine Ex.go 2 (pc' := 37) (ls' := [some (vR (10, 0, 0)), some (vI x1), some (vI 0), j3]) (st' := []) (hp' := q17.2) (fun _ => rfl) ?_
    exact exX10_keysTo_37 FU _ _ _ _ _ h
  · rw [if_neg hc] at h
    rw [brI_eq_n hc]
    show Ex (d + 2) kX10_keysTo 33 [some (vR (10, 0, 0)), some (vI x1), j2, j3] [] q17.2 _
    refine Ex.go 1 (pc' := 34) (ls' := [some (vR (10, 0, 0)), some (vI x1), j2, j3]) (st' := [vI 0]) (hp' := q17.2) (fun _ => rfl) ?_
    cases h
    exact Ex.ret rfl rfl rfl
def fX10_keysTo (a0 : Int32) (hp : HP) : Option (Int32 × HP) := (fX10_notLoaded hp).bind fun q19 => if q19.1 = 0 then ((fX10_its 0 q19.2).bind fun v20 => (fX10_in a0 0 v20 q19.2).bind fun v21 => if v21 = 0 then (fX10_keysTo_26 a0 1 q19.2) else (fX10_keysTo_26 a0 0 q19.2)) else (some (0, q19.2))
theorem exX10_keysTo {d : Nat} {a0 : Int32} {hp : HP} {v : (Int32 × HP)} (h : fX10_keysTo a0 hp = some v) : Calls (d + 2) 264 [vR (10, 0, 0), vI a0] hp (rsI v.1 v.2) := by
  replace h : ((fX10_notLoaded hp).bind fun q19 => if q19.1 = 0 then ((fX10_its 0 q19.2).bind fun v20 => (fX10_in a0 0 v20 q19.2).bind fun v21 => if v21 = 0 then (fX10_keysTo_26 a0 1 q19.2) else (fX10_keysTo_26 a0 0 q19.2)) else (some (0, q19.2))) = some v := h
  show Ex (d + 2) kX10_keysTo 0 [some (vR (10, 0, 0)), some (vI a0), none, none] [] hp _
  refine Ex.go 1 (pc' := 1) (ls' := [some (vR (10, 0, 0)), some (vI a0), none, none]) (st' := [vR (10, 0, 0)]) (hp' := hp) (fun _ => rfl) ?_
  obtain ⟨q19, hv, h⟩ := Option.bind_eq_some_iff.mp h
  refine Ex.call (args := [vR (10, 0, 0)]) (rest := []) rfl rfl rfl (exX10_notLoaded (d := d + 0) hv) ?_
  show Ex (d + 2) kX10_keysTo 4 [some (vR (10, 0, 0)), some (vI a0), none, none] [vI q19.1] q19.2 _
  refine Ex.ifc rfl ?_
  by_cases hc : q19.1 = 0
  · rw [if_pos hc] at h
    rw [brI_ne_p hc]
    show Ex (d + 2) kX10_keysTo 7 [some (vR (10, 0, 0)), some (vI a0), none, none] [] q19.2 _
    refine Ex.go 5 (pc' := 12) (ls' := [some (vR (10, 0, 0)), some (vI a0), none, none]) (st' := [vI 0, vR (10, 0, 0), vI 0, vI a0, vR (10, 0, 0)]) (hp' := q19.2) (fun _ => rfl) ?_
    obtain ⟨v20, hv, h⟩ := Option.bind_eq_some_iff.mp h
    refine Ex.call (args := [vR (10, 0, 0), vI 0]) (rest := [vI 0, vI a0, vR (10, 0, 0)]) rfl rfl rfl (exX10_its (d := d + 1) hv) ?_
    show Ex (d + 2) kX10_keysTo 15 [some (vR (10, 0, 0)), some (vI a0), none, none] [vI v20, vI 0, vI a0, vR (10, 0, 0)] q19.2 _
    obtain ⟨v21, hv, h⟩ := Option.bind_eq_some_iff.mp h
    refine Ex.call (args := [vI a0, vI 0, vI v20]) (rest := [vR (10, 0, 0)]) rfl rfl rfl (exX10_in (d := d + 1) hv) ?_
    show Ex (d + 2) kX10_keysTo 18 [some (vR (10, 0, 0)), some (vI a0), none, none] [vI v21, vR (10, 0, 0)] q19.2 _
    refine Ex.ifc rfl ?_
    by_cases hc : v21 = 0
    · rw [if_pos hc] at h
      rw [brI_ne_p hc]
      show Ex (d + 2) kX10_keysTo 21 [some (vR (10, 0, 0)), some (vI a0), none, none] [vR (10, 0, 0)] q19.2 _
      refine Ex.go 2 (pc' := 26) (ls' := [some (vR (10, 0, 0)), some (vI a0), none, none]) (st' := [vI 1, vR (10, 0, 0)]) (hp' := q19.2) (fun _ => rfl) ?_
      exact exX10_keysTo_26 h
    · rw [if_neg hc] at h
      rw [brI_ne_n hc]
      show Ex (d + 2) kX10_keysTo 25 [some (vR (10, 0, 0)), some (vI a0), none, none] [vR (10, 0, 0)] q19.2 _
      refine Ex.go 1 (pc' := 26) (ls' := [some (vR (10, 0, 0)), some (vI a0), none, none]) (st' := [vI 0, vR (10, 0, 0)]) (hp' := q19.2) (fun _ => rfl) ?_
      exact exX10_keysTo_26 h
  · rw [if_neg hc] at h
    rw [brI_ne_n hc]
    show Ex (d + 2) kX10_keysTo 33 [some (vR (10, 0, 0)), some (vI a0), none, none] [] q19.2 _
    refine Ex.go 1 (pc' := 34) (ls' := [some (vR (10, 0, 0)), some (vI a0), none, none]) (st' := [vI 0]) (hp' := q19.2) (fun _ => rfl) ?_
    cases h
    exact Ex.ret rfl rfl rfl
def fX10_printsLeft_15 (n : Nat) (x1 : Int32) (hp : HP) : Option (Int32 × HP) := match n with
  | 0 => none
  | n + 1 => if x1 < 2000 then (if inb (130 + (hp (11, 22, 0) 7)) (alen (11, 22, 0)) = true then (if (hp (11, 22, 0) (130 + (hp (11, 22, 0) 7)).toNatClampNeg) = 0 then ((fX10_fetchesBack x1 hp).bind fun q8 => some (q8.1, q8.2)) else ((fX10_its 11 hp).bind fun v3 => if inb (130 + (hp (11, 22, 0) 7)) (alen (11, 22, 0)) = true then ((fX10_runsOn (up hp (11, 22, 0) ((130 + (hp (11, 22, 0) 7)).toNatClampNeg) (imax 0 ((hp (11, 22, 0) (130 + (hp (11, 22, 0) 7)).toNatClampNeg) - v3)))).bind fun hp6 => fX10_printsLeft_15 n (x1 + 1) hp6) else none)) else none) else ((fX10_fetchesBack m1 hp).bind fun q2 => some (q2.1, q2.2))
theorem exX10_printsLeft_15 {d : Nat} : ∀ (n : Nat) (x1 : Int32) (j2 : Option VL) (hp : HP) (v : (Int32 × HP)), fX10_printsLeft_15 n x1 hp = some v → Ex (d + 2) kX10_printsLeft 15 [some (vR (10, 0, 0)), some (vI x1), j2] [] hp (rsI v.1 v.2) := by
  intro n
  induction n with
  | zero =>
    intro x1 j2 hp v h
    cases h
  | succ n ih =>
    intro x1 j2 hp v h
    replace h : (if x1 < 2000 then (if inb (130 + (hp (11, 22, 0) 7)) (alen (11, 22, 0)) = true then (if (hp (11, 22, 0) (130 + (hp (11, 22, 0) 7)).toNatClampNeg) = 0 then ((fX10_fetchesBack x1 hp).bind fun q8 => some (q8.1, q8.2)) else ((fX10_its 11 hp).bind fun v3 => if inb (130 + (hp (11, 22, 0) 7)) (alen (11, 22, 0)) = true then ((fX10_runsOn (up hp (11, 22, 0) ((130 + (hp (11, 22, 0) 7)).toNatClampNeg) (imax 0 ((hp (11, 22, 0) (130 + (hp (11, 22, 0) 7)).toNatClampNeg) - v3)))).bind fun hp6 => fX10_printsLeft_15 n (x1 + 1) hp6) else none)) else none) else ((fX10_fetchesBack m1 hp).bind fun q2 => some (q2.1, q2.2))) = some v := h
    refine Ex.go 2 (pc' := 19) (ls' := [some (vR (10, 0, 0)), some (vI x1), j2]) (st' := [vI 2000, vI x1]) (hp' := hp) (fun _ => rfl) ?_
    refine Ex.icmp rfl ?_
    by_cases hc : x1 < 2000
    · rw [if_pos hc] at h
      rw [brI_ge_p hc]
      show Ex (d + 2) kX10_printsLeft 22 [some (vR (10, 0, 0)), some (vI x1), j2] [] hp _
      refine Ex.go 6 (pc' := 35) (ls' := [some (vR (10, 0, 0)), some (vI x1), j2]) (st' := [vI 7, vR (11, 22, 0), vI 130, vR (11, 22, 0)]) (hp' := hp) (fun _ => rfl) ?_
      refine Ex.iald (k := 7) rfl rfl (by decide) (by decide) ?_
      show Ex (d + 2) kX10_printsLeft 36 [some (vR (10, 0, 0)), some (vI x1), j2] [vI (hp (11, 22, 0) 7), vI 130, vR (11, 22, 0)] hp _
      refine Ex.go 1 (pc' := 37) (ls' := [some (vR (10, 0, 0)), some (vI x1), j2]) (st' := [vI (130 + (hp (11, 22, 0) 7)), vR (11, 22, 0)]) (hp' := hp) (fun _ => rfl) ?_
      by_cases hc : inb (130 + (hp (11, 22, 0) 7)) (alen (11, 22, 0)) = true
      · rw [if_pos hc] at h
        refine Ex.iald rfl rfl hc rfl ?_
        show Ex (d + 2) kX10_printsLeft 38 [some (vR (10, 0, 0)), some (vI x1), j2] [vI (hp (11, 22, 0) (130 + (hp (11, 22, 0) 7)).toNatClampNeg)] hp _
        refine Ex.go 2 (pc' := 40) (ls' := [some (vR (10, 0, 0)), some (vI x1), some (vI (hp (11, 22, 0) (130 + (hp (11, 22, 0) 7)).toNatClampNeg))]) (st' := [vI (hp (11, 22, 0) (130 + (hp (11, 22, 0) 7)).toNatClampNeg)]) (hp' := hp) (fun _ => rfl) ?_
        refine Ex.ifc rfl ?_
        by_cases hc : (hp (11, 22, 0) (130 + (hp (11, 22, 0) 7)).toNatClampNeg) = 0
        · rw [if_pos hc] at h
          rw [brI_ne_p hc]
          show Ex (d + 2) kX10_printsLeft 43 [some (vR (10, 0, 0)), some (vI x1), some (vI (hp (11, 22, 0) (130 + (hp (11, 22, 0) 7)).toNatClampNeg))] [] hp _
          refine Ex.go 2 (pc' := 45) (ls' := [some (vR (10, 0, 0)), some (vI x1), some (vI (hp (11, 22, 0) (130 + (hp (11, 22, 0) 7)).toNatClampNeg))]) (st' := [vI x1, vR (10, 0, 0)]) (hp' := hp) (fun _ => rfl) ?_
          obtain ⟨q8, hv, h⟩ := Option.bind_eq_some_iff.mp h
          refine Ex.call (args := [vR (10, 0, 0), vI x1]) (rest := []) rfl rfl rfl (exX10_fetchesBack (d := d + 1) hv) ?_
          show Ex (d + 2) kX10_printsLeft 48 [some (vR (10, 0, 0)), some (vI x1), some (vI (hp (11, 22, 0) (130 + (hp (11, 22, 0) 7)).toNatClampNeg))] [vI q8.1] q8.2 _
          cases h
          exact Ex.ret rfl rfl rfl
        · rw [if_neg hc] at h
          rw [brI_ne_n hc]
          show Ex (d + 2) kX10_printsLeft 49 [some (vR (10, 0, 0)), some (vI x1), some (vI (hp (11, 22, 0) (130 + (hp (11, 22, 0) 7)).toNatClampNeg))] [] hp _
          refine Ex.go 6 (pc' := 62) (ls' := [some (vR (10, 0, 0)), some (vI x1), some (vI (hp (11, 22, 0) (130 + (hp (11, 22, 0) 7)).toNatClampNeg))]) (st' := [vI 7, vR (11, 22, 0), vI 130, vR (11, 22, 0)]) (hp' := hp) (fun _ => rfl) ?_
          refine Ex.iald (k := 7) rfl rfl (by decide) (by decide) ?_
          show Ex (d + 2) kX10_printsLeft 63 [some (vR (10, 0, 0)), some (vI x1), some (vI (hp (11, 22, 0) (130 + (hp (11, 22, 0) 7)).toNatClampNeg))] [vI (hp (11, 22, 0) 7), vI 130, vR (11, 22, 0)] hp _
          refine Ex.go 5 (pc' := 69) (ls' := [some (vR (10, 0, 0)), some (vI x1), some (vI (hp (11, 22, 0) (130 + (hp (11, 22, 0) 7)).toNatClampNeg))]) (st' := [vI 11, vR (10, 0, 0), vI (hp (11, 22, 0) (130 + (hp (11, 22, 0) 7)).toNatClampNeg), vI 0, vI (130 + (hp (11, 22, 0) 7)), vR (11, 22, 0)]) (hp' := hp) (fun _ => rfl) ?_
          obtain ⟨v3, hv, h⟩ := Option.bind_eq_some_iff.mp h
          refine Ex.call (args := [vR (10, 0, 0), vI 11]) (rest := [vI (hp (11, 22, 0) (130 + (hp (11, 22, 0) 7)).toNatClampNeg), vI 0, vI (130 + (hp (11, 22, 0) 7)), vR (11, 22, 0)]) rfl rfl rfl (exX10_its (d := d + 1) hv) ?_
          show Ex (d + 2) kX10_printsLeft 72 [some (vR (10, 0, 0)), some (vI x1), some (vI (hp (11, 22, 0) (130 + (hp (11, 22, 0) 7)).toNatClampNeg))] [vI v3, vI (hp (11, 22, 0) (130 + (hp (11, 22, 0) 7)).toNatClampNeg), vI 0, vI (130 + (hp (11, 22, 0) 7)), vR (11, 22, 0)] hp _
          refine Ex.go 2 (pc' := 76) (ls' := [some (vR (10, 0, 0)), some (vI x1), some (vI (hp (11, 22, 0) (130 + (hp (11, 22, 0) 7)).toNatClampNeg))]) (st' := [vI (imax 0 ((hp (11, 22, 0) (130 + (hp (11, 22, 0) 7)).toNatClampNeg) - v3)), vI (130 + (hp (11, 22, 0) 7)), vR (11, 22, 0)]) (hp' := hp) (fun _ => rfl) ?_
          by_cases hc : inb (130 + (hp (11, 22, 0) 7)) (alen (11, 22, 0)) = true
          · rw [if_pos hc] at h
            refine Ex.iast rfl rfl hc rfl ?_
            show Ex (d + 2) kX10_printsLeft 77 [some (vR (10, 0, 0)), some (vI x1), some (vI (hp (11, 22, 0) (130 + (hp (11, 22, 0) 7)).toNatClampNeg))] [] (up hp (11, 22, 0) ((130 + (hp (11, 22, 0) 7)).toNatClampNeg) (imax 0 ((hp (11, 22, 0) (130 + (hp (11, 22, 0) 7)).toNatClampNeg) - v3))) _
            refine Ex.go 1 (pc' := 78) (ls' := [some (vR (10, 0, 0)), some (vI x1), some (vI (hp (11, 22, 0) (130 + (hp (11, 22, 0) 7)).toNatClampNeg))]) (st' := [vR (10, 0, 0)]) (hp' := (up hp (11, 22, 0) ((130 + (hp (11, 22, 0) 7)).toNatClampNeg) (imax 0 ((hp (11, 22, 0) (130 + (hp (11, 22, 0) 7)).toNatClampNeg) - v3)))) (fun _ => rfl) ?_
            obtain ⟨hp6, hv, h⟩ := Option.bind_eq_some_iff.mp h
            refine Ex.call (args := [vR (10, 0, 0)]) (rest := []) rfl rfl rfl (exX10_runsOn (d := d + 0) hv) ?_
            show Ex (d + 2) kX10_printsLeft 81 [some (vR (10, 0, 0)), some (vI x1), some (vI (hp (11, 22, 0) (130 + (hp (11, 22, 0) 7)).toNatClampNeg))] [] hp6 _
            refine Ex.go 2 (pc' := 15) (ls' := [some (vR (10, 0, 0)), some (vI (x1 + 1)), some (vI (hp (11, 22, 0) (130 + (hp (11, 22, 0) 7)).toNatClampNeg))]) (st' := []) (hp' := hp6) (fun _ => rfl) ?_
            exact ih _ _ _ _ h
          · rw [if_neg hc] at h
            cases h
      · rw [if_neg hc] at h
        cases h
    · rw [if_neg hc] at h
      rw [brI_ge_n hc]
      show Ex (d + 2) kX10_printsLeft 87 [some (vR (10, 0, 0)), some (vI x1), j2] [] hp _
      refine Ex.go 2 (pc' := 89) (ls' := [some (vR (10, 0, 0)), some (vI x1), j2]) (st' := [vI m1, vR (10, 0, 0)]) (hp' := hp) (fun _ => rfl) ?_
      obtain ⟨q2, hv, h⟩ := Option.bind_eq_some_iff.mp h
      refine Ex.call (args := [vR (10, 0, 0), vI m1]) (rest := []) rfl rfl rfl (exX10_fetchesBack (d := d + 1) hv) ?_
      show Ex (d + 2) kX10_printsLeft 92 [some (vR (10, 0, 0)), some (vI x1), j2] [vI q2.1] q2.2 _
      cases h
      exact Ex.ret rfl rfl rfl
def fX10_printsLeft (hp : HP) : Option (Int32 × HP) := (fX10_notLoaded hp).bind fun q10 => if q10.1 = 0 then ((fX10_putsAside q10.2).bind fun hp13 => fX10_printsLeft_15 FU 0 hp13) else (some (0, q10.2))
theorem exX10_printsLeft {d : Nat} {hp : HP} {v : (Int32 × HP)} (h : fX10_printsLeft hp = some v) : Calls (d + 2) 265 [vR (10, 0, 0)] hp (rsI v.1 v.2) := by
  replace h : ((fX10_notLoaded hp).bind fun q10 => if q10.1 = 0 then ((fX10_putsAside q10.2).bind fun hp13 => fX10_printsLeft_15 FU 0 hp13) else (some (0, q10.2))) = some v := h
  show Ex (d + 2) kX10_printsLeft 0 [some (vR (10, 0, 0)), none, none] [] hp _
  refine Ex.go 1 (pc' := 1) (ls' := [some (vR (10, 0, 0)), none, none]) (st' := [vR (10, 0, 0)]) (hp' := hp) (fun _ => rfl) ?_
  obtain ⟨q10, hv, h⟩ := Option.bind_eq_some_iff.mp h
  refine Ex.call (args := [vR (10, 0, 0)]) (rest := []) rfl rfl rfl (exX10_notLoaded (d := d + 0) hv) ?_
  show Ex (d + 2) kX10_printsLeft 4 [some (vR (10, 0, 0)), none, none] [vI q10.1] q10.2 _
  refine Ex.ifc rfl ?_
  by_cases hc : q10.1 = 0
  · rw [if_pos hc] at h
    rw [brI_eq_p hc]
    show Ex (d + 2) kX10_printsLeft 9 [some (vR (10, 0, 0)), none, none] [] q10.2 _
    refine Ex.go 1 (pc' := 10) (ls' := [some (vR (10, 0, 0)), none, none]) (st' := [vR (10, 0, 0)]) (hp' := q10.2) (fun _ => rfl) ?_
    obtain ⟨hp13, hv, h⟩ := Option.bind_eq_some_iff.mp h
    refine Ex.call (args := [vR (10, 0, 0)]) (rest := []) rfl rfl rfl (exX10_putsAside (d := d + 1) hv) ?_
    show Ex (d + 2) kX10_printsLeft 13 [some (vR (10, 0, 0)), none, none] [] hp13 _
    refine Ex.go 2 (pc' := 15) (ls' := [some (vR (10, 0, 0)), some (vI 0), none]) (st' := []) (hp' := hp13) (fun _ => rfl) ?_
    exact exX10_printsLeft_15 FU _ _ _ _ h
  · rw [if_neg hc] at h
    rw [brI_eq_n hc]
    show Ex (d + 2) kX10_printsLeft 7 [some (vR (10, 0, 0)), none, none] [] q10.2 _
    refine Ex.go 1 (pc' := 8) (ls' := [some (vR (10, 0, 0)), none, none]) (st' := [vI 0]) (hp' := q10.2) (fun _ => rfl) ?_
    cases h
    exact Ex.ret rfl rfl rfl
def fX10_says_10 (hp : HP) : Option HP := some (up hp (10, 0, 0) 30 ((hp (10, 0, 0) 30) + 1))
theorem exX10_says_10 {d : Nat} {j1 : Option VL} {hp : HP} {v : HP} (h : fX10_says_10 hp = some v) : Ex (d + 0) kX10_says 10 [some (vR (10, 0, 0)), j1] [] hp (rsV () v) := by
  replace h : (some (up hp (10, 0, 0) 30 ((hp (10, 0, 0) 30) + 1))) = some v := h
  refine Ex.go 6 (pc' := 20) (ls' := [some (vR (10, 0, 0)), j1]) (st' := []) (hp' := (up hp (10, 0, 0) 30 ((hp (10, 0, 0) 30) + 1))) (fun _ => rfl) ?_
  cases h
  exact Ex.ret rfl rfl rfl
def fX10_says (a0 : Int32) (hp : HP) : Option HP := if inb (hp (10, 0, 0) 30) (alen (11, 31, 0)) = true then (fX10_says_10 (up hp (11, 31, 0) ((hp (10, 0, 0) 30).toNatClampNeg) a0)) else none
theorem exX10_says {d : Nat} {a0 : Int32} {hp : HP} {v : HP} (h : fX10_says a0 hp = some v) : Calls (d + 0) 266 [vR (10, 0, 0), vI a0] hp (rsV () v) := by
  replace h : (if inb (hp (10, 0, 0) 30) (alen (11, 31, 0)) = true then (fX10_says_10 (up hp (11, 31, 0) ((hp (10, 0, 0) 30).toNatClampNeg) a0)) else none) = some v := h
  show Ex (d + 0) kX10_says 0 [some (vR (10, 0, 0)), some (vI a0)] [] hp _
  refine Ex.go 5 (pc' := 9) (ls' := [some (vR (10, 0, 0)), some (vI a0)]) (st' := [vI a0, vI (hp (10, 0, 0) 30), vR (11, 31, 0)]) (hp' := hp) (fun _ => rfl) ?_
  by_cases hc : inb (hp (10, 0, 0) 30) (alen (11, 31, 0)) = true
  · rw [if_pos hc] at h
    refine Ex.iast rfl rfl hc rfl ?_
    show Ex (d + 0) kX10_says 10 [some (vR (10, 0, 0)), some (vI a0)] [] (up hp (11, 31, 0) ((hp (10, 0, 0) 30).toNatClampNeg) a0) _
    exact exX10_says_10 h
  · rw [if_neg hc] at h
    cases h
end
