/-! ===== looks: what is told as it stands ===== -/
section
variable {hc hm h0 : HP} {T L A : Tr0} {tb nb m : Nat} {F : Prop}
theorem n10 : ¬ (1 : Int32) = 0 := by decide
theorem ix_n (x : Int32) {n : Nat} (hn : n < 1000000) : (∃ k, k < n ∧ x = nI k) ∨ (x < 0 ∨ nI n ≤ x) := by
  rcases pk_ix x (n := n) (by omega) with h | h | h
  · exact Or.inr (Or.inl h)
  · exact Or.inr (Or.inr h)
  · exact Or.inl h
theorem out_ge {x : Int32} {n : Nat} (hn : n < 1000000) (h : x < 0 ∨ nI n ≤ x) (h0 : ¬ x < 0) : ¬ x < nI n := by
  rcases h with h | h
  · exact absurd h h0
  · intro q
    have a := le_i.mp h
    have b := lt_i.mp q
    omega
theorem in_in {k n : Nat} (h : k < n) (hn : n < 1000000) : fX10_in (nI k) 0 (nI n - 1) hm = some 1 := by
  refine in_yes (n_neg (by omega)) ?_
  rw [n_lit 1, n_sub (by omega), n_lt (by omega) (by omega)]; omega
theorem in_out {x : Int32} {n : Nat} (hn : n < 1000000) (h : x < 0 ∨ nI n ≤ x) : fX10_in x 0 (nI n - 1) hm = some 0 := by
  refine in_no ?_
  rcases h with h | h
  · exact Or.inl h
  · right
    have a := le_i.mp h
    have z1 : (1 : Int32).toInt = 1 := rfl
    rw [n_i (by omega)] at a
    rw [lt_i, sub_s (by rw [n_i (by omega), z1]; omega) (by rw [n_i (by omega), z1]; omega), n_i (by omega), z1]; omega
theorem in_in' {k n : Nat} (h : k ≤ n) (hn : n < 1000000) : fX10_in (nI k) 0 (nI n) hm = some 1 :=
  in_yes (n_neg (by omega)) (by rw [n_lt (by omega) (by omega)]; omega)
theorem in_out' {x : Int32} {n : Nat} (hn : n < 1000000) (h : x < 0 ∨ nI (n + 1) ≤ x) : fX10_in x 0 (nI n) hm = some 0 := by
  refine in_no ?_
  rcases h with h | h
  · exact Or.inl h
  · right
    have a := le_i.mp h
    rw [n_i (by omega)] at a
    rw [lt_i, n_i (by omega)]; omega
theorem ri_1 {hp : HP} : fX9_requireIndex 1 hp = some (.inl ()) := rfl
theorem ri_0 {hp : HP} : fX9_requireIndex 0 hp = some (.inr 3) := rfl
theorem ra_1 {hp : HP} : fX9_requireArgument 1 hp = some (.inl ()) := rfl
theorem ra_0 {hp : HP} : fX9_requireArgument 0 hp = some (.inr 2) := rfl
-- an index of a bar
theorem rqBar_in (h : MR F h0 hc 0 T L A nb) {k : Nat} (hk : k < nb) : fX9_requireBar (nI k) hc = some (.inl ()) := by
  have hnb := h.2.2.2.1
  show (if nI k < 0 then (some (Sum.inr 3 : Unit ⊕ Nat)) else (if nI k < hc (0, 0, 0) 5 then (some (Sum.inl () : Unit ⊕ Nat)) else (some (Sum.inr 3 : Unit ⊕ Nat)))) = _
  rw [if_neg (n_neg (by omega)), h.1.a6, if_pos (show nI k < nI nb by rw [n_lt (by omega) (by omega)]; exact hk)]
theorem rqBar_out (h : MR F h0 hc 0 T L A nb) {x : Int32} (hx : x < 0 ∨ nI nb ≤ x) : fX9_requireBar x hc = some (.inr 3) := by
  have hnb := h.2.2.2.1
  show (if x < 0 then (some (Sum.inr 3 : Unit ⊕ Nat)) else (if x < hc (0, 0, 0) 5 then (some (Sum.inl () : Unit ⊕ Nat)) else (some (Sum.inr 3 : Unit ⊕ Nat)))) = _
  by_cases q : x < 0
  · rw [if_pos q]
  · rw [if_neg q, h.1.a6, if_neg (out_ge (by omega) hx q)]
/-- the reference's look at a bar's index -/
def nbM (x : Int32) (hm : HP) : Option (Int32 × HP) := (fX10_isBar x hm).bind fun v5 => if v5 = 0 then (fX10_noBar_21 1 hm) else (fX10_noBar_21 0 hm)
theorem isBar_in (hl : LA hm L A nb) {k : Nat} (hk : k < nb) (hnb : nb ≤ 26) : fX10_isBar (nI k) hm = some 1 := by
  show (fX10_in (nI k) 0 ((hm (10, 0, 0) 2) - 1) hm).bind (fun v1 => if isB v1 = true then some v1 else none) = _
  rw [hl.2.2, in_in hk (by omega)]; rfl
theorem isBar_out (hl : LA hm L A nb) {x : Int32} (hx : x < 0 ∨ nI nb ≤ x) (hnb : nb ≤ 26) : fX10_isBar x hm = some 0 := by
  show (fX10_in x 0 ((hm (10, 0, 0) 2) - 1) hm).bind (fun v1 => if isB v1 = true then some v1 else none) = _
  rw [hl.2.2, in_out (by omega) hx]; rfl
theorem rf21_0 (h : hm (10, 0, 0) 0 = 0) {c : Int32} : ((fX10_refuse 0 c hm).bind fun q2 => if q2.1 = 0 then (some ((0 : Int32), q2.2)) else (some (1, q2.2))) = some (0, hm) := by
  rw [rf_no h]; rfl
theorem rf21_1 (h : hm (10, 0, 0) 0 = 0) {c : Int32} (hc : ¬ c = 0) : ((fX10_refuse 1 c hm).bind fun q2 => if q2.1 = 0 then (some ((0 : Int32), q2.2)) else (some (1, q2.2))) = some (1, th hm c) := by
  rw [rf_yes h hc]; rfl
theorem nbM_in (hl : LA hm L A nb) (h0 : hm (10, 0, 0) 0 = 0) {k : Nat} (hk : k < nb) (hnb : nb ≤ 26) : nbM (nI k) hm = some (0, hm) := by
  unfold nbM
  rw [isBar_in hl hk hnb, Option.bind_some, if_neg (by decide)]; exact rf21_0 h0
theorem nbM_out (hl : LA hm L A nb) (h0 : hm (10, 0, 0) 0 = 0) {x : Int32} (hx : x < 0 ∨ nI nb ≤ x) (hnb : nb ≤ 26) : nbM x hm = some (1, th hm 2) := by
  unfold nbM
  rw [isBar_out hl hx hnb, Option.bind_some, if_pos rfl]; exact rf21_1 h0 (by decide)
theorem noBar_1 (h : hm (10, 0, 0) 1 = 0) {x : Int32} : fX10_noBar x hm = some (1, th hm 1) := by
  show (fX10_notLoaded hm).bind (fun q4 => if q4.1 = 0 then _ else (some (1, q4.2))) = _
  rw [nl_1 h, Option.bind_some, if_neg n10]
theorem noBar_0 (h : hm (10, 0, 0) 1 = 1) {x : Int32} : fX10_noBar x hm = nbM x (th hm 0) := by
  show (fX10_notLoaded hm).bind (fun q4 => if q4.1 = 0 then (nbM x q4.2) else (some (1, q4.2))) = _
  rw [nl_0 h, Option.bind_some, if_pos rfl]
-- lines and columns
theorem rqLine_in (h : MR F h0 hc 0 T L A nb) (hW : WF tb T L A nb) {k : Nat} (hk : k < tn (T 10)) : fX9_requireLine (nI k) hc = some (.inl ()) := by
  have hln := hW.ln
  have e : T 10 = nI (tn (T 10)) := hln.1
  show (if nI k < 0 then (some (Sum.inr 3 : Unit ⊕ Nat)) else ((fX7_at 0 0 1 hc).bind fun v3 => if nI k < v3 then (some (Sum.inl () : Unit ⊕ Nat)) else (some (Sum.inr 3 : Unit ⊕ Nat)))) = _
  rw [if_neg (n_neg (by omega)), c_s1 h, Option.bind_some, e, if_pos (show nI k < nI (tn (T 10)) by rw [n_lt (by omega) (by omega)]; exact hk)]
theorem rqLine_out (h : MR F h0 hc 0 T L A nb) (hW : WF tb T L A nb) {x : Int32} (hx : x < 0 ∨ nI (tn (T 10)) ≤ x) : fX9_requireLine x hc = some (.inr 3) := by
  have hln := hW.ln
  have e : T 10 = nI (tn (T 10)) := hln.1
  show (if x < 0 then (some (Sum.inr 3 : Unit ⊕ Nat)) else ((fX7_at 0 0 1 hc).bind fun v3 => if x < v3 then (some (Sum.inl () : Unit ⊕ Nat)) else (some (Sum.inr 3 : Unit ⊕ Nat)))) = _
  by_cases q : x < 0
  · rw [if_pos q]
  · rw [if_neg q, c_s1 h, Option.bind_some, e, if_neg (out_ge (by omega) hx q)]
theorem rqCol_in (h : MR F h0 hc 0 T L A nb) (hW : WF tb T L A nb) {k : Nat} (hk : k < tn (T 9)) : fX9_requireColumn (nI k) hc = some (.inl ()) := by
  have hw := hW.w
  have e : T 9 = nI (tn (T 9)) := hw.1
  show (if nI k < 0 then (some (Sum.inr 3 : Unit ⊕ Nat)) else ((fX7_at 0 0 0 hc).bind fun v3 => if nI k < v3 then (some (Sum.inl () : Unit ⊕ Nat)) else (some (Sum.inr 3 : Unit ⊕ Nat)))) = _
  rw [if_neg (n_neg (by omega)), c_s0 h, Option.bind_some, e, if_pos (show nI k < nI (tn (T 9)) by rw [n_lt (by omega) (by omega)]; exact hk)]
theorem rqCol_out (h : MR F h0 hc 0 T L A nb) (hW : WF tb T L A nb) {x : Int32} (hx : x < 0 ∨ nI (tn (T 9)) ≤ x) : fX9_requireColumn x hc = some (.inr 3) := by
  have hw := hW.w
  have e : T 9 = nI (tn (T 9)) := hw.1
  show (if x < 0 then (some (Sum.inr 3 : Unit ⊕ Nat)) else ((fX7_at 0 0 0 hc).bind fun v3 => if x < v3 then (some (Sum.inl () : Unit ⊕ Nat)) else (some (Sum.inr 3 : Unit ⊕ Nat)))) = _
  by_cases q : x < 0
  · rw [if_pos q]
  · rw [if_neg q, c_s0 h, Option.bind_some, e, if_neg (out_ge (by omega) hx q)]
theorem rqCC_in (h : MR F h0 hc 0 T L A nb) (hW : WF tb T L A nb) {k : Nat} (hk : k < tn (T 9) + 1) : fX9_requireCarriageColumn (nI k) hc = some (.inl ()) := by
  have hw := hW.w
  have e : T 9 = nI (tn (T 9)) := hw.1
  show (if nI k < 0 then (some (Sum.inr 3 : Unit ⊕ Nat)) else ((fX7_at 0 0 0 hc).bind fun v3 => if v3 < nI k then (some (Sum.inr 3 : Unit ⊕ Nat)) else (some (Sum.inl () : Unit ⊕ Nat)))) = _
  rw [if_neg (n_neg (by omega)), c_s0 h, Option.bind_some, e, if_neg (show ¬ nI (tn (T 9)) < nI k by rw [n_lt (by omega) (by omega)]; omega)]
theorem rqCC_out (h : MR F h0 hc 0 T L A nb) (hW : WF tb T L A nb) {x : Int32} (hx : x < 0 ∨ nI (tn (T 9) + 1) ≤ x) : fX9_requireCarriageColumn x hc = some (.inr 3) := by
  have hw := hW.w
  have e : T 9 = nI (tn (T 9)) := hw.1
  show (if x < 0 then (some (Sum.inr 3 : Unit ⊕ Nat)) else ((fX7_at 0 0 0 hc).bind fun v3 => if v3 < x then (some (Sum.inr 3 : Unit ⊕ Nat)) else (some (Sum.inl () : Unit ⊕ Nat)))) = _
  by_cases q : x < 0
  · rw [if_pos q]
  · have h2 : nI (tn (T 9)) < x := by
      have a := le_i.mp (hx.resolve_left q)
      rw [n_i (by omega)] at a
      rw [lt_i, n_i (by omega)]; omega
    rw [if_neg q, c_s0 h, Option.bind_some, e, if_pos h2]
theorem isLine_in (hW : WF tb T L A nb) {k : Nat} (hk : k < tn (T 10)) : fX10_isLine (nI k) (rwm hm T) = some 1 := by
  have hln := hW.ln
  have e : T 10 = nI (tn (T 10)) := hln.1
  show (fX10_its 1 (rwm hm T)).bind (fun v1 => (fX10_in (nI k) 0 (v1 - 1) (rwm hm T)).bind fun v2 => if isB v2 = true then some v2 else none) = _
  rw [its_1, Option.bind_some, e, in_in hk (by omega)]; rfl
theorem isLine_out (hW : WF tb T L A nb) {x : Int32} (hx : x < 0 ∨ nI (tn (T 10)) ≤ x) : fX10_isLine x (rwm hm T) = some 0 := by
  have hln := hW.ln
  have e : T 10 = nI (tn (T 10)) := hln.1
  show (fX10_its 1 (rwm hm T)).bind (fun v1 => (fX10_in x 0 (v1 - 1) (rwm hm T)).bind fun v2 => if isB v2 = true then some v2 else none) = _
  rw [its_1, Option.bind_some, e, in_out (by omega) hx]; rfl
theorem isCol_in (hW : WF tb T L A nb) {k : Nat} (hk : k < tn (T 9)) : fX10_isColumn (nI k) (rwm hm T) = some 1 := by
  have hw := hW.w
  have e : T 9 = nI (tn (T 9)) := hw.1
  show (fX10_its 0 (rwm hm T)).bind (fun v1 => (fX10_in (nI k) 0 (v1 - 1) (rwm hm T)).bind fun v2 => if isB v2 = true then some v2 else none) = _
  rw [its_0, Option.bind_some, e, in_in hk (by omega)]; rfl
theorem isCol_out (hW : WF tb T L A nb) {x : Int32} (hx : x < 0 ∨ nI (tn (T 9)) ≤ x) : fX10_isColumn x (rwm hm T) = some 0 := by
  have hw := hW.w
  have e : T 9 = nI (tn (T 9)) := hw.1
  show (fX10_its 0 (rwm hm T)).bind (fun v1 => (fX10_in x 0 (v1 - 1) (rwm hm T)).bind fun v2 => if isB v2 = true then some v2 else none) = _
  rw [its_0, Option.bind_some, e, in_out (by omega) hx]; rfl
def nlM (x : Int32) (hm : HP) : Option (Int32 × HP) := (fX10_isLine x hm).bind fun v5 => if v5 = 0 then (fX10_noLine_21 1 hm) else (fX10_noLine_21 0 hm)
def npM (x y : Int32) (hm : HP) : Option (Int32 × HP) := (fX10_isLine x hm).bind fun v5 => if v5 = 0 then (fX10_noPlace_29 1 hm) else ((fX10_isColumn y hm).bind fun v6 => if v6 = 0 then (fX10_noPlace_29 1 hm) else (fX10_noPlace_29 0 hm))
theorem noLine_1 (h : hm (10, 0, 0) 1 = 0) {x : Int32} : fX10_noLine x hm = some (1, th hm 1) := by
  show (fX10_notLoaded hm).bind (fun q4 => if q4.1 = 0 then _ else (some (1, q4.2))) = _
  rw [nl_1 h, Option.bind_some, if_neg n10]
theorem noLine_0 (h : hm (10, 0, 0) 1 = 1) {x : Int32} : fX10_noLine x hm = nlM x (th hm 0) := by
  show (fX10_notLoaded hm).bind (fun q4 => if q4.1 = 0 then (nlM x q4.2) else (some (1, q4.2))) = _
  rw [nl_0 h, Option.bind_some, if_pos rfl]
theorem noPlace_1 (h : hm (10, 0, 0) 1 = 0) {x y : Int32} : fX10_noPlace x y hm = some (1, th hm 1) := by
  show (fX10_notLoaded hm).bind (fun q4 => if q4.1 = 0 then _ else (some (1, q4.2))) = _
  rw [nl_1 h, Option.bind_some, if_neg n10]
theorem noPlace_0 (h : hm (10, 0, 0) 1 = 1) {x y : Int32} : fX10_noPlace x y hm = npM x y (th hm 0) := by
  show (fX10_notLoaded hm).bind (fun q4 => if q4.1 = 0 then (npM x y q4.2) else (some (1, q4.2))) = _
  rw [nl_0 h, Option.bind_some, if_pos rfl]
theorem rwm_t (h0 : hm (10, 0, 0) 0 = 0) : (rwm hm T) (10, 0, 0) 0 = 0 := h0
theorem nlM_in (hW : WF tb T L A nb) (h0 : hm (10, 0, 0) 0 = 0) {k : Nat} (hk : k < tn (T 10)) : nlM (nI k) (rwm hm T) = some (0, rwm hm T) := by
  unfold nlM
  rw [isLine_in hW hk, Option.bind_some, if_neg (by decide)]; exact rf21_0 (rwm_t h0)
theorem nlM_out (hW : WF tb T L A nb) (h0 : hm (10, 0, 0) 0 = 0) {x : Int32} (hx : x < 0 ∨ nI (tn (T 10)) ≤ x) : nlM x (rwm hm T) = some (1, rwm (th hm 2) T) := by
  unfold nlM
  rw [isLine_out hW hx, Option.bind_some, if_pos rfl, ← th_rwm]; exact rf21_1 (rwm_t h0) (by decide)
theorem npM_in (hW : WF tb T L A nb) (h0 : hm (10, 0, 0) 0 = 0) {k c : Nat} (hk : k < tn (T 10)) (hc : c < tn (T 9)) : npM (nI k) (nI c) (rwm hm T) = some (0, rwm hm T) := by
  unfold npM
  rw [isLine_in hW hk, Option.bind_some, if_neg (by decide), isCol_in hW hc, Option.bind_some, if_neg (by decide)]; exact rf21_0 (rwm_t h0)
theorem npM_out (hW : WF tb T L A nb) (h0 : hm (10, 0, 0) 0 = 0) {x y : Int32} (hx : x < 0 ∨ nI (tn (T 10)) ≤ x) : npM x y (rwm hm T) = some (1, rwm (th hm 2) T) := by
  unfold npM
  rw [isLine_out hW hx, Option.bind_some, if_pos rfl, ← th_rwm]; exact rf21_1 (rwm_t h0) (by decide)
theorem npM_out2 (hW : WF tb T L A nb) (h0 : hm (10, 0, 0) 0 = 0) {k : Nat} {y : Int32} (hk : k < tn (T 10)) (hy : y < 0 ∨ nI (tn (T 9)) ≤ y) : npM (nI k) y (rwm hm T) = some (1, rwm (th hm 2) T) := by
  unfold npM
  rw [isLine_in hW hk, Option.bind_some, if_neg (by decide), isCol_out hW hy, Option.bind_some, if_pos rfl, ← th_rwm]; exact rf21_1 (rwm_t h0) (by decide)
/-- a look with an argument of 0 to n that the reference refuses by 2 -/
theorem ref_in (h0 : hm (10, 0, 0) 0 = 0) {c : Int32} {G : HP → Option (Int32 × HP)} : ((fX10_refuse 0 c (rwm hm T)).bind fun q2 => if q2.1 = 0 then G q2.2 else (some ((0 : Int32), q2.2))) = G (rwm hm T) := by
  rw [rf_no (rwm_t h0), Option.bind_some, if_pos rfl]
theorem ref_out (h0 : hm (10, 0, 0) 0 = 0) {c : Int32} (hc : ¬ c = 0) {G : HP → Option (Int32 × HP)} : ((fX10_refuse 1 c (rwm hm T)).bind fun q2 => if q2.1 = 0 then G q2.2 else (some ((0 : Int32), q2.2))) = some (0, rwm (th hm c) T) := by
  rw [rf_yes (rwm_t h0) hc, Option.bind_some, if_neg n10, th_rwm]
end
section
theorem agr_ok {τ : Type} {cs : List Nat} {v : τ} : agr cs (.inl v) v 0 := ⟨rfl, rfl⟩
theorem agr_th {τ : Type} {cs : List Nat} {E i : Nat} {b : τ} (h : cs[i]? = some E) : agr cs (.inr E) b (nI (i + 1)) := ⟨i, h, rfl⟩
theorem th_0 {hm : HP} (h : hm (10, 0, 0) 0 = 0) : th hm 0 = hm := th_self h
end
