/-! ===== what holds at the law's entry ===== -/
section LKN
variable {s : State} {sargs : Array Value} {B : Nat}
def tmS (w : Nat) : Term := match w with | 0 => .string "TypebarMachine$Parser" 40 | 1 => .string "TypebarMachine$Parser" 53 | 2 => .string "TypebarMachine$Parser" 55 | 3 => .string "TypebarMachine$Parser" 60 | _ => .string "TypebarMachine$Parser" 69
def tmM (w : Nat) : Term := match w with | 0 => .string "TypebarMachineModel" 167 | 1 => .string "TypebarMachineModel" 176 | 2 => .string "TypebarMachineModel" 178 | 3 => .string "TypebarMachineModel" 157 | _ => .string "TypebarMachineModel" 162
def nrw : List Jvm.Cond := flatC (Jvm.Cond.and given_1 narrow_1)
theorem nr_ex : ∀ i, i < 5 → Jvm.Cond.exactly (tmS i) "java/lang/String" ∈ nrw := by decide +kernel
theorem nr_co : ∀ i, i < 5 → Jvm.Cond.eq (.field (tmS i) "java/lang/String" "coder" "B") (.int 0) ∈ nrw := by decide +kernel
theorem nr_ar : ∀ i, i < 5 → Jvm.Cond.arrayOf (.field (tmS i) "java/lang/String" "value" "[B") .byte ∈ nrw := by decide +kernel
theorem nr_le : ∀ i, i < 5 → Jvm.Cond.eq (.length (.field (tmS i) "java/lang/String" "value" "[B")) (.int (Int32.ofNat (txL.getD i 0))) ∈ nrw := by decide +kernel
theorem nr_el : ∀ i, i < 5 → ∀ j, j < txL.getD i 0 → Jvm.Cond.eq (.elem (.field (tmS i) "java/lang/String" "value" "[B") (.int (Int32.ofNat j))) (.int ((txB.getD i []).getD j 0)) ∈ nrw := by decide +kernel
theorem nr_ne : ∀ i, i < 5 → ∀ j, j < 5 → i ≠ j → (Jvm.Cond.not (.eq (tmS i) (tmS j)) ∈ nrw ∨ Jvm.Cond.not (.eq (tmS j) (tmS i)) ∈ nrw) := by decide +kernel
theorem nr_eq : ∀ i, i < 5 → Jvm.Cond.eq (tmS i) (tmM i) ∈ nrw := by decide +kernel
theorem nr_ms : ∀ x ∈ thrL, Jvm.Cond.exactly (.string RX9 x.2.2.2.1) "java/lang/String" ∈ nrw ∧ Jvm.Cond.stringRef RX9 x.2.2.2.1 (msgS x.2.2.2.2.2.2) ∈ lw_tbl := by decide +kernel
theorem nr_nc : ∀ i, i < 4 → ∀ j, j < 4 → (1 ≤ i ∧ 1 ≤ j ∧ ¬ i = j) → Jvm.Cond.not (.castable (excN i) (excN j)) ∈ nrw := by decide +kernel
theorem nr_st : Jvm.Cond.eq (.static "java/lang/String" "COMPACT_STRINGS" "Z") (.int 1) ∈ nrw ∧ Jvm.Cond.isRef (.static "jdk/internal/util/Preconditions" "SIOOBE_FORMATTER" "Ljava/util/function/BiFunction;") ∈ nrw ∧ Jvm.Cond.isRef (.static Bundle.tN "UNASSIGNED_STACK" Bundle.steD) ∈ nrw ∧ Jvm.Cond.isRef (.static Bundle.tN "SUPPRESSED_SENTINEL" Bundle.listD) ∈ nrw := by decide +kernel
def stW : List Jvm.Cond := [.laysStatic "java/lang/String" "COMPACT_STRINGS" "Z", .initialized "java/lang/String", .laysStatic "jdk/internal/util/Preconditions" "SIOOBE_FORMATTER" "Ljava/util/function/BiFunction;", .initialized "jdk/internal/util/Preconditions", .laysStatic Bundle.tN "UNASSIGNED_STACK" Bundle.steD, .laysStatic Bundle.tN "SUPPRESSED_SENTINEL" Bundle.listD, .initialized Bundle.tN, .arrayClass .int, .arrayClass .boolean, .arrayClass .long, .arrayClass .double, .arrayOver (.object RX3)]
theorem stW_at {w : Jvm.Cond} (i : Nat) (h : stW[i]? = some w) : w ∈ lw_tbl := by
  have key : (stW.all (fun w => decide (w ∈ lw_tbl))) = true := by decide +kernel
  have h := List.all_eq_true.mp key w (List.mem_of_getElem? h)
  exact of_decide_eq_true h
theorem tnN : (∀ x ∈ lnkFN, (wFN x).onTables = true) ∧ (∀ x ∈ lnkMN, (wMN x).onTables = true) ∧ (∀ w ∈ nwC, w.onTables = true) := by decide +kernel
theorem lnkL_own : ∀ x ∈ lnkL, (clsN x.1 = RX5 ∧ tmS x.2.2 = .string RX5 x.2.1) ∨ (clsN x.1 = RX10 ∧ tmM x.2.2 = .string RX10 x.2.1) := by decide +kernel
theorem kn_cls (hts : ∀ w ∈ lw_tbl, w.before sargs s = true) : ∃ D : va_G, ∀ (k : Nat) (q : vw_C), vwCl[k]? = some q → u_Kn s q.1 q.2.1 q.2.2 (D.1 k) (D.2 k) := by
  have h : ∀ a, ∃ q : ClassId × (Nat → Nat), a ≤ 10 → u_Kn s (clsN a) (TT a) (nF a) q.1 q.2 := by
    intro a
    by_cases ha : a ≤ 10
    · obtain ⟨c, i, h⟩ := u_known (C := clsN a) (T := TT a) (N := nF a) (n := nF a) hts (fun w hw => (List.mem_filter.mp (layW a ha w hw)).1) (hts _ (List.mem_filter.mp (clsW a (by omega)).1).1)
      exact ⟨(c, i), fun _ => h⟩
    · exact ⟨(0, fun _ => 0), fun h => absurd h ha⟩
  obtain ⟨q, hq⟩ := Classical.axiomOfChoice h
  refine ⟨(fun a => (q a).1, fun a => (q a).2), fun k r hr => ?_⟩
  have hk : k ≤ 10 := by
    have := (List.getElem?_eq_some_iff.mp hr).1
    simp only [List.length_cons, List.length_nil] at this
    omega
  rw [vwCl_at k hk] at hr
  cases hr
  exact hq k hk
theorem kn_arr {ty : FieldType} (h : (Jvm.Cond.arrayClass ty).before sargs s = true) : ∃ cA, ArrOfT s cA ty ∧ s.vm.findClass ("[" ++ ty.toString) = some cA := by
  obtain ⟨c, k, comp, h1, h2, h3⟩ := Cond.arrayClass_spec h
  exact ⟨c, fun n z => ⟨(fun k h => by cases h), k, h2, comp, h3⟩, h1⟩
theorem kn_ref (h : (Jvm.Cond.arrayOver (.object RX3)).before sargs s = true) : ∃ cA, ArrOfT s cA (.object RX3) ∧ va_RA s cA (.object RX3) := by
  obtain ⟨comp, c, k, h1, -, h3, h4, h5⟩ := Cond.arrayOver_spec h
  exact ⟨c, fun n z => ⟨(fun k h => by cases h), k, h3, comp, h4⟩, k, comp, h3, h4, h1, h5⟩
theorem kn_str (hnr : ∀ w ∈ nrw, w.before sargs s = true) (hts : ∀ w ∈ lw_tbl, w.before sargs s = true) (hB : s.heap.size ≤ B) : ∃ adK adV : Nat → Nat, vk_S 5 txL txB adK adV (ab B) s s.heap ∧ ∀ x ∈ lnkL, vk_R (clsN x.1) x.2.1 (txS x.2.2) (adK x.2.2) s := by
  have hA : ∀ a : Nat, a < s.heap.size → ¬ ab B a := fun a ha h => by
    have : B ≤ a := h
    omega
  obtain ⟨adK, adV, h1, h2⟩ := vk_Sof (args := sargs) (s := s) (N := 5) (tm := tmS) (len := txL) (byt := txB) (A := ab B) (by decide) (fun i hi => hnr _ (nr_ex i hi)) (fun i hi => hnr _ (nr_co i hi)) (fun i hi => hnr _ (nr_ar i hi)) (fun i hi => hnr _ (nr_le i hi)) (fun i hi j hj => hnr _ (nr_el i hi j hj)) (fun i j hi hj hij => (nr_ne i hi j hj hij).imp (fun h => hnr _ h) (fun h => hnr _ h)) hA
  refine ⟨adK, adV, h1, fun x hx => ?_⟩
  have h5 := lnkL_lt x hx
  have hw : (Jvm.Cond.stringRef (clsN x.1) x.2.1 (txS x.2.2)).before sargs s = true := hts _ (List.mem_append_right _ (lnkL_ok x hx))
  have e1 := h2 x.2.2 h5
  refine vk_R.of hw ?_
  rcases lnkL_own x hx with ⟨c1, c2⟩ | ⟨c1, c2⟩
  · rw [c2] at e1
    rw [c1]
    exact e1
  · have e2 := va_eqR (hnr _ (nr_eq x.2.2 h5)) e1
    rw [c2] at e2
    rw [c1]
    exact e2
theorem kn_msg (hnr : ∀ w ∈ nrw, w.before sargs s = true) (hts : ∀ w ∈ lw_tbl, w.before sargs s = true) : ∃ adM : Nat → Nat, ∀ x ∈ thrL, vk_R RX9 x.2.2.2.1 (msgS x.2.2.2.2.2.2) (adM x.2.2.2.2.2.2) s := by
  have h : ∀ t, ∃ a : Nat, ∀ x ∈ thrL, x.2.2.2.2.2.2 = t → vk_R RX9 x.2.2.2.1 (msgS x.2.2.2.2.2.2) a s := by
    intro t
    by_cases ht : ∃ x ∈ thrL, x.2.2.2.2.2.2 = t
    · obtain ⟨x, hx, rfl⟩ := ht
      obtain ⟨w1, w2⟩ := nr_ms x hx
      obtain ⟨a, c, cA, kA, q1, -⟩ := Cond.exactly_spec (args := sargs) (first := s) (o := none) (s := s) (idx := []) (hnr _ w1)
      refine ⟨a, fun y hy e => ?_⟩
      have he : y = x := by
        have key : (thrL.all (fun x => thrL.all (fun y => !(decide (y.2.2.2.2.2.2 = x.2.2.2.2.2.2)) || decide (y = x)))) = true := by decide +kernel
        have k1 := List.all_eq_true.mp (List.all_eq_true.mp key x hx) y hy
        simp only [Bool.or_eq_true, Bool.not_eq_true', decide_eq_true_eq, decide_eq_false_iff_not] at k1
        exact k1.resolve_left (fun h => h e)
      subst he
      exact vk_R.of (hts _ w2) q1
    · exact ⟨0, fun x hx e => absurd ⟨x, hx, e⟩ ht⟩
  obtain ⟨adM, hM⟩ := Classical.axiomOfChoice h
  exact ⟨adM, fun x hx => hM _ x hx rfl⟩
theorem lw_known (hts : ∀ w ∈ lw_tbl, w.before sargs s = true) (hnr : ∀ w ∈ nrw, w.before sargs s = true) (hB : s.heap.size ≤ B) : ∃ (D : va_G) (G : GG) (L : GL) (adK adV adM : Nat → Nat), LwV B D G L adK adV adM s ∧ KC D G s := by
  have hA : ∀ a : Nat, a < s.heap.size → ¬ ab B a := fun a ha h => by
    have : B ≤ a := h
    omega
  obtain ⟨D, hD⟩ := kn_cls hts
  obtain ⟨a1, b1, f1⟩ := kn_arr (hts _ (stW_at 7 rfl))
  obtain ⟨a2, b2, f2⟩ := kn_arr (hts _ (stW_at 8 rfl))
  obtain ⟨a3, b3, f3⟩ := kn_arr (hts _ (stW_at 9 rfl))
  obtain ⟨a4, b4, f4⟩ := kn_arr (hts _ (stW_at 10 rfl))
  obtain ⟨a5, b5, f5⟩ := kn_ref (hts _ (stW_at 11 rfl))
  obtain ⟨adK, adV, k1, k2⟩ := kn_str hnr hts hB
  obtain ⟨adM, k3⟩ := kn_msg hnr hts
  obtain ⟨n1, n2, n3, n4⟩ := nr_st
  have hK : va_K D vwCl [(a1, .int), (a2, .boolean), (a5, .object RX3), (a3, .long), (a4, .double)] s := ⟨hD, fun k q hk => by
    match k, hk with
    | 0, hk => cases hk; exact ⟨b1, f1⟩
    | 1, hk => cases hk; exact ⟨b2, f2⟩
    | 2, hk => cases hk; exact ⟨b5, f5⟩
    | 3, hk => cases hk; exact ⟨b3, f3⟩
    | 4, hk => cases hk; exact ⟨b4, f4⟩
    | k + 5, hk => simp at hk⟩
  have tb : ∀ w ∈ tables_1, w.before sargs s = true := fun w hw => hts _ (List.mem_append_right _ hw)
  refine ⟨D, (a1, a2, a5), (a3, a4), adK, adV, adM, ⟨hK, fun x hx => va_Nw.of (tnN.1 x hx) (tb _ (lnkFN_ok x hx)), fun x hx => va_Nw.of (tnN.2.1 x hx) (tb _ (lnkMN_ok x hx)), k1, k2, ?_, ?_, fun w hw => va_Nw.of (nwX_tab w hw) (tb _ (nwX_in w hw)), ?_, ?_, k3, fun i j h1 h2 h3 h4 ne => va_Nc.of (hnr _ (nr_nc i (by omega) j (by omega) ⟨h1, h3, ne⟩))⟩, hK.sub [0, 1, 2] rfl, fun w hw => va_Nw.of (tnN.2.2 w hw) (tb _ (nwC_in w hw)), va_AO.of (hts _ (stW_at 11 rfl))⟩
  · exact va_Zof (hts _ (stW_at 0 rfl)) (hts _ (stW_at 1 rfl)) (va_eqt (hnr _ n1)) hA
  · exact va_Zqof (hts _ (stW_at 2 rfl)) (hts _ (stW_at 3 rfl)) (hnr _ n2) hA
  · exact vx_Zqof (hts _ (stW_at 4 rfl)) (hts _ (stW_at 6 rfl)) (hnr _ n3) hA
  · exact vx_Zqof (hts _ (stW_at 5 rfl)) (hts _ (stW_at 6 rfl)) (hnr _ n4) hA
end LKN
