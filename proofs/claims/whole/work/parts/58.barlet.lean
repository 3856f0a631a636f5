/-! ===== a line with a bar: its letter ===== -/
section
variable {β n : Nat} {a b hc hm : HP}
/-- the letter is looked up on both sides -/
theorem bar_look (hb : Bas n a b) (hP : FrP β a hc) (hQ : FrQ b hm) (hL : Liv n a (Xk 12) hc hm) (hk : hc (5, 0, 0) 4 = 1) : ∃ v x, 97 ≤ v ∧ v ≤ 122 ∧ fX5_takeBar_30 1 hc = (if x = m1 then (fX5_takeBar_75 (nI v) hc) else ((fX5_fail 3 hc).bind fun hp13 => fX5_takeBar_75 (nI v) hp13)) ∧ fX10_barLine_38 0 hm = (if x = m1 then (fX10_barLine_84 (nI v) hm) else (fX10_barLine_85 (nI v) 1 hm)) ∧ (x = m1 → ∀ nb, (∀ i, barp nb hc hm i) → ∀ i, i < nb → hm (11, 20, 0) i ≠ nI v) := by
  have hn := hb.1
  obtain ⟨t1, t2, pos, st, kd, t3, t4, t5, t6, t7, t8, t9, t10, t11, _, t12, _⟩ := id hL.1
  have hkd : kd = 1 := by
    rw [t9] at hk
    exact (n_eq (b := 1) (by omega) (by omega)).mp hk
  obtain ⟨s1, s2⟩ := t12 hkd
  obtain ⟨v1, v2, v3⟩ := sm_v s2
  obtain ⟨nb, hbar⟩ := hL.2.2.2.2.2.2.2.1
  have eB : hc (11, 10, 0) = a (11, 10, 0) := hP.1 _ (by unfold ofm; simp) (by decide)
  have eY : hm (11, 25, 0) = b (11, 25, 0) := hQ.1 _ (by decide) (by decide) (by decide) (by decide)
  obtain ⟨x, x1, x2, x3⟩ := wl_both hbar v2 v3
  have ec : fX7_at 10 0 (hc (5, 0, 0) 5) hc = some (nI (tn (a (11, 10, 0) st))) := by
    rw [t5, at_n (show st < wlen 10 by show st < 500; omega), eB]; exact congrArg some v1
  have em : fX10_seen (hm (10, 0, 0) 16) hm = some (nI (tn (a (11, 10, 0) st))) := by
    have := seen_in (hm := hm) (n := n) (k := st) (G := hm (10, 0, 0)) hn t2 s1
    rw [rwr_id, eY, ← hb.2.1 st (by omega)] at this
    rw [t6, this]; exact congrArg some v1
  refine ⟨tn (a (11, 10, 0) st), x, v2, v3, ?_, ?_, fun z nb' hb' => ?_⟩
  · refine (bd1 ec).trans ?_
    show (if (1 : Int32) = 0 then _ else ((fX0_withLetter 1 (nI (tn (a (11, 10, 0) st))) hc).bind fun v10 => if v10 = m1 then (fX5_takeBar_75 (nI (tn (a (11, 10, 0) st))) hc) else ((fX5_fail 3 hc).bind fun hp13 => fX5_takeBar_75 (nI (tn (a (11, 10, 0) st))) hp13))) = _
    rw [if_neg n10, x1, Option.bind_some]
  · have f : fX10_failsIf 0 1 hm = some hm := by simp only [fX10_failsIf]; rw [if_pos trivial]
    refine (bd1 f).trans ?_
    show (if (hm (10, 0, 0) 19) = 0 then ((fX10_seen (hm (10, 0, 0) 16) hm).bind fun v13 => fX10_barLine_62 v13 hm) else _) = _
    rw [hL.2.2.1, if_pos rfl, em, Option.bind_some]
    show (if (hm (10, 0, 0) 19) = 0 then ((fX10_withLetter (nI (tn (a (11, 10, 0) st))) hm).bind fun v9 => if v9 = m1 then (fX10_barLine_84 (nI (tn (a (11, 10, 0) st))) hm) else (fX10_barLine_85 (nI (tn (a (11, 10, 0) st))) 1 hm)) else _) = _
    rw [hL.2.2.1, if_pos rfl, x2, Option.bind_some]
  · have e : nb' = nb := by
      have b1 : hc (0, 0, 1) 5 = nI nb := hbar 1
      have b2 : hc (0, 0, 1) 5 = nI nb' := hb' 1
      have b3 : nb ≤ 26 := hbar 0
      have b4 : nb' ≤ 26 := hb' 0
      rw [b1, n_eq (by omega) (by omega)] at b2
      exact b2.symm
    rw [e]; exact x3 z
/-- the letter is taken -/
theorem bar_taken (hP : FrP β a hc) (hQ : FrQ b hm) (hL : Liv n a (Xk 12) hc hm) (v : Nat) : ∃ c' m', ((fX5_fail 3 hc).bind fun hp13 => fX5_takeBar_75 (nI v) hp13) = some c' ∧ fX10_barLine_85 (nI v) 1 hm = some m' ∧ FrP (β + 1) a c' ∧ FrQ b m' ∧ Ded c' m' := by
  obtain ⟨h1, h2, e1, e2, p1, p2, p3, _⟩ := fail_live (c := 3) (by omega) (by omega) hP hQ hL
  obtain ⟨c', q1, q2, q3⟩ := ded_75 p3 p1 (nI v)
  refine ⟨c', h2, (bd1 (show fX5_fail 3 hc = some h1 from e1)).trans q1, ?_, q2, p2, q3⟩
  have f : fX10_failsIf 1 3 hm = some h2 := by
    simp only [fX10_failsIf]
    rw [if_neg n10, show fX10_fails 3 hm = some h2 from e2, Option.bind_some]
  exact (bd1 f).trans ((bd1 (ded_if p3 0 3)).symm.trans (ded_85 p3 (nI v)))
end
