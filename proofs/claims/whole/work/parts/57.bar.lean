/-! ===== a line with a bar: an error in it ===== -/
section
variable {β n : Nat} {a b hc hm : HP} {X : HP → HP → Prop}
theorem ded_add (hD : Ded hc hm) (hP : FrP β a hc) (x y : Int32) : ∃ c', fX0_add 1 x y hc = some c' ∧ FrP (β + 1) a c' ∧ Ded c' hm := by
  obtain ⟨f1, f2, f3, bb, f4, f5⟩ := hP
  have P1 : ∀ (h : HP) (w : Nat) (i y : Int32) (r : RF), r ≠ (11, w, 1) → PUt h w 1 i y r = h r := fun h w i y r hr => PUt_o hr
  have e5 : (PUt (PUt hc 5 1 (hc (0, 0, 1) 5) x) 6 1 (hc (0, 0, 1) 5) y) (0, 0, 1) 5 = nI bb := by
    rw [P1 _ _ _ _ _ (by decide), P1 _ _ _ _ _ (by decide)]; exact f5
  have ev : fX0_add 1 x y hc = some (up (PUt (PUt hc 5 1 (hc (0, 0, 1) 5) x) 6 1 (hc (0, 0, 1) 5) y) (0, 0, 1) 5 (nI (bb + 1))) := by
    simp only [fX0_add]
    rw [put_eq, Option.bind_some, put_eq, Option.bind_some, P1 _ 5 _ _ (0, 0, 1) (by decide), e5, nI_succ]
  refine ⟨_, ev, ⟨fun r h1 h2 => ?_, ?_, ?_, bb + 1, by omega, up_s⟩, ?_⟩
  · rw [up_n (fun e => h1 (by rw [e]; unfold ofm; simp)), P1 _ _ _ _ _ (fun e => h1 (by rw [e]; unfold ofm; simp)), P1 _ _ _ _ _ (fun e => h1 (by rw [e]; unfold ofm; simp))]; exact f1 r h1 h2
  · rw [up_n (by decide), P1 _ _ _ _ _ (by decide), P1 _ _ _ _ _ (by decide)]; exact f2
  · rw [up_n (by decide), P1 _ _ _ _ _ (by decide), P1 _ _ _ _ _ (by decide)]; exact f3
  · obtain ⟨c, c1, c2, c3, c4, c5⟩ := hD
    refine ⟨c, c1, c2, ?_, c4, ?_⟩
    · rw [up_n (by decide), P1 _ _ _ _ _ (by decide), P1 _ _ _ _ _ (by decide)]; exact c3
    · rw [up_n (by decide), P1 _ _ _ _ _ (by decide), P1 _ _ _ _ _ (by decide)]; exact c5
/-- no letter stands there -/
theorem bar_no (hP : FrP β a hc) (hQ : FrQ b hm) (hL : Liv n a X hc hm) : ∃ c' m', fX5_takeBar_30 0 hc = some c' ∧ fX10_barLine_38 1 hm = some m' ∧ FrP (β + 1) a c' ∧ FrQ b m' ∧ Ded c' m' := by
  obtain ⟨h1, h2, e1, e2, p1, p2, p3, _⟩ := fail_live (c := 1) (by omega) (by omega) hP hQ hL
  obtain ⟨c', q1, q2, q3⟩ := ded_75 p3 p1 (RAt hc 10 0 (hc (5, 0, 0) 5))
  refine ⟨c', h2, ?_, ?_, q2, p2, q3⟩
  · simp only [fX5_takeBar_30]
    rw [at_eq, Option.bind_some, if_pos trivial, show fX5_fail 1 hc = some h1 from e1, Option.bind_some]; exact q1
  · have f : fX10_failsIf 1 1 hm = some h2 := by
      simp only [fX10_failsIf]
      rw [if_neg n10, show fX10_fails 1 hm = some h2 from e2, Option.bind_some]
    exact (bd1 f).trans ((bd1 (ded_if p3 0 1)).symm.trans (ded_38 p3 0))
end
