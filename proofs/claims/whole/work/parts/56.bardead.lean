/-! ===== a line with a bar, once an error is found ===== -/
section
variable {β n : Nat} {a b hc hm : HP}
theorem ded_75 (hD : Ded hc hm) (hP : FrP β a hc) (x : Int32) : ∃ c', fX5_takeBar_75 x hc = some c' ∧ FrP (β + 1) a c' ∧ Ded c' hm := by
  obtain ⟨f1, f2, f3, bb, f4, f5⟩ := hP
  have P1 : ∀ (h : HP) (w : Nat) (i y : Int32) (r : RF), r ≠ (11, w, 1) → PUt h w 1 i y r = h r := fun h w i y r hr => PUt_o hr
  have e5 : (PUt (PUt hc 5 1 (hc (0, 0, 1) 5) x) 6 1 (hc (0, 0, 1) 5) (hc (5, 0, 0) 6)) (0, 0, 1) 5 = nI bb := by
    rw [P1 _ _ _ _ _ (by decide), P1 _ _ _ _ _ (by decide)]; exact f5
  have ev : fX5_takeBar_75 x hc = some (up (PUt (PUt hc 5 1 (hc (0, 0, 1) 5) x) 6 1 (hc (0, 0, 1) 5) (hc (5, 0, 0) 6)) (0, 0, 1) 5 (nI (bb + 1))) := by
    have tn0 : fX5_takeNumber 0 180 hc = some (hc (5, 0, 0) 6, hc) := by
      simp only [fX5_takeNumber]
      rw [ded_num hD, Option.bind_some, ded_tok hD, Option.bind_some]
    refine (bd1 (ded_tok hD)).trans ((bd1 tn0).trans ?_)
    show (fX0_add 1 x (hc (5, 0, 0) 6) hc).bind (fun hp8 => some hp8) = _
    simp only [fX0_add]
    rw [put_eq, Option.bind_some, put_eq, Option.bind_some, P1 _ 5 _ _ (0, 0, 1) (by decide), e5, Option.bind_some, nI_succ]
  refine ⟨_, ev, ⟨fun r h1 h2 => ?_, ?_, ?_, bb + 1, by omega, up_s⟩, ?_⟩
  · rw [up_n (fun e => h1 (by rw [e]; unfold ofm; simp)), P1 _ _ _ _ _ (fun e => h1 (by rw [e]; unfold ofm; simp)), P1 _ _ _ _ _ (fun e => h1 (by rw [e]; unfold ofm; simp))]; exact f1 r h1 h2
  · rw [up_n (by decide), P1 _ _ _ _ _ (by decide), P1 _ _ _ _ _ (by decide)]; exact f2
  · rw [up_n (by decide), P1 _ _ _ _ _ (by decide), P1 _ _ _ _ _ (by decide)]; exact f3
  · obtain ⟨c, c1, c2, c3, c4, c5⟩ := hD
    refine ⟨c, c1, c2, ?_, c4, ?_⟩
    · rw [up_n (by decide), P1 _ _ _ _ _ (by decide), P1 _ _ _ _ _ (by decide)]; exact c3
    · rw [up_n (by decide), P1 _ _ _ _ _ (by decide), P1 _ _ _ _ _ (by decide)]; exact c5
theorem ded_30 (hβ : β < 100) (hD : Ded hc hm) (hP : FrP β a hc) (y : Int32) : ∃ c', fX5_takeBar_30 y hc = some c' ∧ FrP (β + 1) a c' ∧ Ded c' hm := by
  obtain ⟨bb, f4, f5⟩ := hP.2.2.2
  obtain ⟨x, hx⟩ := wl_any f5 (by omega) (RAt hc 10 0 (hc (5, 0, 0) 5))
  obtain ⟨c', e1, e2, e3⟩ := ded_75 hD hP (RAt hc 10 0 (hc (5, 0, 0) 5))
  refine ⟨c', ?_, e2, e3⟩
  simp only [fX5_takeBar_30]
  rw [at_eq, Option.bind_some, hx, Option.bind_some, ded_fail hD, ded_fail hD, Option.bind_some, e1]
  split
  · rfl
  · split <;> rfl
theorem ded_bar (hβ : β < 100) (hD : Ded hc hm) (hP : FrP β a hc) : ∃ c', fX5_takeBar hc = some c' ∧ FrP (β + 1) a c' ∧ Ded c' hm := by
  obtain ⟨c1, a1, a2, a3⟩ := ded_30 hβ hD hP 1
  obtain ⟨c0', b1, b2, b3⟩ := ded_30 hβ hD hP 0
  have e : fX5_takeBar hc = (if (hc (5, 0, 0) 4) = 1 then (if ((hc (5, 0, 0) 3) - (hc (5, 0, 0) 5)) = 1 then (fX5_takeBar_30 1 hc) else (fX5_takeBar_29 hc)) else (fX5_takeBar_29 hc)) := bd1 (ded_tok hD)
  rw [e]
  simp only [fX5_takeBar_29]
  rw [a1, b1]
  split
  · split
    · exact ⟨c1, rfl, a2, a3⟩
    · exact ⟨c0', rfl, b2, b3⟩
  · exact ⟨c0', rfl, b2, b3⟩
theorem ded_85 (hD : Ded hc hm) (v : Int32) : fX10_barLine_85 v 0 hm = some hm := by
  obtain ⟨k, k1, k2, _, k3, _⟩ := id hD
  have t0 : fX10_takes 0 180 hm = some (0, hm) := by
    simp only [fX10_takes]
    rw [ded_looks hD, Option.bind_some, ded_goes hD, Option.bind_some]
  refine (bd1 (ded_if hD _ _)).trans ((bd1 (ded_goes hD)).trans ((bd1 t0).trans ?_))
  show (if (hm (10, 0, 0) 19) = 0 then _ else (some hm)) = some hm
  rw [k3, if_neg (n_z k1 k2)]
theorem ded_38 (hD : Ded hc hm) (y : Int32) : fX10_barLine_38 y hm = some hm := by
  obtain ⟨k, k1, k2, _, k3, _⟩ := id hD
  refine (bd1 (ded_if hD _ _)).trans ?_
  show (if (hm (10, 0, 0) 19) = 0 then _ else (fX10_barLine_62 97 hm)) = some hm
  rw [k3, if_neg (n_z k1 k2)]
  show (if (hm (10, 0, 0) 19) = 0 then _ else (fX10_barLine_84 97 hm)) = some hm
  rw [k3, if_neg (n_z k1 k2)]
  exact ded_85 hD 97
end
