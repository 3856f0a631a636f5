/-! ===== a line with a bar ===== -/
section
variable {β n : Nat} {a b hc hm : HP}
theorem bar_p (hb : Bas n a b) (hβ : β < 100) (h : PRx β n a b (Xk 12) hc hm) : ∃ c' m', fX5_takeBar hc = some c' ∧ fX10_barLine hm = some m' ∧ PRx (β + 1) n a b (Xk 12) c' m' := by
  obtain ⟨hP, hQ, hD | hL⟩ := h
  · obtain ⟨c', e, p, d⟩ := ded_bar hβ hD hP
    refine ⟨c', hm, e, (bd1 (ded_goes hD)).trans ?_, p, hQ, Or.inl d⟩
    obtain ⟨k, k1, k2, _, k3, _⟩ := id hD
    show (if (hm (10, 0, 0) 19) = 0 then _ else (fX10_barLine_37 hm)) = some hm
    rw [k3, if_neg (n_z k1 k2)]
    exact ded_38 hD 0
  · obtain ⟨h1, h2, e1, e2, p1, p2, p3⟩ := rt_live hb (Xk_iv 12) hP hQ hL
    have eg : fX10_goesOn hm = some h2 := by
      simp only [fX10_goesOn]
      rw [hL.2.2.1, if_pos rfl, e2, Option.bind_some]
    obtain ⟨t1, t2, pos, st, kd, t3, t4, t5, t6, t7, t8, t9, t10, _⟩ := id p3.1
    have cs : fX5_takeBar hc = (if nI kd = 1 then (if nI pos - nI st = 1 then (fX5_takeBar_30 1 h1) else (fX5_takeBar_30 0 h1)) else (fX5_takeBar_30 0 h1)) := by
      refine (bd1 e1).trans ?_
      show (if (h1 (5, 0, 0) 4) = 1 then (if ((h1 (5, 0, 0) 3) - (h1 (5, 0, 0) 5)) = 1 then (fX5_takeBar_30 1 h1) else (fX5_takeBar_30 0 h1)) else (fX5_takeBar_30 0 h1)) = _
      rw [t9, t3, t5]
    have ms : fX10_barLine hm = (if nI kd = 1 then (if nI pos - nI st = 1 then (fX10_barLine_38 0 h2) else (fX10_barLine_38 1 h2)) else (fX10_barLine_38 1 h2)) := by
      refine (bd1 eg).trans ?_
      show (if (h2 (10, 0, 0) 19) = 0 then (if (h2 (10, 0, 0) 17) = 1 then (if ((h2 (10, 0, 0) 15) - (h2 (10, 0, 0) 16)) = 1 then (fX10_barLine_38 0 h2) else (fX10_barLine_38 1 h2)) else (fX10_barLine_38 1 h2)) else (fX10_barLine_38 0 h2)) = _
      rw [p3.2.2.1, if_pos rfl, t10, t4, t6]
    have no : ∃ c' m', fX5_takeBar_30 0 h1 = some c' ∧ fX10_barLine_38 1 h2 = some m' ∧ PRx (β + 1) n a b (Xk 12) c' m' := by
      obtain ⟨c', m', r1, r2, r3, r4, r5⟩ := bar_no p1 p2 p3
      exact ⟨c', m', r1, r2, r3, r4, Or.inl r5⟩
    rw [cs, ms]
    by_cases q1 : nI kd = 1
    · rw [if_pos q1, if_pos q1]
      by_cases q2 : nI pos - nI st = 1
      · rw [if_pos q2, if_pos q2]
        obtain ⟨v, x, v1, v2, r1, r2, r3⟩ := bar_look hb p1 p2 p3 (by rw [t9]; exact q1)
        rw [r1, r2]
        by_cases z : x = m1
        · rw [if_pos z, if_pos z]
          exact bar_free hb p1 p2 p3 v1 v2 (r3 z)
        · rw [if_neg z, if_neg z]
          obtain ⟨c', m', s1, s2, s3, s4, s5⟩ := bar_taken p1 p2 p3 v
          exact ⟨c', m', s1, s2, s3, s4, Or.inl s5⟩
      · rw [if_neg q2, if_neg q2]; exact no
    · rw [if_neg q1, if_neg q1]; exact no
end
