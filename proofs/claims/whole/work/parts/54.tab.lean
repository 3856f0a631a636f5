/-! ===== a line with a tab ===== -/
section
variable {β n : Nat} {a b hc hm : HP}
theorem PUt_F (h : FrP β a hc) (x y : Int32) : FrP β a (PUt hc 4 1 x y) := by
  unfold PUt
  split
  · exact FrP_up (by omega) h
  · exact h
theorem Ded_PUt (h : Ded hc hm) (x y : Int32) : Ded (PUt hc 4 1 x y) hm := by
  obtain ⟨c, c1, c2, c3, c4, c5⟩ := h
  have e : PUt hc 4 1 x y (5, 0, 0) = hc (5, 0, 0) := PUt_o (by decide)
  exact ⟨c, c1, c2, by rw [e]; exact c3, c4, by rw [e]; exact c5⟩
theorem ded_46 (h : Ded hc hm) (x : Int32) : fX5_takeTab_46 x hc = some (PUt hc 4 1 x 1) := by
  simp only [fX5_takeTab_46]
  rw [ded_tok h, Option.bind_some, put_eq, Option.bind_some]
theorem ded_tab (h : Ded hc hm) (x : Int32) : ((fX1_stopsAt 1 x hc).bind fun v14 => if v14 = 0 then (fX5_takeTab_46 x hc) else ((fX5_fail 3 hc).bind fun hp17 => fX5_takeTab_46 x hp17)) = some (PUt hc 4 1 x 1) := by
  simp only [fX1_stopsAt]
  rw [at_eq, Option.bind_some, ded_fail h, Option.bind_some, ded_46 h]
  split
  · rw [Option.bind_some, if_pos rfl]
  · rw [Option.bind_some, if_neg n10]
theorem tab_p (hb : Bas n a b) (h : PRx β n a b (Xk 12) hc hm) : ∃ hc' hm', fX5_takeTab hc = some hc' ∧ fX10_tabLine hm = some hm' ∧ PRx β n a b (Xk 12) hc' hm' := by
  obtain ⟨h1, h2, e1, e2, p1, p2, p3⟩ := rt_p hb (Xk_iv 12) h
  have e0 : fX7_at 0 1 0 h1 = some (h1 (11, 0, 1) 0) := at_n (show 0 < wlen 0 by decide)
  have i0 : fX10_its 0 h2 = some (h2 (11, 22, 0) 9) := its_g (j := 0) (by omega)
  -- a reader that has failed
  have dead : ∀ (c m : HP) (y x : Int32), Ded c m → FrP β a c → FrQ b m → fX5_requireNumber 0 (h1 (11, 0, 1) 0 - 1) h1 = some c → fX10_looks 0 (h2 (11, 22, 0) 9 - 1) h2 = some (y, m) → ∃ hc' hm', fX5_takeTab hc = some hc' ∧ fX10_tabLine hm = some hm' ∧ PRx β n a b (Xk 12) hc' hm' := by
    intro c m y x hD q1 q2 g1 g2
    refine ⟨PUt c 4 1 (c (5, 0, 0) 6) 1, m, ?_, ?_, PUt_F q1 _ _, q2, Or.inl (Ded_PUt hD _ _)⟩
    · refine (bd1 e1).trans ((bd1 e0).trans ((bd1 g1).trans (ded_tab hD _)))
    · refine (bd1 e2).trans ((bd1 i0).trans ((bd1 g2).trans ?_))
      obtain ⟨k, k1, k2, _, k3, _⟩ := id hD
      show (if (m (10, 0, 0) 19) = 0 then _ else (fX10_tabLine_42 y m)) = some m
      rw [k3, if_neg (n_z k1 k2)]
      simp only [fX10_tabLine_42, fX10_tabLine_43, fX10_tabLine_64]
      rw [ded_if hD, Option.bind_some, k3, if_neg (n_z k1 k2), ded_goes hD, Option.bind_some]
  rcases p3 with hD | hL
  · exact dead h1 h2 _ 0 hD p1 p2 (ded_num hD _ _) (ded_looks hD _ _)
  · have hx := hL.2.2.2.2
    have hw : isN (h2 (11, 22, 0) 9) ∧ 10 ≤ tn (h2 (11, 22, 0) 9) ∧ tn (h2 (11, 22, 0) 9) ≤ 40 := hx.2.2.2.2 0 (by omega)
    have ew : h1 (11, 0, 1) 0 = h2 (11, 22, 0) 9 := hx.1 0 (by omega)
    obtain ⟨c, m, y, g1, g2, q1, q2, hD | ⟨rfl, rfl, v, v1, v2, rfl, v4, v5⟩⟩ := look_p p1 p2 hL 0 (h2 (11, 22, 0) 9 - 1)
    · exact dead c m y 0 hD q1 q2 (by rw [ew]; exact g1) g2
    · have hv : v < tn (m (11, 22, 0) 9) := by
        rw [show m (11, 22, 0) 9 = nI (tn (m (11, 22, 0) 9)) from hw.1, show (1 : Int32) = nI 1 from rfl, n_sub (by omega), n_lt (by omega) (by omega)] at v5
        omega
      have es : fX1_stopsAt 1 (nI v) c = some (if m (11, 22, 0) (90 + v) = 0 then 0 else 1) := by
        simp only [fX1_stopsAt]
        rw [at_n (show v < wlen 4 by show v < 40; omega), Option.bind_some, (hx.2.2.1 v (by omega)).1]
        split <;> rfl
      have i90 : (90 : Int32) + nI v = nI (90 + v) := n_add 90 v
      have b90 : inb (nI (90 + v)) (alen (11, 22, 0)) = true := inb_n (show 90 + v < 1150 by omega) (by decide)
      have cs : fX5_takeTab hc = (if (if m (11, 22, 0) (90 + v) = 0 then (0 : Int32) else 1) = 0 then (fX5_takeTab_46 (nI v) c) else ((fX5_fail 3 c).bind fun hp17 => fX5_takeTab_46 (nI v) hp17)) := by
        refine (bd1 e1).trans ((bd1 e0).trans ((bd1 (by rw [ew]; exact g1)).trans ?_))
        show (fX1_stopsAt 1 (c (5, 0, 0) 6) c).bind (fun v14 => if v14 = 0 then (fX5_takeTab_46 (c (5, 0, 0) 6) c) else ((fX5_fail 3 c).bind fun hp17 => fX5_takeTab_46 (c (5, 0, 0) 6) hp17)) = _
        rw [v2, es, Option.bind_some]
      have ms : fX10_tabLine hm = (if m (11, 22, 0) (90 + v) = 1 then (fX10_tabLine_43 (nI v) 1 m) else (fX10_tabLine_42 (nI v) m)) := by
        refine (bd1 e2).trans ((bd1 i0).trans ((bd1 g2).trans ?_))
        show (if (m (10, 0, 0) 19) = 0 then (if inb (90 + nI v) (alen (11, 22, 0)) = true then (if (m (11, 22, 0) (90 + nI v).toNatClampNeg) = 1 then (fX10_tabLine_43 (nI v) 1 m) else (fX10_tabLine_42 (nI v) m)) else none) else (fX10_tabLine_42 (nI v) m)) = _
        rw [hL.2.2.1, if_pos rfl, i90, if_pos b90, n_c (by omega)]
      rw [cs, ms]
      rcases (hx.2.2.1 v (by omega)).2 with z | z
      · -- the stop is free
        rw [z, if_pos rfl, if_pos rfl, if_neg (show ¬ (0 : Int32) = 1 by decide)]
        have hL' : Liv n a (fun c m => Xk 12 (up c (11, 4, 1) v 1) m) c (up m (11, 22, 0) (90 + v) 1) := by
          obtain ⟨l1, l2, l3, l4, x1, x2, x3, ⟨nb, x4⟩, x5⟩ := hL
          refine ⟨by rw [up_n (by decide)]; exact l1, l2, by rw [up_n (by decide)]; exact l3, l4, ?_, ?_, ?_, ⟨nb, barp_c x4 (up_n (by decide)) (by rw [up_n (by decide)]) (up_n (by decide)) (up_n (by decide)) (up_n (by decide)) (up_n (by decide)) (up_n (by decide)) (up_n (by decide)) (fun j _ _ => by rw [up_o (fun z => by have := z.2; omega)])⟩, ?_⟩
          · intro j hj
            rw [up_n (by decide), up_o (fun z => by have := z.2; omega)]; exact x1 j hj
          · intro j j1 j2 j3
            rw [up_o (fun z => by have := z.2; omega)]; exact x2 j j1 j2 j3
          · intro j hj
            by_cases e : j = v
            · rw [e, up_s, up_s]; exact ⟨rfl, Or.inr rfl⟩
            · rw [up_o (fun z => e z.2), up_o (fun z => by have := z.2; omega)]; exact x3 j hj
          · intro j hj
            rw [up_e]
            exact stgB_c j (fun i hi => uT_n (by omega)) (x5 j hj)
        have hX' : XIv (fun c m => Xk 12 (up c (11, 4, 1) v 1) m) := by
          intro c1 m1' c2 m2 f1 f2 f3 hx'
          refine Xk_iv 12 _ _ _ _ (fun r hr => ?_) f2 f3 hx'
          funext j
          unfold up
          rw [f1 r hr]
        obtain ⟨h3, h4, e3, e4, r1, r2, r3⟩ := rt_live hb hX' q1 (FrQ_up (Or.inr (Or.inr rfl)) q2) hL'
        refine ⟨up h3 (11, 4, 1) v 1, h4, ?_, ?_, FrP_up (by omega) r1, r2, Or.inr ?_⟩
        · simp only [fX5_takeTab_46]
          rw [e3, Option.bind_some, put_n (show v < wlen 4 by show v < 40; omega), Option.bind_some]
        · simp only [fX10_tabLine_42, fX10_tabLine_43, fX10_tabLine_64, fX10_failsIf, fX10_goesOn]
          rw [if_pos trivial, Option.bind_some, hL.2.2.1, if_pos rfl, i90, if_pos b90, n_c (by omega), up_n (by decide), hL.2.2.1, if_pos rfl, e4, Option.bind_some, Option.bind_some]
        · obtain ⟨l1, l2, l3, l4, l5⟩ := r3
          exact ⟨by rw [up_n (by decide)]; exact l1, by rw [up_n (by decide)]; exact l2, l3, by rw [up_n (by decide)]; exact l4, l5⟩
      · -- the stop is taken
        rw [z, if_neg (show ¬ (1 : Int32) = 0 by decide), if_neg n10, if_pos rfl]
        obtain ⟨h3, h4, e3, e4, r1, r2, r3, _⟩ := fail_live (c := 3) (by omega) (by omega) q1 q2 hL
        obtain ⟨k, k1, k2, _, k3, _⟩ := id r3
        refine ⟨PUt h3 4 1 (nI v) 1, h4, ?_, ?_, PUt_F r1 _ _, r2, Or.inl (Ded_PUt r3 _ _)⟩
        · rw [show fX5_fail 3 c = some h3 from e3, Option.bind_some, ded_46 r3]
        · simp only [fX10_tabLine_43, fX10_tabLine_64, fX10_failsIf]
          rw [if_neg n10, show fX10_fails 3 m = some h4 from e4, Option.bind_some, Option.bind_some, k3, if_neg (n_z k1 k2), ded_goes r3, Option.bind_some]
end
