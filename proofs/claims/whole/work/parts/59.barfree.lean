/-! ===== a line with a bar: a free letter ===== -/
section
variable {β n : Nat} {a b hc hm : HP}
theorem bar_free (hb : Bas n a b) (hP : FrP β a hc) (hQ : FrQ b hm) (hL : Liv n a (Xk 12) hc hm) {v : Nat} (hv : 97 ≤ v) (hv2 : v ≤ 122) (hfr : ∀ nb, (∀ i, barp nb hc hm i) → ∀ i, i < nb → hm (11, 20, 0) i ≠ nI v) : ∃ c' m', fX5_takeBar_75 (nI v) hc = some c' ∧ fX10_barLine_84 (nI v) hm = some m' ∧ PRx (β + 1) n a b (Xk 12) c' m' := by
  obtain ⟨nb, hbar⟩ := hL.2.2.2.2.2.2.2.1
  have hfree := hfr nb hbar
  have hX : XIv (fun c m => Xk 12 c m ∧ m (11, 20, 0) = hm (11, 20, 0) ∧ m (10, 0, 0) 2 = nI nb) := by
    intro c m c2 m2 e1 e2 e3 h
    exact ⟨Xk_iv 12 c m c2 m2 e1 e2 e3 h.1, (e2 _ (by decide)).trans h.2.1, e3.trans h.2.2⟩
  have hL' : Liv n a (fun c m => Xk 12 c m ∧ m (11, 20, 0) = hm (11, 20, 0) ∧ m (10, 0, 0) 2 = nI nb) hc hm := by
    obtain ⟨l1, l2, l3, l4, l5⟩ := hL
    exact ⟨l1, l2, l3, l4, l5, rfl, hbar 2⟩
  obtain ⟨h1, h2, e1, e2, p⟩ := rt_p hb hX (⟨hP, hQ, Or.inr hL'⟩ : PRx β n a b _ hc hm)
  obtain ⟨x, g, y, m, e3, e4, q1, q2, q3⟩ := num_p hb hX 0 180 0 180 p (fun _ => ⟨rfl, rfl⟩)
  have f : fX10_failsIf 0 3 hm = some hm := by simp only [fX10_failsIf]; rw [if_pos trivial]
  have cs : ∀ c', fX0_add 1 (nI v) x g = some c' → fX5_takeBar_75 (nI v) hc = some c' := fun c' h => (bd1 e1).trans ((bd1 e3).trans (bd1 h))
  have ms : fX10_barLine_84 (nI v) hm = (if (m (10, 0, 0) 19) = 0 then (if inb (m (10, 0, 0) 2) (alen (11, 20, 0)) = true then (fX10_barLine_119 y (up m (11, 20, 0) ((m (10, 0, 0) 2).toNatClampNeg) (nI v))) else none) else (some m)) := (bd1 f).trans ((bd1 e2).trans (bd1 e4))
  rcases q3 with hD | ⟨hG, w, w1, rfl, rfl, w4, w5⟩
  · obtain ⟨c', r1, r2, r3⟩ := ded_add hD q1 (nI v) x
    refine ⟨c', m, cs c' r1, ?_, r2, q2, Or.inl r3⟩
    obtain ⟨k, k1, k2, _, k3, _⟩ := id hD
    rw [ms, k3, if_neg (n_z k1 k2)]
  · obtain ⟨l1, l2, l3, l4, ⟨x1, x2, x3, ⟨nb', xb⟩, x5⟩, l6, l7⟩ := hG
    have hw180 : w ≤ 180 := by
      rw [show (180 : Int32) = nI 180 from rfl, n_lt (by omega) (by omega)] at w5; omega
    have b0 : nb' ≤ 26 := xb 0
    have b0' : nb ≤ 26 := hbar 0
    have b2 : m (10, 0, 0) 2 = nI nb' := xb 2
    have enb : nb' = nb := by rw [l7, n_eq (by omega) (by omega)] at b2; exact b2.symm
    subst enb
    have b1 : g (0, 0, 1) 5 = nI nb' := xb 1
    obtain ⟨r26, G, G1, G2⟩ := room_26 xb hv hv2 (by rw [l6]; exact hfree)
    obtain ⟨bb, bb1, bb2⟩ := q1.2.2.2
    have ebb : bb = nb' ∨ β ≥ nb' := by
      by_cases z : nb' ≤ β
      · exact Or.inr z
      · left
        rw [b1] at bb2
        by_cases z2 : bb < 2147483648
        · exact ((n_eq (by omega) z2).mp bb2).symm
        · omega
    have hcl : fX0_add 1 (nI v) (nI w) g = some (up (up (up g (11, 5, 1) nb' (nI v)) (11, 6, 1) nb' (nI w)) (0, 0, 1) 5 (nI (nb' + 1))) := by
      simp only [fX0_add]
      rw [b1, put_n (show nb' < wlen 5 by show nb' < 26; omega), Option.bind_some, up_n (by decide), b1, put_n (show nb' < wlen 6 by show nb' < 26; omega), Option.bind_some, up_n (by decide), up_n (by decide), b1, nI_succ]
    refine ⟨_, up (up (up (up m (11, 20, 0) nb' (nI v)) (11, 21, 0) nb' (nI w)) (11, 22, 0) (38 + 2 * nb') m1) (10, 0, 0) 2 (nI (nb' + 1)), cs _ hcl, ?_, ⟨fun r h1 h2 => ?_, ?_, ?_, nb' + 1, by omega, up_s⟩, ⟨fun r h1 h2 h3 h4 => ?_, fun k h1 h2 => ?_⟩, Or.inr ⟨?_, ?_, ?_, ?_, ?_, ?_, ?_, ⟨nb' + 1, ?_⟩, ?_⟩⟩
    · rw [ms, l3, if_pos rfl, b2, if_pos (inb_n (show nb' < alen (11, 20, 0) by show nb' < 26; omega) (by decide)), n_c (by omega)]
      simp only [fX10_barLine_119, fX10_barLine_129, fX10_barLine_146]
      have z1 : (38 + (2 * nI nb')) + 0 = nI (38 + 2 * nb') := by
        rw [show (2 : Int32) = nI 2 from rfl, show (38 : Int32) = nI 38 from rfl, show (0 : Int32) = nI 0 from rfl, n_mul, n_add, n_add, Nat.add_zero]
      rw [up_n (by decide), b2, if_pos (inb_n (show nb' < alen (11, 21, 0) by show nb' < 26; omega) (by decide)), n_c (by omega), up_n (by decide), up_n (by decide), b2, z1, if_pos (inb_n (show 38 + 2 * nb' < alen (11, 22, 0) by show 38 + 2 * nb' < 1150; omega) (by decide)), n_c (by omega), up_n (by decide), up_n (by decide), up_n (by decide), b2, nI_succ]
    · rw [up_n (fun e => h1 (by rw [e]; unfold ofm; simp)), up_n (fun e => h1 (by rw [e]; unfold ofm; simp)), up_n (fun e => h1 (by rw [e]; unfold ofm; simp))]; exact q1.1 r h1 h2
    · rw [up_n (by decide), up_n (by decide), up_n (by decide)]; exact q1.2.1
    · rw [up_n (by decide), up_n (by decide), up_n (by decide)]; exact q1.2.2.1
    · rw [up_n h1, up_n h4, up_n h3, up_n h2]; exact q2.1 r h1 h2 h3 h4
    · rw [up_o (fun z => h1 z.2), up_n (by decide), up_n (by decide), up_n (by decide)]; exact q2.2 k h1 h2
    · obtain ⟨t1, t2, pos, st, kd, t3, t4, t5, t6, t7, t8, t9, t10, t11, t12, t13⟩ := l1
      rw [up_n (by decide), up_n (by decide), up_n (by decide)]
      have eM : ∀ k, k ≠ 2 → (up (up (up (up m (11, 20, 0) nb' (nI v)) (11, 21, 0) nb' (nI w)) (11, 22, 0) (38 + 2 * nb') m1) (10, 0, 0) 2 (nI (nb' + 1))) (10, 0, 0) k = m (10, 0, 0) k := fun k hk => by
        rw [up_o (fun z => hk z.2), up_n (by decide), up_n (by decide), up_n (by decide)]
      exact ⟨t1, (eM 14 (by decide)).trans t2, pos, st, kd, t3, (eM 15 (by decide)).trans t4, t5, (eM 16 (by decide)).trans t6, t7, t8, t9, (eM 17 (by decide)).trans t10, t11, fun z => by obtain ⟨u, u1, u2, u3⟩ := t12 z; exact ⟨u, u1, u2, (eM 18 (by decide)).trans u3⟩, t13⟩
    · rw [up_n (by decide), up_n (by decide), up_n (by decide)]; exact l2
    · rw [up_o (by simp), up_n (by decide), up_n (by decide), up_n (by decide)]; exact l3
    · rw [up_n (by decide), up_n (by decide), up_n (by decide)]; exact l4
    · intro j hj
      rw [up_n (by decide), up_n (by decide), up_n (by decide), up_n (by decide), up_o (fun z => by have := z.2; omega), up_n (by decide), up_n (by decide)]; exact x1 j hj
    · intro j j1 j2 j3
      rw [up_n (by decide), up_o (fun z => by have := z.2; omega), up_n (by decide), up_n (by decide)]; exact x2 j j1 j2 j3
    · intro j hj
      rw [up_n (by decide), up_n (by decide), up_n (by decide), up_n (by decide), up_o (fun z => by have := z.2; omega), up_n (by decide), up_n (by decide)]; exact x3 j hj
    · intro i
      match i with
      | 0 => show nb' + 1 ≤ 26; omega
      | 1 => exact up_s
      | 2 => exact up_s
      | 3 =>
        intro i hi
        by_cases z : i = nb'
        · rw [z, up_n (by decide), up_n (by decide), up_s, up_n (by decide), up_n (by decide), up_n (by decide), up_s]
        · rw [up_n (by decide), up_n (by decide), up_o (fun q => z q.2), up_n (by decide), up_n (by decide), up_n (by decide), up_o (fun q => z q.2)]; exact (xb 3 : ∀ i, i < nb' → g (11, 5, 1) i = m (11, 20, 0) i) i (by omega)
      | 4 =>
        intro i hi
        by_cases z : i = nb'
        · rw [z, up_n (by decide), up_s, up_n (by decide), up_n (by decide), up_s]
        · rw [up_n (by decide), up_o (fun q => z q.2), up_n (by decide), up_n (by decide), up_n (by decide), up_o (fun q => z q.2), up_n (by decide)]; exact (xb 4 : ∀ i, i < nb' → g (11, 6, 1) i = m (11, 21, 0) i) i (by omega)
      | 5 =>
        intro i hi
        rw [up_n (by decide), up_n (by decide), up_n (by decide)]
        by_cases z : i = nb'
        · rw [z, up_s]; exact ⟨isN_n (by omega), by rw [n_t (by omega)]; exact hv, by rw [n_t (by omega)]; exact hv2⟩
        · rw [up_o (fun q => z q.2)]; exact (xb 5 : ∀ i, i < nb' → isN (m (11, 20, 0) i) ∧ 97 ≤ tn (m (11, 20, 0) i) ∧ tn (m (11, 20, 0) i) ≤ 122) i (by omega)
      | 6 =>
        intro i hi
        rw [up_n (by decide), up_n (by decide)]
        by_cases z : i = nb'
        · rw [z, up_s]; exact ⟨isN_n (by omega), by rw [n_t (by omega)]; exact hw180⟩
        · rw [up_o (fun q => z q.2), up_n (by decide)]; exact (xb 6 : ∀ i, i < nb' → isN (m (11, 21, 0) i) ∧ tn (m (11, 21, 0) i) ≤ 180) i (by omega)
      | 7 =>
        intro i hi
        rw [up_n (by decide)]
        by_cases z : i = nb'
        · rw [z, up_s]
        · rw [up_o (fun q => by have := q.2; omega), up_n (by decide), up_n (by decide)]; exact (xb 7 : ∀ i, i < nb' → m (11, 22, 0) (38 + 2 * i) = m1) i (by omega)
      | 8 =>
        intro i hi
        rw [up_n (by decide), up_o (fun q => by have := q.2; omega), up_n (by decide), up_n (by decide)]; exact (xb 8 : ∀ i, i < 26 → m (11, 22, 0) (39 + 2 * i) = 0) i hi
      | 9 =>
        refine ⟨G, G1, fun c c1 c2 => ?_⟩
        rw [up_n (by decide), up_n (by decide), up_n (by decide)]
        rcases G2 c c1 c2 with z | ⟨i, i1, i2⟩
        · exact ⟨nb', by omega, by rw [up_s, z, show 97 + (v - 97) = v by omega]⟩
        · exact ⟨i, by omega, by rw [up_o (fun q => by have := q.2; omega)]; exact i2⟩
      | 10 =>
        intro i hi
        rw [up_n (by decide), up_n (by decide), up_n (by decide)]; exact (xb 10 : ∀ i, i < 26 → g (11, 7, 1) i = m1) i hi
      | 11 =>
        intro i hi
        rw [up_n (by decide), up_n (by decide), up_n (by decide)]; exact (xb 11 : ∀ i, i < 26 → g (11, 8, 1) i = 0) i hi
      | 12 =>
        have := (xb 12 : g (0, 0, 1) 6 = m1 ∧ g (0, 0, 1) 7 = m1 ∧ g (0, 0, 1) 8 = m1)
        refine ⟨?_, ?_, ?_⟩
        · rw [up_o (by simp), up_n (by decide), up_n (by decide)]; exact this.1
        · rw [up_o (by simp), up_n (by decide), up_n (by decide)]; exact this.2.1
        · rw [up_o (by simp), up_n (by decide), up_n (by decide)]; exact this.2.2
      | n + 13 => exact trivial
    · intro j hj
      refine stgB_c j (fun i hi => ?_) (x5 j hj)
      rw [up_n (by decide), up_o (fun q => by have := q.2; omega), up_n (by decide), up_n (by decide)]
end
