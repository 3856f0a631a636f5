/-! ===== changes ===== -/
section
variable {hc hm : HP} {T L A : Tr0} {tb nb : Nat}
theorem fin_now {tb tb' : Nat} {hd hd1 hn hx : HP} {sz wn os hs nb : Nat} {T' : Tr0} (h : Iv tb hd hn sz wn os hs nb) (hM : MR True hd hd1 0 T' (hn (11, 20, 0)) (hn (11, 21, 0)) nb) (hR : Rea hd1 0 T') (hW : WF tb' T' (hn (11, 20, 0)) (hn (11, 21, 0)) nb) (h1 : ∀ r, r ≠ (10, 0, 0) → r ≠ (11, 22, 0) → hx r = hn r) (h2 : ∀ k, k ≠ 0 → k ≠ 25 → hx (10, 0, 0) k = hn (10, 0, 0) k) (ht : tb ≤ tb') (ht' : tb' ≤ tb + 600000) : Inv (tb + 600000) hd1 (rwm hx T') ∧ CFr hd hd1 ∧ MFr hn (rwm hx T') := by
  refine ⟨⟨sz, wn, os, hs, nb, Iv_mono (Iv_now (tb' := tb') h hM.2.2.1 (fun r a b => by rw [rwm_n a]; exact h1 r b a) (fun k a b => by rw [rwm_n (by decide)]; exact h2 k a b) ?_ ht) ht'⟩, CFr.of hM.2.2.1, ?_⟩
  · rw [rwm_e]; exact MR_St hM hR hW
  · intro r hr
    have a : r ≠ (10, 0, 0) := fun e => hr (by rw [e]; unfold isM; simp)
    have b : r ≠ (11, 22, 0) := fun e => hr (by rw [e]; unfold isM; simp)
    rw [rwm_n b]; exact h1 r a b
theorem liH_o {hm : HP} {T A : Tr0} {b : Nat} {r : RF} (h : r ≠ (10, 0, 0)) : liH hm T A b r = hm r := by
  unfold liH; split
  · exact up_n h
  · rfl
theorem liH_f {hm : HP} {T A : Tr0} {b k : Nat} (h : k ≠ 25) : liH hm T A b (10, 0, 0) k = hm (10, 0, 0) k := by
  unfold liH; split
  · rw [up_e, uT_n h]
  · rfl
theorem enT_r {T : Tr0} {v : Int32} : enT T v 36 = v ∧ enT T v 37 = m1 := by
  unfold enT; exact ⟨by rw [uT_n (by decide), uT_e], uT_e⟩
theorem op_strike (a s : Int32) : Op (agr [1, 3]) (fX9_strike a s) (fX10_strike a s) := by
  refine opB (a := a) (F := fun hp => (fX2_keep 0 hp).bind fun hp7 => (fX3_letterKey 0 a s hp7).bind fun q9 => (fX3_noteKey 0 q9.1 q9.2).bind fun q11 => some ((.inl q11.1), q11.2)) (G := fun hm => (fX10_keepsAll hm).bind fun hp5 => (fX10_letterKey a s hp5).bind fun q7 => some (q7.1, q7.2)) (fun hc => rfl) (fun hm => rfl) ?_
  intro tb hc hm sz wn os hs nb ht hv l1 T hT h0 k hk ha
  subst ha
  have hS := Iv_WF hv l1 hT
  refine change_p hv l1 hT h0 rfl rfl ?_
  intro hd hn os1 hs1 hv1 hT1 l11 h01 hL hA
  have hS1 := Iv_WF hv1 l11 hT1
  rw [hL, hA] at hS1
  have hl : LA hn (hm (11, 20, 0)) (hm (11, 21, 0)) nb := ⟨hL, hA, hv1.nb⟩
  obtain ⟨hd1, e1, e2, _⟩ := c_letterKey (sh := s) (St_MR hS1) hS1.2.2.2 (by omega) hk
  have e3 := m_letterKey (sh := s) hl hS1.2.2.2 (by omega) hk
  rw [rwm_T hT1] at e3
  have hW' := WF_leT hS1.2.2.2 (by omega) hk s
  rw [← hL, ← hA] at e2 hW'
  rw [hL, hA] at e2 hW'
  refine ⟨lvT T (hm (11, 21, 0)) k, up (up hd1 (3, 0, 0) 7 (lvT T (hm (11, 21, 0)) k)) (3, 0, 0) 8 m1, rwm (liH hn T (hm (11, 21, 0)) k) (leT T (hm (11, 20, 0)) (hm (11, 21, 0)) k s), ?_, ?_, ?_, ?_⟩
  · show (fX3_letterKey 0 (nI k) s hd).bind (fun q9 => (fX3_noteKey 0 q9.1 q9.2).bind fun q11 => some ((Sum.inl q11.1), q11.2)) = _
    rw [e1, Option.bind_some]; rfl
  · show (fX10_letterKey (nI k) s hn).bind (fun q7 => some (q7.1, q7.2)) = _
    rw [e3, Option.bind_some]
  · rw [rwm_n (by decide), liH_f (by decide)]; exact h01
  · refine fin_now (tb' := tb + 999) hv1 ?_ ?_ ?_ (fun r a b => liH_o a) (fun j a b => liH_f b) (by omega) (by omega)
    · rw [hL, hA]; exact MR_hc e2
    · exact ⟨by rw [up_o (by simp), up_s]; exact enT_r.1.symm, by rw [up_s]; exact enT_r.2.symm⟩
    · rw [hL, hA]; exact hW'
theorem op_press (a : Int32) : Op (agr [1, 2]) (fX9_press a) (fX10_press a) := by
  refine opL (d0 := 0) rfl (F := fun hp => if a < 0 then (fX9_press_17 a hp) else (if 5 < a then (fX9_press_17 a hp) else (fX9_press_18 a 1 hp))) (G := fun hm => (fX10_in a 0 5 hm).bind fun v10 => if v10 = 0 then (fX10_press_22 a 1 hm) else (fX10_press_22 a 0 hm)) (fun hc => rfl) ?_ ?_ ?_
  · intro hm q
    simp only [fX10_press]
    rw [nl_1 q, Option.bind_some, if_neg n10]
  · intro hm q
    simp only [fX10_press]
    rw [nl_0 q, Option.bind_some, if_pos rfl]
  · intro tb hc hm sz wn os hs nb ht hv l1 T hT h0
    rcases ix_n a (n := 6) (by omega) with ⟨k, hk, rfl⟩ | ho
    · refine change_p hv l1 hT h0 (C1 := fun hp5 => (fX3_plainKey 0 (nI k) hp5).bind fun q7 => (fX3_noteKey 0 q7.1 q7.2).bind fun q9 => some ((.inl q9.1), q9.2)) (M1 := fun hp5 => (fX10_otherKey (nI k) hp5).bind fun q7 => some (q7.1, q7.2)) ?_ ?_ ?_
      · show (if nI k < 0 then (fX9_press_17 (nI k) hc) else (if nI 5 < nI k then (fX9_press_17 (nI k) hc) else (fX9_press_18 (nI k) 1 hc))) = _
        rw [if_neg (n_neg (by omega)), if_neg (show ¬ nI 5 < nI k by rw [n_lt (by omega) (by omega)]; omega)]; rfl
      · show (fX10_in (nI k) 0 (nI 5) hm).bind (fun v10 => if v10 = 0 then (fX10_press_22 (nI k) 1 hm) else (fX10_press_22 (nI k) 0 hm)) = _
        rw [in_in' (show k ≤ 5 by omega) (by omega), Option.bind_some, if_neg n10]
        simp only [fX10_press_22]
        rw [rf_no h0, Option.bind_some, if_pos rfl]
      intro hd hn os1 hs1 hv1 hT1 l11 h01 hL hA
      have hS1 := Iv_WF hv1 l11 hT1
      obtain ⟨hd1, e1, e2, _⟩ := c_plainKey (St_MR hS1) hS1.2.2.2 (by omega) hk
      have e3 := m_otherKey (hm := hn) hS1.2.2.2 (by omega) hk
      rw [rwm_T hT1] at e3
      refine ⟨ovR (beT T) (nI k), up (up hd1 (3, 0, 0) 7 (ovR (beT T) (nI k))) (3, 0, 0) 8 m1, rwm hn (okT T (nI k)), ?_, ?_, ?_, ?_⟩
      · show (fX3_plainKey 0 (nI k) hd).bind (fun q7 => (fX3_noteKey 0 q7.1 q7.2).bind fun q9 => some ((Sum.inl q9.1), q9.2)) = _
        rw [e1, Option.bind_some]; rfl
      · show (fX10_otherKey (nI k) hn).bind (fun q7 => some (q7.1, q7.2)) = _
        rw [e3, Option.bind_some]
      · rw [rwm_n (by decide)]; exact h01
      · exact fin_now (tb' := tb + 1099) hv1 (MR_hc e2) ⟨by rw [up_o (by simp), up_s]; exact enT_r.1.symm, by rw [up_s]; exact enT_r.2.symm⟩ (WF_okT hS1.2.2.2 (by omega) hk) (fun _ _ _ => rfl) (fun _ _ _ => rfl) (by omega) (by omega)
    · refine OpI_throw hv (E := 2) (i := 1) rfl ?_ ?_
      · have r : fX9_press_17 a hc = some (.inr 2, hc) := rfl
        show (if a < 0 then (fX9_press_17 a hc) else (if nI 5 < a then (fX9_press_17 a hc) else (fX9_press_18 a 1 hc))) = _
        rw [r]
        by_cases q : a < 0
        · rw [if_pos q]
        · rw [if_neg q, if_pos (gt_out (by omega) ho q)]
      · show (fX10_in a 0 (nI 5) hm).bind (fun v10 => if v10 = 0 then (fX10_press_22 a 1 hm) else (fX10_press_22 a 0 hm)) = _
        rw [in_out' (by omega) ho, Option.bind_some, if_pos rfl]
        simp only [fX10_press_22]
        rw [rf_yes h0 (show ¬ (2 : Int32) = 0 by decide), Option.bind_some, if_neg n10]; rfl
theorem taF_cg {B B' : Tr0} {N : Nat} (e : ∀ k, k < N → B k = B' k) : ∀ k d (hm : HP) (T : Tr0), d + k ≤ N → taF L A nb B k d hm T = taF L A nb B' k d hm T := by
  intro k
  induction k with
  | zero => intro d hm T _; rfl
  | succ k ih =>
    intro d hm T hd
    show (if tvT T L A nb (B d) = 0 then taF L A nb B k (d + 1) (tiH hm T L A nb (B d)) (tsT T L A nb (B d)) else (d, tvT T L A nb (B d), tiH hm T L A nb (B d), tsT T L A nb (B d))) = (if tvT T L A nb (B' d) = 0 then taF L A nb B' k (d + 1) (tiH hm T L A nb (B' d)) (tsT T L A nb (B' d)) else (d, tvT T L A nb (B' d), tiH hm T L A nb (B' d), tsT T L A nb (B' d)))
    rw [e d (by omega), ih _ _ _ (by omega)]
theorem taF_hm {B : Tr0} : ∀ k d (hm hm' : HP) (T : Tr0), (taF L A nb B k d hm T).1 = (taF L A nb B k d hm' T).1 ∧ (taF L A nb B k d hm T).2.1 = (taF L A nb B k d hm' T).2.1 ∧ (taF L A nb B k d hm T).2.2.2 = (taF L A nb B k d hm' T).2.2.2 := by
  intro k
  induction k with
  | zero => intro d hm hm' T; exact ⟨rfl, rfl, rfl⟩
  | succ k ih =>
    intro d hm hm' T
    have e : ∀ hx, taF L A nb B (k + 1) d hx T = (if tvT T L A nb (B d) = 0 then taF L A nb B k (d + 1) (tiH hx T L A nb (B d)) (tsT T L A nb (B d)) else (d, tvT T L A nb (B d), tiH hx T L A nb (B d), tsT T L A nb (B d))) := fun _ => rfl
    rw [e, e]
    split
    · exact ih _ _ _ _
    · exact ⟨rfl, rfl, rfl⟩
theorem taT_r (q : Nat × Int32 × HP × Tr0) : taT q 36 = q.2.1 ∧ taT q 37 = (if q.2.1 = 0 then m1 else nI q.1) := by
  unfold taT; exact ⟨by rw [uT_n (by decide), uT_e], uT_e⟩
theorem WF_taT {q : Nat × Int32 × HP × Tr0} (h : WF tb q.2.2.2 L A nb) : WF tb (taT q) L A nb := by
  unfold taT
  exact WF_free (WF_free h (by omega)) (by omega)
theorem Iv_sz {tb : Nat} {hc hm : HP} {sz wn os hs nb : Nat} (h : Iv tb hc hm sz wn os hs nb) : Iv tb (up hc (9, 0, 0) 1 0) (up hm (10, 0, 0) 11 0) 0 wn os hs nb := by
  have eS : ∀ {m : Nat} {T L A : Tr0}, St hc m T L A nb tb → St (up hc (9, 0, 0) 1 0) m T L A nb tb := fun hS => St_hc hS (fun r hr => up_n (fun q => by rw [q] at hr; unfold ofm at hr; simp at hr))
  have eR : ∀ i, rowS (up hm (10, 0, 0) 11 0) i = rowS hm i := fun i => by funext k; unfold rowS; rw [up_n (by decide)]
  intro i
  match i with
  | 0 => exact up_s
  | 1 => exact up_s
  | 2 => exact Nat.zero_le _
  | 3 => exact h.by
  | 4 => exact h.bn
  | 5 => exact h.pe
  | 6 => exact h.pp
  | 7 => exact h.wc
  | 8 => exact h.wm
  | 9 => exact h.wb
  | 10 => exact h.wt
  | 11 => exact h.b1
  | 12 => exact h.b6
  | 13 => exact h.ho
  | 14 => exact h.hb
  | 15 => exact h.hs
  | 16 => exact h.hm
  | 17 => exact h.h8
  | 18 => exact h.sl
  | 19 => exact h.s1
  | 20 => exact h.nb
  | 21 => exact h.lo
  | 22 => exact h.l1
  | 23 => exact h.l0
  | 24 => exact fun q => eS (h.no q)
  | 25 => intro q a ha; rw [eR]; exact eS (h.ke q a ha)
  | 26 => intro i hi q; rw [eR]; exact eS (h.sv i hi q)
  | n + 27 => exact trivial
theorem op_type (a : Int32) : Op (agr [1, 3]) (fX9_type a) (fX10_type a) := by
  refine opY rfl rfl (a := a) (F := fun hp => (fX2_keep 0 hp).bind fun hp7 => (fX3_typeText 0 10 0 a (up hp7 (9, 0, 0) 1 0)).bind fun q9 => some ((.inl q9.1), q9.2)) (G := fun hm => (fX10_keepsAll hm).bind fun hp5 => (fX10_typesAll a (up hp5 (10, 0, 0) 11 0)).bind fun q7 => some (q7.1, q7.2)) (fun hc => rfl) (fun hm => rfl) ?_
  intro tb hc hm sz wn os hs nb ht hv l1 T hT h0 k hk ha
  subst ha
  have hsb := hv.sb
  refine change_p hv l1 hT h0 rfl rfl ?_
  intro hd hn os1 hs1 hv1 hT1 l11 h01 hL hA
  have hS1 := Iv_WF hv1 l11 hT1
  have hv2 := Iv_sz hv1
  have hS2 : St (up hd (9, 0, 0) 1 0) 0 T (hn (11, 20, 0)) (hn (11, 21, 0)) nb tb := Iv_WF hv2 l11 hT1
  have hl : LA (up hn (10, 0, 0) 11 0) (hn (11, 20, 0)) (hn (11, 21, 0)) nb := ⟨rfl, rfl, hv1.nb⟩
  have hmB := m_typesAll (hm := up hn (10, 0, 0) 11 0) (B := hn (11, 25, 0)) (T := T) (N := k) (by omega) hl rfl hS1.2.2.2 (by omega)
  have hcT := c_typeText (F := True) (hm := up (up hn (10, 0, 0) 11 0) (10, 0, 0) 25 (hd (3, 0, 0) 9)) (h0 := up hd (9, 0, 0) 1 0) (hc := up hd (9, 0, 0) 1 0) (B := hd (11, 10, 0)) (N := k) (by omega) rfl (St_MR hS2) hS1.2.2.2 (by omega) (fun _ => up_s.symm)
  rw [taF_cg (B := hd (11, 10, 0)) (B' := hn (11, 25, 0)) (N := k) (fun j hj => hv1.by j (by omega)) k 0 _ T (by omega)] at hcT
  obtain ⟨i1, i2, i3⟩ := taF_hm (L := hn (11, 20, 0)) (A := hn (11, 21, 0)) (nb := nb) (B := hn (11, 25, 0)) k 0 (up (up hn (10, 0, 0) 11 0) (10, 0, 0) 25 (hd (3, 0, 0) 9)) (up hn (10, 0, 0) 11 0) T
  have hWq := WF_taF (L := hn (11, 20, 0)) (A := hn (11, 21, 0)) (nb := nb) (B := hn (11, 25, 0)) k 0 (up hn (10, 0, 0) 11 0) T tb hS1.2.2.2 (by omega)
  have f1 := taF_h (L := hn (11, 20, 0)) (A := hn (11, 21, 0)) (nb := nb) (B := hn (11, 25, 0)) k 0 (up hn (10, 0, 0) 11 0) T
  have f2 := taF_f (L := hn (11, 20, 0)) (A := hn (11, 21, 0)) (nb := nb) (B := hn (11, 25, 0)) k 0 (up hn (10, 0, 0) 11 0) T
  obtain ⟨hd1, c1, c2, c3, c4, c5⟩ := hcT
  have et : taT (taF (hn (11, 20, 0)) (hn (11, 21, 0)) nb (hn (11, 25, 0)) k 0 (up (up hn (10, 0, 0) 11 0) (10, 0, 0) 25 (hd (3, 0, 0) 9)) T) = taT (taF (hn (11, 20, 0)) (hn (11, 21, 0)) nb (hn (11, 25, 0)) k 0 (up hn (10, 0, 0) 11 0) T) := by
    unfold taT; rw [i1, i2, i3]
  rw [et] at c2
  rw [i2] at c3 c4
  rw [i1] at c1 c4
  rw [rwm_T (show (up hn (10, 0, 0) 11 0) (11, 22, 0) = T from hT1)] at hmB
  generalize taF (hn (11, 20, 0)) (hn (11, 21, 0)) nb (hn (11, 25, 0)) k 0 (up hn (10, 0, 0) 11 0) T = q at *
  refine ⟨nI q.1, hd1, rwm q.2.2.1 (taT q), ?_, ?_, ?_, ?_⟩
  · show (fX3_typeText 0 10 0 (nI k) (up hd (9, 0, 0) 1 0)).bind (fun q9 => some ((Sum.inl q9.1), q9.2)) = _
    rw [c1, Option.bind_some]
  · show (fX10_typesAll (nI k) (up hn (10, 0, 0) 11 0)).bind (fun q7 => some (q7.1, q7.2)) = _
    rw [hmB, Option.bind_some]
  · rw [rwm_n (by decide), f2 0 (by decide), up_o (by simp)]; exact h01
  · obtain ⟨g1, g2, g3⟩ := fin_now (tb' := tb + 1099 * k) (hx := q.2.2.1) hv2 c2 ⟨by rw [c3]; exact (taT_r q).1.symm, by rw [c4]; exact (taT_r q).2.symm⟩ (WF_taT hWq) (fun r a b => f1 r a) (fun j a b => f2 j b) (by omega) (by omega)
    exact ⟨g1, (CFr.refl hd |>.up (by unfold isM; simp)).trans g2, ((MFr.refl hn).up (by unfold isM; simp)).trans g3⟩
end
