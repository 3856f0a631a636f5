/-! ===== undo, save, restore ===== -/
section
variable {hc hm : HP} {tb sz wn os hs nb : Nat}
/-- the machine of a keep, or of a slot, is taken back -/
theorem back_p {m i : Nat} {hs' : Nat} (h : Iv tb hc hm sz wn os hs nb) (l1 : hm (10, 0, 0) 1 = 1) (hm0 : m ≠ 0) (hm12 : m < 12) (hi : i < 10) (hs1 : hs' ≤ hs) (hS : St hc m (rowS hm i) (hm (11, 20, 0)) (hm (11, 21, 0)) nb tb) : ∃ hc1, fX3_copyFrom 0 m hc = some hc1 ∧ Inv (tb + 600000) (up hc1 (2, 0, 0) 2 (nI hs')) (up (cpR hm (11, 22, 0) (11, 24, 0) 0 (1150 * i) 0 1150) (10, 0, 0) 8 (nI hs')) ∧ CFr hc (up hc1 (2, 0, 0) 2 (nI hs')) ∧ MFr hm (up (cpR hm (11, 22, 0) (11, 24, 0) 0 (1150 * i) 0 1150) (10, 0, 0) 8 (nI hs')) ∧ hc1 (2, 0, 0) = hc (2, 0, 0) ∧ hc1 (3, 0, 0) 6 = hm (11, 24, 0) (1150 * i + 3) := by
  have h8 := h.h8
  obtain ⟨hc1, x1, x2, x3, _⟩ := copy_p (m := 0) (mr := m) (hp := hc) hm0 (h.b1 m hm12) (h.b6 m hm12)
  have o2 : hc1 (2, 0, 0) = hc (2, 0, 0) := x3 _ (by unfold ofm; simp)
  have oth : ∀ m', m' ≠ 0 → ∀ r, ofm m' r → (up hc1 (2, 0, 0) 2 (nI hs')) r = hc r := fun m' hm' r hr => by
    rw [up_n (fun q => by rw [q] at hr; unfold ofm at hr; simp at hr)]
    exact x3 r (fun q => hm' (ofm_u hr q))
  have zer : SmM (up hc1 (2, 0, 0) 2 (nI hs')) 0 hc m := SmM_of x2 (fun r hr => up_n (fun q => by rw [q] at hr; unfold ofm at hr; simp at hr))
  have e12 : (up (cpR hm (11, 22, 0) (11, 24, 0) 0 (1150 * i) 0 1150) (10, 0, 0) 8 (nI hs')) (12, 0, 0) = hm (12, 0, 0) := by rw [up_n (by decide), cpR_o (by decide)]
  have eR : ∀ j, rowS (up (cpR hm (11, 22, 0) (11, 24, 0) 0 (1150 * i) 0 1150) (10, 0, 0) 8 (nI hs')) j = rowS hm j := fun j => by
    funext k; unfold rowS; rw [up_n (by decide), cpR_o (by decide)]
  refine ⟨hc1, x1, ⟨sz, wn, os, hs', nb, Iv_mono (Iv_gen (tb' := tb) (os' := os) (hs' := hs') h l1 ?_ ?_ ?_ ?_ ?_ ?_ h.hb up_s up_s (by omega) ?_ ?_ ?_ ?_ ?_) (by omega)⟩, ?_, ?_, o2, ?_⟩
  · intro r a1 a2 a3 a4; rw [up_n a1]; exact x3 r (a4 0)
  · intro r a1 a2 a3 a4; rw [up_n a3, cpR_o a1]
  · intro k a1 a2 a3; rw [up_o (fun q => a2 q.2), cpR_o (by decide)]
  · intro m' hm'
    by_cases e : m' = 0
    · rw [e, zer.2.1 4 (by omega) (by omega)]; exact h.b1 m hm12
    · rw [oth m' e _ (by unfold ofm; simp)]; exact h.b1 m' hm'
  · intro m' hm'
    by_cases e : m' = 0
    · rw [e, zer.2.2.2.2 3 (by omega) (by omega)]; exact h.b6 m hm12
    · rw [oth m' e _ (by unfold ofm; simp)]; exact h.b6 m' hm'
  · rw [up_o (by simp), o2]; exact h.ho
  · intro j hj; rw [e12, up_n (by simp), x3 _ (by unfold ofm; simp)]; exact h.sl j hj
  · intro j hj; rw [e12]; exact h.s1 j hj
  · refine St_T (St_Sm hS zer) ?_
    intro k hk
    have := cpR_s (hp := hm) (dst := (11, 22, 0)) (src := (11, 24, 0)) (d0 := 0) (s0 := 1150 * i) (hi := 1150) (k := k) hk
    rw [Nat.zero_add] at this
    rw [up_n (by decide), this]; rfl
  · intro a ha; rw [eR]; exact St_hc (h.ke l1 a (by omega)) (oth _ (by omega))
  · intro j hj hk; rw [e12] at hk; rw [eR]; exact St_hc (h.sv j hj hk) (oth _ (by omega))
  · intro r hr
    rw [up_n (fun q => by rw [q] at hr; unfold isM at hr; simp at hr)]
    exact x3 r (fun e => by unfold isM at hr; unfold ofm at e; omega)
  · intro r hr
    rw [up_n (fun q => hr (by rw [q]; unfold isM; simp)), cpR_o (fun q => hr (by rw [q]; unfold isM; simp))]
  · rw [x2.2.2.2.1 6 (by omega) (by omega)]; exact hS.1.a5
theorem op_undo : Op (agr [1]) fX9_undo fX10_undo := by
  intro tb hc hm ht hI
  obtain ⟨sz, wn, os, hs, nb, hv⟩ := hI
  have h8 := hv.h8
  have hvt := Iv_th (x := 0) hv
  have e8 : (th hm 0) (10, 0, 0) 8 = nI hs := hvt.hm
  have t0 : (th hm 0) (10, 0, 0) 0 = 0 := th_s
  by_cases q : hs = 0
  · subst q
    refine ⟨.inr 1, hc, 0, th hm (nI (0 + 1)), ?_, ?_, by rw [th_s]; exact agr_th rfl, ⟨sz, wn, os, 0, nb, Iv_mono (Iv_th hv) (by omega)⟩, CFr.refl hc, (MFr.refl hm).th⟩
    · show (if (hc (2, 0, 0) 2) = 0 then (some ((Sum.inr 1 : Int32 ⊕ Nat), hc)) else _) = _
      rw [hv.hs, if_pos (show nI 0 = 0 from rfl)]
    · show (if ((th hm 0) (10, 0, 0) 8) = 0 then ((fX10_refuse 1 1 (th hm 0)).bind fun q5 => if q5.1 = 0 then (fX10_undo_37 (up q5.2 (10, 0, 0) 8 ((q5.2 (10, 0, 0) 8) - 1))) else (some (0, q5.2))) else _) = _
      rw [e8, if_pos (show nI 0 = 0 from rfl), rf_yes t0 n10, Option.bind_some, if_neg n10, th_th]; rfl
  · have n0 : ¬ nI hs = 0 := by rw [n_lit 0, n_eq (by omega) (by omega)]; exact q
    have l1 : hm (10, 0, 0) 1 = 1 := by
      rcases hv.l1 with e | e
      · exact absurd (hv.l0 e).1 q
      · exact e
    have hp : nI hs - 1 = nI (hs - 1) := by rw [n_lit 1]; exact n_sub (by omega)
    obtain ⟨hc1, b1, b2, b3, b4, b5, b6⟩ := back_p (m := 2 + (os + (hs - 1)) % 8) (i := hs - 1) (hs' := hs - 1) hvt (by rw [th_o (by simp)]; exact l1) (by omega) (by omega) (by omega) (by omega) (hvt.ke (by rw [th_o (by simp)]; exact l1) (hs - 1) (by omega))
    have ec : up (cpR (up (th hm 0) (10, 0, 0) 8 (nI (hs - 1))) (11, 22, 0) (11, 24, 0) 0 (1150 * (hs - 1)) 0 1150) (10, 0, 0) 8 (nI (hs - 1)) = up (cpR (th hm 0) (11, 22, 0) (11, 24, 0) 0 (1150 * (hs - 1)) 0 1150) (10, 0, 0) 8 (nI (hs - 1)) := by
      funext r j
      by_cases e : r = (10, 0, 0) ∧ j = 8
      · rw [e.1, e.2, up_s, up_s]
      · rw [up_o e, up_o e]
        unfold cpR
        rw [up_o e, up_n (by decide)]
    have ec2 : cpR (up (th hm 0) (10, 0, 0) 8 (nI (hs - 1))) (11, 22, 0) (11, 24, 0) 0 (1150 * (hs - 1)) 0 1150 = up (cpR (th hm 0) (11, 22, 0) (11, 24, 0) 0 (1150 * (hs - 1)) 0 1150) (10, 0, 0) 8 (nI (hs - 1)) := by
      rw [← ec]
      funext r j
      by_cases e : r = (10, 0, 0) ∧ j = 8
      · rw [e.1, e.2, up_s, cpR_o (by decide), up_s]
      · rw [up_o e]
    refine ⟨.inl (nI (hs - 1)), up hc1 (2, 0, 0) 2 (nI (hs - 1)), nI (hs - 1), up (cpR (th hm 0) (11, 22, 0) (11, 24, 0) 0 (1150 * (hs - 1)) 0 1150) (10, 0, 0) 8 (nI (hs - 1)), ?_, ?_, ⟨?_, rfl⟩, b2, b3, (MFr.refl hm).th.trans b4⟩
    · show (if (hc (2, 0, 0) 2) = 0 then _ else (((fX2_placeOf ((hc (2, 0, 0) 2) - 1) hc).bind fun v1 => (fX3_copyFrom 0 v1 hc).bind fun hp4 => some (up hp4 (2, 0, 0) 2 ((hp4 (2, 0, 0) 2) - 1))).bind fun hp3 => some ((Sum.inl (hp3 (2, 0, 0) 2)), hp3))) = _
      rw [hv.hs, if_neg n0, hp, place_p hv.ho hv.hb (by omega), Option.bind_some, b1, Option.bind_some, Option.bind_some, b5, hv.hs, hp, up_s]
    · show (if ((th hm 0) (10, 0, 0) 8) = 0 then _ else ((fX10_refuse 0 1 (th hm 0)).bind fun q5 => if q5.1 = 0 then (fX10_undo_37 (up q5.2 (10, 0, 0) 8 ((q5.2 (10, 0, 0) 8) - 1))) else (some (0, q5.2)))) = _
      rw [e8, if_neg n0, rf_no t0, Option.bind_some, if_pos rfl]
      show fX10_undo_37 (up (th hm 0) (10, 0, 0) 8 ((th hm 0) (10, 0, 0) 8 - 1)) = _
      rw [e8, hp]
      show (fX10_fetches (0 + ((up (th hm 0) (10, 0, 0) 8 (nI (hs - 1))) (10, 0, 0) 8)) (up (th hm 0) (10, 0, 0) 8 (nI (hs - 1)))).bind (fun hp3 => some ((hp3 (10, 0, 0) 8), hp3)) = _
      rw [up_s, show (0 : Int32) + nI (hs - 1) = nI (hs - 1) by show nI 0 + nI (hs - 1) = _; rw [n_add, Nat.zero_add], fetches_ev (by omega), Option.bind_some, ec2, up_s]
    · rw [up_o (by simp), cpR_o (by decide)]; exact th_s
theorem slot_p (a : Int32) : (∃ i, i < 2 ∧ a = nI i) ∨ (¬ a = 0 ∧ ¬ a = 1 ∧ (a < 0 ∨ nI 2 ≤ a)) := by
  rcases ix_n a (n := 2) (by omega) with h | h
  · exact Or.inl h
  · right
    refine ⟨fun e => ?_, fun e => ?_, h⟩
    · subst e
      rcases h with h | h
      · exact absurd h Int32.lt_irrefl
      · exact absurd h (by decide)
    · subst e
      rcases h with h | h
      · exact absurd h (by decide)
      · exact absurd h (by decide)
theorem rqS_in {i : Nat} (hi : i < 2) {hp : HP} : fX9_requireSlot (nI i) hp = some (.inl ()) := by
  match i, hi with
  | 0, _ => rfl
  | 1, _ => rfl
theorem rqS_out {a : Int32} (h0 : ¬ a = 0) (h1 : ¬ a = 1) {hp : HP} : fX9_requireSlot a hp = some (.inr 3) := by
  show (if a = 0 then (fX9_requireSlot_14 1 hp) else (if a = 1 then (fX9_requireSlot_14 1 hp) else (fX9_requireSlot_14 0 hp))) = _
  rw [if_neg h0, if_neg h1]; rfl
theorem slotOf_p {i : Nat} (hi : i < 2) {hp : HP} : fX9_slotOf (nI i) hp = some i := by
  match i, hi with
  | 0, _ => rfl
  | 1, _ => rfl
theorem op_save (a : Int32) : Op (agr [1, 3]) (fX9_save a) (fX10_save a) := by
  refine opL (d0 := 0) rfl (F := fun hp => (fX9_requireSlot a hp).bind fun q4 => Sum.elim (fun _ => (fX9_slotOf a hp).bind fun v5 => (fX3_copyFrom (10 + v5) 0 hp).bind fun hp8 => fX9_save_30 (up hp8 (8, 0, v5) 1 1)) (fun E => some (.inr E, hp)) q4) (G := fun hm => (fX10_in a 0 1 hm).bind fun v8 => if v8 = 0 then (fX10_save_22 a 1 hm) else (fX10_save_22 a 0 hm)) (fun hc => rfl) ?_ ?_ ?_
  · intro hm q
    simp only [fX10_save]
    rw [nl_1 q, Option.bind_some, if_neg n10]
  · intro hm q
    simp only [fX10_save]
    rw [nl_0 q, Option.bind_some, if_pos rfl]
  · intro tb hc hm sz wn os hs nb ht hv l1 T hT h0
    rcases slot_p a with ⟨i, hi, rfl⟩ | ⟨na, nb', ho⟩
    · have hS := hv.no l1
      obtain ⟨hx, x1, x2, x3, _⟩ := copy_p (m := 10 + i) (mr := 0) (hp := hc) (by omega) (hv.b1 0 (by omega)) (hv.b6 0 (by omega))
      have e8i : (8 : Int32) + nI i = nI (8 + i) := n_add 8 i
      have oth : ∀ m', m' ≠ 10 + i → ∀ r, ofm m' r → (up hx (8, 0, i) 1 1) r = hc r := fun m' hm' r hr => by
        rw [up_n (fun q => by rw [q] at hr; unfold ofm at hr; simp at hr)]
        exact x3 r (fun q => hm' (ofm_u hr q))
      have ten : SmM (up hx (8, 0, i) 1 1) (10 + i) hc 0 := SmM_of x2 (fun r hr => up_n (fun q => by rw [q] at hr; unfold ofm at hr; simp at hr))
      have eR : ∀ j, j < 10 → j ≠ 8 + i → ∀ k, k < 1150 → rowS (up (cpR hm (11, 24, 0) (11, 22, 0) (1150 * (8 + i)) 0 0 1150) (12, 0, 0) i 1) j k = rowS hm j k := fun j hj hji k hk => by
        unfold rowS; rw [up_n (by decide)]; exact cpR_n (by omega)
      have eR2 : ∀ k, k < 1150 → rowS (up (cpR hm (11, 24, 0) (11, 22, 0) (1150 * (8 + i)) 0 0 1150) (12, 0, 0) i 1) (8 + i) k = hm (11, 22, 0) k := fun k hk => by
        unfold rowS; rw [up_n (by decide), cpR_s hk, Nat.zero_add]
      have s12 : ∀ j, (up (cpR hm (11, 24, 0) (11, 22, 0) (1150 * (8 + i)) 0 0 1150) (12, 0, 0) i 1) (12, 0, 0) j = if j = i then 1 else hm (12, 0, 0) j := fun j => by
        by_cases e : j = i
        · rw [if_pos e, e, up_s]
        · rw [if_neg e, up_o (fun q => e q.2), cpR_o (by decide)]
      have h3 : hx (3, 0, 0) = hc (3, 0, 0) := x3 _ (fun q => by have h00 : 0 = 10 + i := q.1; omega)
      refine ⟨.inl (T 3), up hx (8, 0, i) 1 1, T 3, up (cpR hm (11, 24, 0) (11, 22, 0) (1150 * (8 + i)) 0 0 1150) (12, 0, 0) i 1, ?_, ?_, ⟨?_, rfl⟩, ⟨sz, wn, os, hs, nb, Iv_mono (Iv_gen (tb' := tb) (os' := os) (hs' := hs) hv l1 ?_ ?_ ?_ ?_ ?_ ?_ hv.hb ?_ ?_ hv.h8 ?_ ?_ ?_ ?_ ?_) (by omega)⟩, ?_, ?_⟩
      · show (fX9_requireSlot (nI i) hc).bind (fun q4 => Sum.elim (fun _ => (fX9_slotOf (nI i) hc).bind fun v5 => (fX3_copyFrom (10 + v5) 0 hc).bind fun hp8 => some ((Sum.inl ((up hp8 (8, 0, v5) 1 1) (3, 0, 0) 6)), up hp8 (8, 0, v5) 1 1)) (fun E => some (.inr E, hc)) q4) = _
        rw [rqS_in hi, Option.bind_some]
        show (fX9_slotOf (nI i) hc).bind (fun v5 => (fX3_copyFrom (10 + v5) 0 hc).bind fun hp8 => some ((Sum.inl ((up hp8 (8, 0, v5) 1 1) (3, 0, 0) 6)), up hp8 (8, 0, v5) 1 1)) = _
        rw [slotOf_p hi, Option.bind_some, x1, Option.bind_some, up_n (by simp), h3, hS.1.a5, hT]
      · show (fX10_in (nI i) 0 (nI 1) hm).bind (fun v8 => if v8 = 0 then (fX10_save_22 (nI i) 1 hm) else (fX10_save_22 (nI i) 0 hm)) = _
        rw [in_in' (show i ≤ 1 by omega) (by omega), Option.bind_some, if_neg n10]
        simp only [fX10_save_22, fX10_save_46]
        rw [rf_no h0, Option.bind_some, if_pos rfl, e8i, keeps_ev (by omega), Option.bind_some]
        show (if inb (nI i) 2 = true then (some (((up (cpR hm (11, 24, 0) (11, 22, 0) (1150 * (8 + i)) 0 0 1150) (12, 0, 0) ((nI i).toNatClampNeg) 1) (11, 22, 0) 3), (up (cpR hm (11, 24, 0) (11, 22, 0) (1150 * (8 + i)) 0 0 1150) (12, 0, 0) ((nI i).toNatClampNeg) 1))) else none) = _
        rw [if_pos (inb_n hi (by omega)), n_c (by omega), up_n (by decide), cpR_o (by decide), hT]
      · rw [up_n (by decide), cpR_o (by decide)]; exact h0
      · intro r a1 a2 a3 a4
        have : r ≠ (8, 0, i) := by
          intro q
          have : i = 0 ∨ i = 1 := by omega
          rcases this with e | e
          · rw [e] at q; exact a2 q
          · rw [e] at q; exact a3 q
        rw [up_n this]; exact x3 r (a4 _)
      · intro r a1 a2 a3 a4; rw [up_n a4, cpR_o a2]
      · intro k a1 a2 a3; rw [up_n (by decide), cpR_o (by decide)]
      · intro m' hm'
        by_cases e : m' = 10 + i
        · rw [e, ten.2.1 4 (by omega) (by omega)]; exact hv.b1 0 (by omega)
        · rw [oth m' e _ (by unfold ofm; simp)]; exact hv.b1 m' hm'
      · intro m' hm'
        by_cases e : m' = 10 + i
        · rw [e, ten.2.2.2.2 3 (by omega) (by omega)]; exact hv.b6 0 (by omega)
        · rw [oth m' e _ (by unfold ofm; simp)]; exact hv.b6 m' hm'
      · rw [up_n (by simp), x3 _ (by unfold ofm; simp)]; exact hv.ho
      · rw [up_n (by simp), x3 _ (by unfold ofm; simp)]; exact hv.hs
      · rw [up_n (by decide), cpR_o (by decide)]; exact hv.hm
      · intro j hj
        rw [s12]
        by_cases e : j = i
        · rw [if_pos e, e, up_s]
        · rw [if_neg e, up_n (by simp [e]), x3 _ (by unfold ofm; simp)]; exact hv.sl j hj
      · intro j hj
        rw [s12]
        split
        · decide
        · exact hv.s1 j hj
      · rw [up_n (by decide), cpR_o (by decide)]; exact St_hc hS (oth 0 (by omega))
      · intro b hb
        exact St_T (St_hc (hv.ke l1 b hb) (oth _ (by omega))) (eR b (by have := hv.h8; omega) (by have := hv.h8; omega))
      · intro j hj hk
        rw [s12] at hk
        by_cases e : j = i
        · rw [e]
          exact St_T (St_Sm hS ten) eR2
        · rw [if_neg e] at hk
          exact St_T (St_hc (hv.sv j hj hk) (oth _ (by omega))) (eR (8 + j) (by omega) (by omega))
      · intro r hr
        rw [up_n (fun q => by rw [q] at hr; unfold isM at hr; simp at hr)]
        exact x3 r (fun e => by unfold isM at hr; unfold ofm at e; omega)
      · intro r hr
        rw [up_n (fun q => hr (by rw [q]; unfold isM; simp)), cpR_o (fun q => hr (by rw [q]; unfold isM; simp))]
    · refine OpI_throw hv (E := 3) (i := 1) rfl ?_ ?_
      · show (fX9_requireSlot a hc).bind (fun q4 => Sum.elim (fun _ => (fX9_slotOf a hc).bind fun v5 => (fX3_copyFrom (10 + v5) 0 hc).bind fun hp8 => fX9_save_30 (up hp8 (8, 0, v5) 1 1)) (fun E => some (.inr E, hc)) q4) = _
        rw [rqS_out na nb']; rfl
      · show (fX10_in a 0 (nI 1) hm).bind (fun v8 => if v8 = 0 then (fX10_save_22 a 1 hm) else (fX10_save_22 a 0 hm)) = _
        rw [in_out' (by omega) ho, Option.bind_some, if_pos rfl]
        simp only [fX10_save_22]
        rw [rf_yes h0 (show ¬ (2 : Int32) = 0 by decide), Option.bind_some, if_neg n10]; rfl
theorem op_restore (a : Int32) : Op (agr [3, 1]) (fX9_restore a) (fX10_restore a) := by
  intro tb hc hm ht hI
  obtain ⟨sz, wn, os, hs, nb, hv⟩ := hI
  have hvt := Iv_th (x := 0) hv
  have t0 : (th hm 0) (10, 0, 0) 0 = 0 := th_s
  have ec : fX9_restore a hc = (fX9_requireSlot a hc).bind (fun q2 => Sum.elim (fun _ => (fX9_slotOf a hc).bind fun v3 => if (hc (8, 0, v3) 1) = 0 then (some (.inr 1, hc)) else ((fX3_copyFrom 0 (10 + v3) hc).bind fun hp6 => some ((.inl ((up hp6 (2, 0, 0) 2 0) (3, 0, 0) 6)), up hp6 (2, 0, 0) 2 0))) (fun E => some (.inr E, hc)) q2) := rfl
  have em : fX10_restore a hm = (fX10_in a 0 (nI 1) (th hm 0)).bind (fun v8 => if v8 = 0 then (fX10_restore_20 a 1 (th hm 0)) else (fX10_restore_20 a 0 (th hm 0))) := rfl
  rw [ec, em]
  rcases slot_p a with ⟨i, hi, rfl⟩ | ⟨na, nb', ho⟩
  · rw [rqS_in hi, Option.bind_some]
    have e20 : fX10_restore_20 (nI i) 0 (th hm 0) = if hm (12, 0, 0) i = 0 then (fX10_restore_42 (nI i) 1 (th hm 0)) else (fX10_restore_42 (nI i) 0 (th hm 0)) := by
      simp only [fX10_restore_20]
      rw [rf_no t0, Option.bind_some, if_pos rfl]
      show (if inb (nI i) 2 = true then (if ((th hm 0) (12, 0, 0) (nI i).toNatClampNeg) = 0 then (fX10_restore_42 (nI i) 1 (th hm 0)) else (fX10_restore_42 (nI i) 0 (th hm 0))) else none) = _
      rw [if_pos (inb_n hi (by omega)), n_c (by omega), th_r (by decide)]
    rw [in_in' (show i ≤ 1 by omega) (by omega), Option.bind_some, if_neg n10, e20]
    show ∃ r hc1 b hm1, ((fX9_slotOf (nI i) hc).bind fun v3 => if (hc (8, 0, v3) 1) = 0 then (some (Sum.inr 1, hc)) else ((fX3_copyFrom 0 (10 + v3) hc).bind fun hp6 => some ((Sum.inl ((up hp6 (2, 0, 0) 2 0) (3, 0, 0) 6)), up hp6 (2, 0, 0) 2 0))) = some (r, hc1) ∧ _
    rw [slotOf_p hi, Option.bind_some, hv.sl i hi]
    by_cases q : hm (12, 0, 0) i = 0
    · rw [if_pos q, if_pos q]
      refine ⟨.inr 1, hc, 0, th hm (nI (1 + 1)), rfl, ?_, by rw [th_s]; exact agr_th rfl, ⟨sz, wn, os, hs, nb, Iv_mono (Iv_th hv) (by omega)⟩, CFr.refl hc, (MFr.refl hm).th⟩
      simp only [fX10_restore_42]
      rw [rf_yes t0 (show ¬ (2 : Int32) = 0 by decide), Option.bind_some, if_neg n10, th_th]; rfl
    · have q1 : hm (12, 0, 0) i = 1 := (isB_iff.mp (hv.s1 i hi)).resolve_left q
      have l1 : hm (10, 0, 0) 1 = 1 := by
        rcases hv.l1 with e | e
        · exact absurd ((hv.l0 e).2 i hi) q
        · exact e
      rw [if_neg q, if_neg q]
      obtain ⟨hc1, b1, b2, b3, b4, b5, b6⟩ := back_p (m := 10 + i) (i := 8 + i) (hs' := 0) hvt (by rw [th_o (by simp)]; exact l1) (by omega) (by omega) (by omega) (by omega) (hvt.sv i hi (by rw [th_r (by decide)]; exact q1))
      refine ⟨.inl (hm (11, 24, 0) (1150 * (8 + i) + 3)), up hc1 (2, 0, 0) 2 (nI 0), hm (11, 24, 0) (1150 * (8 + i) + 3), up (cpR (th hm 0) (11, 22, 0) (11, 24, 0) 0 (1150 * (8 + i)) 0 1150) (10, 0, 0) 8 (nI 0), ?_, ?_, ⟨?_, rfl⟩, b2, b3, (MFr.refl hm).th.trans b4⟩
      · rw [b1, Option.bind_some, up_n (by decide), b6, th_r (by decide)]; rfl
      · have e8i : (8 : Int32) + nI i = nI (8 + i) := n_add 8 i
        simp only [fX10_restore_42, fX10_restore_64]
        rw [rf_no t0, Option.bind_some, if_pos rfl, e8i, fetches_ev (by omega), Option.bind_some, up_n (by decide)]
        have := cpR_s (hp := th hm 0) (dst := (11, 22, 0)) (src := (11, 24, 0)) (d0 := 0) (s0 := 1150 * (8 + i)) (hi := 1150) (k := 3) (by omega)
        rw [Nat.zero_add] at this
        rw [this, th_r (by decide)]; rfl
      · rw [up_o (by simp), cpR_o (by decide)]; exact th_s
  · rw [rqS_out na nb', in_out' (by omega) ho, Option.bind_some, Option.bind_some, if_pos rfl]
    refine ⟨.inr 3, hc, 0, th hm (nI (0 + 1)), rfl, ?_, by rw [th_s]; exact agr_th rfl, ⟨sz, wn, os, hs, nb, Iv_mono (Iv_th hv) (by omega)⟩, CFr.refl hc, (MFr.refl hm).th⟩
    simp only [fX10_restore_20]
    rw [rf_yes t0 n10, Option.bind_some, if_neg n10, th_th]; rfl
end
