/-! ===== what would be: trials ===== -/
section
theorem Iv_try {tb : Nat} {hc hm hc' hm' : HP} {sz wn os hs nb : Nat} (h : Iv tb hc hm sz wn os hs nb) (c : FrC 1 hc hc') (f1 : isB (hc' (1, 0, 1) 4) = true) (f6 : isB (hc' (6, 0, 1) 3) = true)
    (eL : hm' (11, 20, 0) = hm (11, 20, 0)) (eA : hm' (11, 21, 0) = hm (11, 21, 0)) (e24 : hm' (11, 24, 0) = hm (11, 24, 0)) (e25 : hm' (11, 25, 0) = hm (11, 25, 0)) (e31 : hm' (11, 31, 0) = hm (11, 31, 0)) (e12 : hm' (12, 0, 0) = hm (12, 0, 0))
    (e2 : ∀ k, k ≠ 0 → k ≠ 25 → k ≠ 28 → hm' (10, 0, 0) k = hm (10, 0, 0) k) (eT : ∀ k, k < 1150 → hm' (11, 22, 0) k = hm (11, 22, 0) k) : Iv tb hc' hm' sz wn os hs nb := by
  have eS : ∀ {m : Nat} {T L A : Tr0}, m ≠ 1 → St hc m T L A nb tb → St hc' m T L A nb tb := fun hm hS => St_hc hS (fun r hr => c r (fun q => hm (ofm_u hr q)))
  have eR : ∀ i, rowS hm' i = rowS hm i := fun i => by funext k; unfold rowS; rw [e24]
  intro i
  match i with
  | 0 => show hc' (9, 0, 0) 1 = nI sz; rw [c _ (by unfold ofm; simp)]; exact h.sz
  | 1 => exact (e2 11 (by decide) (by decide) (by decide)).trans h.sm
  | 2 => exact h.sb
  | 3 => intro k hk; rw [c _ (by unfold ofm; simp), e25]; exact h.by k hk
  | 4 => intro k hk; rw [e25]; exact h.bn k hk
  | 5 => show hc' (5, 0, 0) 7 = hm' (10, 0, 0) 12; rw [c _ (by unfold ofm; simp), e2 12 (by decide) (by decide) (by decide)]; exact h.pe
  | 6 => show hc' (5, 0, 0) 8 = hm' (10, 0, 0) 13; rw [c _ (by unfold ofm; simp), e2 13 (by decide) (by decide) (by decide)]; exact h.pp
  | 7 => show hc' (9, 0, 0) 10 = nI wn; rw [c _ (by unfold ofm; simp)]; exact h.wc
  | 8 => exact (e2 30 (by decide) (by decide) (by decide)).trans h.wm
  | 9 => exact h.wb
  | 10 => intro j hj; rw [c _ (by unfold ofm; simp), e31]; exact h.wt j hj
  | 11 => 
    intro m hm
    by_cases q : m = 1
    · subst q; exact f1
    · rw [c _ (by unfold ofm; simp [q])]; exact h.b1 m hm
  | 12 => 
    intro m hm
    by_cases q : m = 1
    · subst q; exact f6
    · rw [c _ (by unfold ofm; simp [q])]; exact h.b6 m hm
  | 13 => show hc' (2, 0, 0) 1 = nI os; rw [c _ (by unfold ofm; simp)]; exact h.ho
  | 14 => exact h.hb
  | 15 => show hc' (2, 0, 0) 2 = nI hs; rw [c _ (by unfold ofm; simp)]; exact h.hs
  | 16 => exact (e2 8 (by decide) (by decide) (by decide)).trans h.hm
  | 17 => exact h.h8
  | 18 => intro i hi; rw [c _ (by unfold ofm; simp), e12]; exact h.sl i hi
  | 19 => intro i hi; rw [e12]; exact h.s1 i hi
  | 20 => exact (e2 2 (by decide) (by decide) (by decide)).trans h.nb
  | 21 => show hc' (9, 0, 0) 2 = hm' (10, 0, 0) 1; rw [c _ (by unfold ofm; simp), e2 1 (by decide) (by decide) (by decide)]; exact h.lo
  | 22 => show hm' (10, 0, 0) 1 = 0 ∨ hm' (10, 0, 0) 1 = 1; rw [e2 1 (by decide) (by decide) (by decide)]; exact h.l1
  | 23 => intro q; rw [e2 1 (by decide) (by decide) (by decide)] at q; have := h.l0 q; exact ⟨this.1, fun i hi => by rw [e12]; exact this.2 i hi⟩
  | 24 => intro q; rw [e2 1 (by decide) (by decide) (by decide)] at q; rw [eL, eA]; exact St_T (eS (by omega) (h.no q)) eT
  | 25 => intro q a ha; rw [e2 1 (by decide) (by decide) (by decide)] at q; rw [eR, eL, eA]; exact eS (by omega) (h.ke q a ha)
  | 26 => intro i hi q; rw [e12] at q; rw [eR, eL, eA]; exact eS (by omega) (h.sv i hi q)
  | n + 27 => exact trivial
end
section
variable {hc hm : HP} {tb sz wn os hs nb : Nat}
theorem isB_of {x : Int32} (h : x = 0 ∨ x = 1) : isB x = true := isB_iff.mpr h
theorem op_wouldType (a b : Int32) : Op (agr [1, 3, 2]) (fX9_wouldType a b) (fX10_wouldType a b) := by
  refine opY rfl rfl (a := a) (F := fun hp => if b < 0 then (fX9_wouldType_22 a b hp) else (if 5 < b then (fX9_wouldType_22 a b hp) else (fX9_wouldType_23 a b 1 hp))) (G := fun hm => (fX10_in b 0 5 hm).bind fun v32 => if v32 = 0 then (fX10_wouldType_23 a b 1 hm) else (fX10_wouldType_23 a b 0 hm)) (fun hc => rfl) (fun hm => rfl) ?_
  intro tb hc hm sz wn os hs nb ht hv l1 T hT h0 k hk ha
  subst ha
  have hsb := hv.sb
  rcases ix_n b (n := 6) (by omega) with ⟨j, hj, rfl⟩ | ho
  · have hS := Iv_WF hv l1 hT
    have hW := hS.2.2.2
    obtain ⟨hx, x1, x2, x3, _⟩ := copy_p (m := 1) (mr := 0) (hp := hc) (by omega) (hv.b1 0 (by omega)) (hv.b6 0 (by omega))
    have hS1 : St (up hx (3, 0, 1) 9 0) 1 T (hm (11, 20, 0)) (hm (11, 21, 0)) nb tb := by
      have hb := MR_St (MR_r9 (x := 0) (St_MR (St_Sm hS x2))) ⟨by rw [up_o (by simp), x2.2.2.2.1 7 (by omega) (by omega)]; exact hS.2.2.1.1, by rw [up_o (by simp), x2.2.2.2.1 8 (by omega) (by omega)]; exact hS.2.2.1.2⟩ hW
      exact hb
    have y10 : (up hx (3, 0, 1) 9 0) (11, 10, 0) = hc (11, 10, 0) := by rw [up_n (by decide)]; exact x3 _ (by unfold ofm; simp)
    -- the reference's side
    have g22 : (up (cpR hm (11, 23, 0) (11, 22, 0) 0 0 0 1150) (10, 0, 0) 25 0) (11, 22, 0) = T := by rw [up_n (by decide), cpR_o (by decide)]; exact hT
    have hl : LA (up (cpR hm (11, 23, 0) (11, 22, 0) 0 0 0 1150) (10, 0, 0) 25 0) (hm (11, 20, 0)) (hm (11, 21, 0)) nb := ⟨by rw [up_n (by decide), cpR_o (by decide)], by rw [up_n (by decide), cpR_o (by decide)], by rw [up_o (by simp), cpR_o (by decide)]; exact hv.nb⟩
    have mt := m_typesAll (hm := up (cpR hm (11, 23, 0) (11, 22, 0) 0 0 0 1150) (10, 0, 0) 25 0) (B := hm (11, 25, 0)) (T := T) (N := k) (by omega) hl (by rw [up_n (by decide), cpR_o (by decide)]) hW (by omega)
    have ct := c_typeText (F := True) (m := 1) (hm := up (cpR hm (11, 23, 0) (11, 22, 0) 0 0 0 1150) (10, 0, 0) 25 0) (h0 := up hx (3, 0, 1) 9 0) (hc := up hx (3, 0, 1) 9 0) (B := hc (11, 10, 0)) (N := k) (by omega) y10 (St_MR hS1) hW (by omega) (fun _ => by rw [up_s, up_s])
    rw [taF_cg (B := hc (11, 10, 0)) (B' := hm (11, 25, 0)) (N := k) (fun i hi => hv.by i (by omega)) k 0 _ T (by omega)] at ct
    have hWq := WF_taF (L := hm (11, 20, 0)) (A := hm (11, 21, 0)) (nb := nb) (B := hm (11, 25, 0)) k 0 (up (cpR hm (11, 23, 0) (11, 22, 0) 0 0 0 1150) (10, 0, 0) 25 0) T tb hW (by omega)
    have f1 := taF_h (L := hm (11, 20, 0)) (A := hm (11, 21, 0)) (nb := nb) (B := hm (11, 25, 0)) k 0 (up (cpR hm (11, 23, 0) (11, 22, 0) 0 0 0 1150) (10, 0, 0) 25 0) T
    have f2 := taF_f (L := hm (11, 20, 0)) (A := hm (11, 21, 0)) (nb := nb) (B := hm (11, 25, 0)) k 0 (up (cpR hm (11, 23, 0) (11, 22, 0) 0 0 0 1150) (10, 0, 0) 25 0) T
    rw [rwm_T g22] at mt
    generalize taF (hm (11, 20, 0)) (hm (11, 21, 0)) nb (hm (11, 25, 0)) k 0 (up (cpR hm (11, 23, 0) (11, 22, 0) 0 0 0 1150) (10, 0, 0) 25 0) T = q at *
    obtain ⟨hd, c1, c2, c3, c4, c5⟩ := ct
    have hWt := WF_taT hWq
    have hU := c2.2.1 trivial
    have fr : FrC 1 hc hd := fun r hr => by
      rw [c2.2.2.1 r hr, up_n (fun e => hr (by rw [e]; unfold ofm; simp)), x3 r hr]
    -- the answers
    have hans : ∃ v, fX9_wouldType_23 (nI k) (nI j) 1 hc = some (.inl v, hd) ∧ fX10_wouldType_23 (nI k) (nI j) 0 hm = some (v, cpR (rwm q.2.2.1 (taT q)) (11, 22, 0) (11, 23, 0) 0 0 0 1150) := by
      have ec : fX9_wouldType_23 (nI k) (nI j) 1 hc = (if nI j = nI 0 then (some ((.inl (nI q.1)), hd)) else (if nI j = nI 1 then (some ((.inl (hd (3, 0, 1) 7)), hd)) else (if nI j = nI 2 then (some ((.inl (hd (1, 0, 1) 3)), hd)) else (if nI j = nI 3 then (some ((.inl (hd (1, 0, 1) 2)), hd)) else (if nI j = nI 4 then ((fX7_at 9 1 (nI 10) hd).bind fun v8 => (fX7_at 9 0 (nI 10) hd).bind fun v9 => some ((.inl (v8 - v9)), hd)) else (some ((.inl (hd (3, 0, 1) 9)), hd))))))) := by
        show (fX3_copyFrom 1 0 hc).bind (fun hp5 => (fX3_typeText 1 10 0 (nI k) (up hp5 (3, 0, 1) 9 0)).bind fun q7 => if nI j = nI 0 then (some ((Sum.inl q7.1), q7.2)) else (if nI j = nI 1 then (some ((.inl (q7.2 (3, 0, 1) 7)), q7.2)) else (if nI j = nI 2 then (some ((.inl (q7.2 (1, 0, 1) 3)), q7.2)) else (if nI j = nI 3 then (some ((.inl (q7.2 (1, 0, 1) 2)), q7.2)) else (if nI j = nI 4 then ((fX7_at 9 1 (nI 10) q7.2).bind fun v8 => (fX7_at 9 0 (nI 10) q7.2).bind fun v9 => some ((.inl (v8 - v9)), q7.2)) else (some ((.inl (q7.2 (3, 0, 1) 9)), q7.2))))))) = _
        rw [x1, Option.bind_some, c1, Option.bind_some]
      have em : fX10_wouldType_23 (nI k) (nI j) 0 hm = (if nI j = nI 0 then some (nI q.1, cpR (rwm q.2.2.1 (taT q)) (11, 22, 0) (11, 23, 0) 0 0 0 1150) else (if nI j = nI 1 then some (taT q 36, cpR (rwm q.2.2.1 (taT q)) (11, 22, 0) (11, 23, 0) 0 0 0 1150) else (if nI j = nI 2 then some (taT q 1, cpR (rwm q.2.2.1 (taT q)) (11, 22, 0) (11, 23, 0) 0 0 0 1150) else (if nI j = nI 3 then some (taT q 0, cpR (rwm q.2.2.1 (taT q)) (11, 22, 0) (11, 23, 0) 0 0 0 1150) else (if nI j = nI 4 then some (taT q 32 - T 32, cpR (rwm q.2.2.1 (taT q)) (11, 22, 0) (11, 23, 0) 0 0 0 1150) else some (q.2.2.1 (10, 0, 0) 25, cpR (rwm q.2.2.1 (taT q)) (11, 22, 0) (11, 23, 0) 0 0 0 1150)))))) := by
        simp only [fX10_wouldType_23]
        have g23 : (cpR hm (11, 23, 0) (11, 22, 0) 0 0 0 1150) (11, 22, 0) = T := by rw [cpR_o (by decide)]; exact hT
        rw [rf_no h0, Option.bind_some, if_pos rfl, aside_ev, Option.bind_some, mt, Option.bind_some]
        simp only [fback_ev, Option.bind_some, rwm_e, g23]; rfl
      rw [ec, em]
      match j, hj with
      | 0, _ => exact ⟨_, rfl, rfl⟩
      | 1, _ => exact ⟨q.2.1, by rw [if_neg (by decide), if_pos rfl, c3], by rw [if_neg (by decide), if_pos rfl, (taT_r q).1]⟩
      | 2, _ => exact ⟨taT q 1, by rw [if_neg (by decide), if_neg (by decide), if_pos rfl, c2.1.a3], by rw [if_neg (by decide), if_neg (by decide), if_pos rfl]⟩
      | 3, _ => exact ⟨taT q 0, by rw [if_neg (by decide), if_neg (by decide), if_neg (by decide), if_pos rfl, c2.1.a2], by rw [if_neg (by decide), if_neg (by decide), if_neg (by decide), if_pos rfl]⟩
      | 4, _ =>
        refine ⟨taT q 32 - T 32, ?_, by rw [if_neg (by decide), if_neg (by decide), if_neg (by decide), if_neg (by decide), if_pos rfl]⟩
        have e0 : hd (11, 9, 0) = hc (11, 9, 0) := fr _ (by unfold ofm; simp)
        rw [if_neg (by decide), if_neg (by decide), if_neg (by decide), if_neg (by decide), if_pos rfl, at_n (show 10 < wlen 9 by decide), Option.bind_some, at_n (show 10 < wlen 9 by decide), Option.bind_some, hU.a4 10 (by omega) (by omega) (by omega), e0, hS.2.1.a4 10 (by omega) (by omega) (by omega)]
      | 5, _ => exact ⟨q.2.2.1 (10, 0, 0) 25, by rw [if_neg (by decide), if_neg (by decide), if_neg (by decide), if_neg (by decide), if_neg (by decide), c5 trivial], by rw [if_neg (by decide), if_neg (by decide), if_neg (by decide), if_neg (by decide), if_neg (by decide)]⟩
    obtain ⟨v, v1, v2⟩ := hans
    have R : ∀ r, r ≠ (11, 22, 0) → r ≠ (10, 0, 0) → r ≠ (11, 23, 0) → (cpR (rwm q.2.2.1 (taT q)) (11, 22, 0) (11, 23, 0) 0 0 0 1150) r = hm r := fun r a1 a2 a3 => by
      rw [cpR_o a1, rwm_n a1, f1 r a2, up_n a2, cpR_o a3]
    have R10 : ∀ i, i ≠ 25 → (cpR (rwm q.2.2.1 (taT q)) (11, 22, 0) (11, 23, 0) 0 0 0 1150) (10, 0, 0) i = hm (10, 0, 0) i := fun i hi => by
      rw [cpR_o (by decide), rwm_n (by decide), f2 i hi, up_o (fun e => hi e.2), cpR_o (by decide)]
    refine ⟨.inl v, hd, v, _, ?_, ?_, ⟨(R10 0 (by decide)).trans h0, rfl⟩, ⟨sz, wn, os, hs, nb, Iv_mono (Iv_try hv fr ?_ c2.1.a14 (R _ (by decide) (by decide) (by decide)) (R _ (by decide) (by decide) (by decide)) (R _ (by decide) (by decide) (by decide)) (R _ (by decide) (by decide) (by decide)) (R _ (by decide) (by decide) (by decide)) (R _ (by decide) (by decide) (by decide)) (fun i _ a _ => R10 i a) ?_) (by omega)⟩, CFr.of fr, ?_⟩
    · show (if nI j < 0 then (fX9_wouldType_22 (nI k) (nI j) hc) else (if nI 5 < nI j then (fX9_wouldType_22 (nI k) (nI j) hc) else (fX9_wouldType_23 (nI k) (nI j) 1 hc))) = _
      rw [if_neg (n_neg (by omega)), if_neg (show ¬ nI 5 < nI j by rw [n_lt (by omega) (by omega)]; omega), v1]
    · show (fX10_in (nI j) 0 (nI 5) hm).bind (fun v32 => if v32 = 0 then (fX10_wouldType_23 (nI k) (nI j) 1 hm) else (fX10_wouldType_23 (nI k) (nI j) 0 hm)) = _
      rw [in_in' (show j ≤ 5 by omega) (by omega), Option.bind_some, if_neg n10, v2]
    · rw [c2.1.a4]; exact isB_of hWt.re
    · intro i hi
      have := cpR_s (hp := rwm q.2.2.1 (taT q)) (dst := (11, 22, 0)) (src := (11, 23, 0)) (d0 := 0) (s0 := 0) (hi := 1150) (k := i) hi
      rw [Nat.zero_add] at this
      rw [this, rwm_n (by decide), f1 _ (by decide), up_n (by decide)]
      have t2 := cpR_s (hp := hm) (dst := (11, 23, 0)) (src := (11, 22, 0)) (d0 := 0) (s0 := 0) (hi := 1150) (k := i) hi
      rw [Nat.zero_add] at t2
      exact t2
    · intro r hr
      exact R r (fun e => hr (by rw [e]; unfold isM; simp)) (fun e => hr (by rw [e]; unfold isM; simp)) (fun e => hr (by rw [e]; unfold isM; simp))
  · refine OpI_throw hv (E := 2) (i := 2) rfl ?_ ?_
    · have r : fX9_wouldType_22 (nI k) b hc = some (.inr 2, hc) := rfl
      show (if b < 0 then (fX9_wouldType_22 (nI k) b hc) else (if nI 5 < b then (fX9_wouldType_22 (nI k) b hc) else (fX9_wouldType_23 (nI k) b 1 hc))) = _
      rw [r]
      by_cases q : b < 0
      · rw [if_pos q]
      · rw [if_neg q, if_pos (gt_out (by omega) ho q)]
    · show (fX10_in b 0 (nI 5) hm).bind (fun v32 => if v32 = 0 then (fX10_wouldType_23 (nI k) b 1 hm) else (fX10_wouldType_23 (nI k) b 0 hm)) = _
      rw [in_out' (by omega) ho, Option.bind_some, if_pos rfl]
      simp only [fX10_wouldType_23]
      rw [rf_yes h0 (show ¬ (3 : Int32) = 0 by decide), Option.bind_some, if_neg n10]; rfl
/-- the moving parts of a machine, copied, at another pace -/
theorem mot_cp {hd hx : HP} {T L A : Tr0} (hS : St hd 0 T L A nb tb) (b6 : isB (hd (6, 0, 1) 3) = true) (x1 : ∀ w, w = 0 ∨ w = 4 ∨ w = 5 ∨ w = 6 ∨ w = 7 ∨ w = 8 → ∀ k, k < wlen w → hx (11, w, 1) k = hd (11, w, 0) k) (x2 : ∀ k, 2 ≤ k → k < 5 → hx (1, 0, 1) k = hd (1, 0, 0) k) (x3 : ∀ k, 5 ≤ k → k < 9 → hx (0, 0, 1) k = hd (0, 0, 0) k) (x4 : hx (3, 0, 1) 6 = hd (3, 0, 0) 6) (x5 : hx (6, 0, 1) = hd (6, 0, 1)) : MR False hx hx 1 T L A nb := by
  obtain ⟨hM, _, _, hW⟩ := hS
  have hnb := hW.nb
  refine ⟨?_, fun f => f.elim, FrC.refl 1 hx, hnb, hW.w.2.2, hW.lg.2.2⟩
  intro i
  match i with
  | 0 => exact fun k hk => by rw [x1 0 (by omega) k hk]; exact hM.a0 k hk
  | 1 => exact fun k hk => by rw [x1 4 (by omega) k hk]; exact hM.a1 k hk
  | 2 => exact (x2 2 (by omega) (by omega)).trans hM.a2
  | 3 => exact (x2 3 (by omega) (by omega)).trans hM.a3
  | 4 => exact (x2 4 (by omega) (by omega)).trans hM.a4
  | 5 => exact x4.trans hM.a5
  | 6 => exact (x3 5 (by omega) (by omega)).trans hM.a6
  | 7 => exact (x3 6 (by omega) (by omega)).trans hM.a7
  | 8 => exact (x3 7 (by omega) (by omega)).trans hM.a8
  | 9 => exact (x3 8 (by omega) (by omega)).trans hM.a9
  | 10 => exact fun k hk => by rw [x1 5 (by omega) k (by show k < 26; omega)]; exact hM.a10 k hk
  | 11 => exact fun k hk => by rw [x1 6 (by omega) k (by show k < 26; omega)]; exact hM.a11 k hk
  | 12 => exact fun k hk => by rw [x1 7 (by omega) k (by show k < 26; omega)]; exact hM.a12 k hk
  | 13 => exact fun k hk => by rw [x1 8 (by omega) k (by show k < 26; omega)]; exact hM.a13 k hk
  | 14 => show isB (hx (6, 0, 1) 3) = true; rw [x5]; exact b6
  | n + 15 => exact trivial
theorem pace_loop {N : Nat} (hN : N ≤ 500) (ht : tb < 500000000) : ∀ (k p n n' : Nat) (hd hm : HP), p + k = 301 → 1 ≤ p → k < n → k < n' → Iv tb hd hm sz wn os hs nb → hm (10, 0, 0) 1 = 1 → (∀ i, i < 1150 → hm (11, 23, 0) i = hm (11, 22, 0) i) → ∃ v hd1 hm1, fX9_paceFor_11 n (nI N) (nI p) hd = some (.inl v, hd1) ∧ fX10_paceFor_16 n' (nI N) (nI p) hm = some (v, hm1) ∧ hm1 (10, 0, 0) 0 = hm (10, 0, 0) 0 ∧ Iv tb hd1 hm1 sz wn os hs nb ∧ CFr hd hd1 ∧ MFr hm hm1 := by
  intro k
  induction k with
  | zero =>
    intro p n n' hd hm hp hp1 hn hn' hv l1 has
    obtain ⟨n, rfl⟩ : ∃ q, n = q + 1 := ⟨n - 1, by omega⟩
    obtain ⟨n', rfl⟩ : ∃ q, n' = q + 1 := ⟨n' - 1, by omega⟩
    have g : (300 : Int32) < nI p := by show nI 300 < nI p; rw [n_lt (by omega) (by omega)]; omega
    refine ⟨m1, hd, hm, ?_, ?_, rfl, hv, CFr.refl hd, MFr.refl hm⟩
    · simp only [fX9_paceFor_11]; exact if_pos g
    · simp only [fX10_paceFor_16]; exact if_pos g
  | succ k ih =>
    intro p n n' hd hm hp hp1 hn hn' hv l1 has
    obtain ⟨n, rfl⟩ : ∃ q, n = q + 1 := ⟨n - 1, by omega⟩
    obtain ⟨n', rfl⟩ : ∃ q, n' = q + 1 := ⟨n' - 1, by omega⟩
    have g : ¬ (300 : Int32) < nI p := by show ¬ nI 300 < nI p; rw [n_lt (by omega) (by omega)]; omega
    generalize hT : hm (11, 22, 0) = T at has
    have hS := Iv_WF hv l1 hT
    have hW := hS.2.2.2
    have hWp : WF tb (uT T 14 (nI p)) (hm (11, 20, 0)) (hm (11, 21, 0)) nb := WF_s14 hW (isN_n (by omega)) (by rw [n_t (by omega)]; omega)
    obtain ⟨hx, y0, y1, y2, y3, y4, y5, y6, y7, y8⟩ := cpm_p (m := 1) (mr := 0) (hp := hd) (by omega) (hv.b1 0 (by omega))
    have hM := MR_set (x := nI p) (mot_cp hS (hv.b6 1 (by omega)) y1 y2 y3 y4 y8) (k0 := 5) (by omega)
    have y10 : (up hx (11, 0, 1) 5 (nI p)) (11, 10, 0) = hd (11, 10, 0) := by rw [up_n (by decide)]; exact y5 _ (by unfold ofm; simp)
    have hl : LA hm (hm (11, 20, 0)) (hm (11, 21, 0)) nb := ⟨rfl, rfl, hv.nb⟩
    have mt := m_typesAll (hm := hm) (B := hm (11, 25, 0)) (T := uT T 14 (nI p)) (N := N) (by omega) hl rfl hWp (by omega)
    have hM0 : MR False (up hx (11, 0, 1) 5 (nI p)) (up hx (11, 0, 1) 5 (nI p)) 1 (uT T 14 (nI p)) (hm (11, 20, 0)) (hm (11, 21, 0)) nb := ⟨hM.1, fun f => f.elim, FrC.refl _ _, hM.2.2.2⟩
    have ct := c_typeText (F := False) (m := 1) (hm := hm) (B := hd (11, 10, 0)) (N := N) (by omega) y10 hM0 hWp (by omega) (fun f => f.elim)
    rw [taF_cg (B := hd (11, 10, 0)) (B' := hm (11, 25, 0)) (N := N) (fun i hi => hv.by i (by omega)) N 0 _ (uT T 14 (nI p)) (by omega)] at ct
    have hWq := WF_taF (L := hm (11, 20, 0)) (A := hm (11, 21, 0)) (nb := nb) (B := hm (11, 25, 0)) N 0 hm (uT T 14 (nI p)) tb hWp (by omega)
    have f1 := taF_h (L := hm (11, 20, 0)) (A := hm (11, 21, 0)) (nb := nb) (B := hm (11, 25, 0)) N 0 hm (uT T 14 (nI p))
    have f2 := taF_f (L := hm (11, 20, 0)) (A := hm (11, 21, 0)) (nb := nb) (B := hm (11, 25, 0)) N 0 hm (uT T 14 (nI p))
    generalize taF (hm (11, 20, 0)) (hm (11, 21, 0)) nb (hm (11, 25, 0)) N 0 hm (uT T 14 (nI p)) = q at *
    obtain ⟨hd1, c1, c2, c3, c4, _⟩ := ct
    have hWt := WF_taT hWq
    have fr : FrC 1 hd hd1 := fun r hr => by
      rw [c2.2.2.1 r hr, up_n (fun e => hr (by rw [e]; unfold ofm; simp)), y5 r hr]
    have R : ∀ r, r ≠ (11, 22, 0) → r ≠ (10, 0, 0) → (cpR (rwm q.2.2.1 (taT q)) (11, 22, 0) (11, 23, 0) 0 0 0 1150) r = hm r := fun r a1 a2 => by
      rw [cpR_o a1, rwm_n a1, f1 r a2]
    have R10 : ∀ i, i ≠ 25 → (cpR (rwm q.2.2.1 (taT q)) (11, 22, 0) (11, 23, 0) 0 0 0 1150) (10, 0, 0) i = hm (10, 0, 0) i := fun i hi => by
      rw [cpR_o (by decide), rwm_n (by decide), f2 i hi]
    have RT : ∀ i, i < 1150 → (cpR (rwm q.2.2.1 (taT q)) (11, 22, 0) (11, 23, 0) 0 0 0 1150) (11, 22, 0) i = hm (11, 22, 0) i := fun i hi => by
      have := cpR_s (hp := rwm q.2.2.1 (taT q)) (dst := (11, 22, 0)) (src := (11, 23, 0)) (d0 := 0) (s0 := 0) (hi := 1150) (k := i) hi
      rw [Nat.zero_add] at this
      rw [this, rwm_n (by decide), f1 _ (by decide), hT]; exact has i hi
    have hv1 : Iv tb hd1 (cpR (rwm q.2.2.1 (taT q)) (11, 22, 0) (11, 23, 0) 0 0 0 1150) sz wn os hs nb := Iv_try hv fr (by rw [c2.1.a4]; exact isB_of hWt.re) c2.1.a14 (R _ (by decide) (by decide)) (R _ (by decide) (by decide)) (R _ (by decide) (by decide)) (R _ (by decide) (by decide)) (R _ (by decide) (by decide)) (R _ (by decide) (by decide)) (fun i _ a _ => R10 i a) RT
    have mf : MFr hm (cpR (rwm q.2.2.1 (taT q)) (11, 22, 0) (11, 23, 0) 0 0 0 1150) := fun r hr => R r (fun e => hr (by rw [e]; unfold isM; simp)) (fun e => hr (by rw [e]; unfold isM; simp))
    have ec : fX9_paceFor_11 (n + 1) (nI N) (nI p) hd = (if q.2.1 = 4 then (fX9_paceFor_11 n (nI N) (nI (p + 1)) hd1) else (if q.2.1 = 5 then (fX9_paceFor_11 n (nI N) (nI (p + 1)) hd1) else (some ((.inl (nI p)), hd1)))) := by
      simp only [fX9_paceFor_11, fX9_paceFor_78]
      rw [if_neg g, y0, Option.bind_some, show fX7_put 0 1 5 (nI p) hx = some (up hx (11, 0, 1) 5 (nI p)) from put_n (k := 5) (show 5 < wlen 0 by decide), Option.bind_some, c1, Option.bind_some, ← nI_succ]
      show (if hd1 (3, 0, 1) 7 = 4 then _ else (if hd1 (3, 0, 1) 7 = 5 then _ else _)) = _
      rw [c3]
    have em : fX10_paceFor_16 (n' + 1) (nI N) (nI p) hm = (if q.2.1 = 4 then (fX10_paceFor_16 n' (nI N) (nI (p + 1)) (cpR (rwm q.2.2.1 (taT q)) (11, 22, 0) (11, 23, 0) 0 0 0 1150)) else (if q.2.1 = 5 then (fX10_paceFor_16 n' (nI N) (nI (p + 1)) (cpR (rwm q.2.2.1 (taT q)) (11, 22, 0) (11, 23, 0) 0 0 0 1150)) else (some (nI p, (cpR (rwm q.2.2.1 (taT q)) (11, 22, 0) (11, 23, 0) 0 0 0 1150))))) := by
      have hp5 : fX10_puts 5 (nI p) hm = some (rwm hm (uT T 14 (nI p))) := by
        have := puts_5 (hm := hm) (T := T) (x := nI p)
        rw [rwm_T hT] at this; exact this
      simp only [fX10_paceFor_16, fX10_paceFor_62]
      rw [if_neg g, hp5, Option.bind_some, mt, Option.bind_some]
      simp only [fback_ev, Option.bind_some, rwm_e, (taT_r q).1, nI_succ]
    rw [ec, em]
    have nx := ih (p + 1) n n' hd1 (cpR (rwm q.2.2.1 (taT q)) (11, 22, 0) (11, 23, 0) 0 0 0 1150) (by omega) (by omega) (by omega) (by omega) hv1 ((R10 1 (by decide)).trans l1) (fun i hi => by rw [R _ (by decide) (by decide), RT i hi, hT]; exact has i hi)
    obtain ⟨v, hd2, hm2, n1, n2, n3, n4, n5, n6⟩ := nx
    have nx' : ∃ v hd2 hm2, fX9_paceFor_11 n (nI N) (nI (p + 1)) hd1 = some (.inl v, hd2) ∧ fX10_paceFor_16 n' (nI N) (nI (p + 1)) (cpR (rwm q.2.2.1 (taT q)) (11, 22, 0) (11, 23, 0) 0 0 0 1150) = some (v, hm2) ∧ hm2 (10, 0, 0) 0 = hm (10, 0, 0) 0 ∧ Iv tb hd2 hm2 sz wn os hs nb ∧ CFr hd hd2 ∧ MFr hm hm2 := ⟨v, hd2, hm2, n1, n2, n3.trans (R10 0 (by decide)), n4, (CFr.of fr).trans n5, mf.trans n6⟩
    by_cases q4 : q.2.1 = 4
    · rw [if_pos q4, if_pos q4]; exact nx'
    · rw [if_neg q4, if_neg q4]
      by_cases q5 : q.2.1 = 5
      · rw [if_pos q5, if_pos q5]; exact nx'
      · rw [if_neg q5, if_neg q5]
        exact ⟨nI p, hd1, _, rfl, rfl, R10 0 (by decide), hv1, CFr.of fr, mf⟩
theorem op_paceFor (a : Int32) : Op (agr [1, 3]) (fX9_paceFor a) (fX10_paceFor a) := by
  refine opY rfl rfl (a := a) (F := fun hp => fX9_paceFor_11 FU a 1 hp) (G := fun hm => (fX10_putsAside hm).bind fun hp12 => fX10_paceFor_16 FU a 1 hp12) (fun hc => rfl) (fun hm => rfl) ?_
  intro tb hc hm sz wn os hs nb ht hv l1 T hT h0 k hk ha
  subst ha
  have hsb := hv.sb
  have hf := FU_ge
  have R : ∀ r, r ≠ (11, 23, 0) → (cpR hm (11, 23, 0) (11, 22, 0) 0 0 0 1150) r = hm r := fun r a => cpR_o a
  have hv1 : Iv tb hc (cpR hm (11, 23, 0) (11, 22, 0) 0 0 0 1150) sz wn os hs nb := Iv_try hv (FrC.refl 1 hc) (hv.b1 1 (by omega)) (hv.b6 1 (by omega)) (R _ (by decide)) (R _ (by decide)) (R _ (by decide)) (R _ (by decide)) (R _ (by decide)) (R _ (by decide)) (fun i _ _ _ => by rw [R _ (by decide)]) (fun i _ => by rw [R _ (by decide)])
  obtain ⟨v, hd1, hm1, p1, p2, p3, p4, p5, p6⟩ := pace_loop (N := k) (by omega) ht 300 1 FU FU hc (cpR hm (11, 23, 0) (11, 22, 0) 0 0 0 1150) (by omega) (by omega) (by omega) (by omega) hv1 (by rw [R _ (by decide)]; exact l1) (fun i hi => by
    have := cpR_s (hp := hm) (dst := (11, 23, 0)) (src := (11, 22, 0)) (d0 := 0) (s0 := 0) (hi := 1150) (k := i) hi
    rw [Nat.zero_add] at this
    rw [this, R _ (by decide)])
  refine ⟨.inl v, hd1, v, hm1, p1, ?_, ⟨by rw [p3, R _ (by decide)]; exact h0, rfl⟩, ⟨sz, wn, os, hs, nb, Iv_mono p4 (by omega)⟩, p5, ?_⟩
  · show (fX10_putsAside hm).bind (fun hp12 => fX10_paceFor_16 FU (nI k) (nI 1) hp12) = _
    rw [aside_ev, Option.bind_some]; exact p2
  · exact MFr.trans (fun r hr => R r (fun e => hr (by rw [e]; unfold isM; simp))) p6
end
