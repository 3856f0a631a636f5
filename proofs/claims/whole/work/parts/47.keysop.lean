/-! ===== the fewest keys: the call ===== -/
section
theorem Iv_12 {tb : Nat} {hc hm hc' : HP} {sz wn os hs nb : Nat} (h : Iv tb hc hm sz wn os hs nb) (e : ∀ r, r ≠ (11, 12, 0) → hc' r = hc r) : Iv tb hc' hm sz wn os hs nb := by
  have eS : ∀ {m : Nat} {T L A : Tr0}, St hc m T L A nb tb → St hc' m T L A nb tb := fun hS => St_hc hS (fun r hr => e r (fun q => by
    rw [q] at hr; unfold ofm at hr; simp at hr))
  have e9 : hc' (9, 0, 0) = hc (9, 0, 0) := e _ (by simp)
  have e5 : hc' (5, 0, 0) = hc (5, 0, 0) := e _ (by simp)
  have e2 : hc' (2, 0, 0) = hc (2, 0, 0) := e _ (by simp)
  have eb : hc' (11, 10, 0) = hc (11, 10, 0) := e _ (by simp)
  have ew : hc' (11, 11, 0) = hc (11, 11, 0) := e _ (by simp)
  have e1 : ∀ m, hc' (1, 0, m) = hc (1, 0, m) := fun m => e _ (by simp)
  have e6 : ∀ m, hc' (6, 0, m) = hc (6, 0, m) := fun m => e _ (by simp)
  have e8 : ∀ m, hc' (8, 0, m) = hc (8, 0, m) := fun m => e _ (by simp)
  intro i
  match i with
  | 24 => exact fun a => eS (h.no a)
  | 25 => exact fun a b c => eS (h.ke a b c)
  | 26 => exact fun a b c => eS (h.sv a b c)
  | 0 => have g := h 0; simp only [invp, e9, e5, e2, eb, ew, e1, e6, e8] at g ⊢; exact g
  | 1 => exact h 1
  | 2 => exact h 2
  | 3 => have g := h 3; simp only [invp, e9, e5, e2, eb, ew, e1, e6, e8] at g ⊢; exact g
  | 4 => exact h 4
  | 5 => have g := h 5; simp only [invp, e9, e5, e2, eb, ew, e1, e6, e8] at g ⊢; exact g
  | 6 => have g := h 6; simp only [invp, e9, e5, e2, eb, ew, e1, e6, e8] at g ⊢; exact g
  | 7 => have g := h 7; simp only [invp, e9, e5, e2, eb, ew, e1, e6, e8] at g ⊢; exact g
  | 8 => exact h 8
  | 9 => exact h 9
  | 10 => have g := h 10; simp only [invp, e9, e5, e2, eb, ew, e1, e6, e8] at g ⊢; exact g
  | 11 => have g := h 11; simp only [invp, e9, e5, e2, eb, ew, e1, e6, e8] at g ⊢; exact g
  | 12 => have g := h 12; simp only [invp, e9, e5, e2, eb, ew, e1, e6, e8] at g ⊢; exact g
  | 13 => have g := h 13; simp only [invp, e9, e5, e2, eb, ew, e1, e6, e8] at g ⊢; exact g
  | 14 => exact h 14
  | 15 => have g := h 15; simp only [invp, e9, e5, e2, eb, ew, e1, e6, e8] at g ⊢; exact g
  | 16 => exact h 16
  | 17 => exact h 17
  | 18 => have g := h 18; simp only [invp, e9, e5, e2, eb, ew, e1, e6, e8] at g ⊢; exact g
  | 19 => exact h 19
  | 20 => exact h 20
  | 21 => have g := h 21; simp only [invp, e9, e5, e2, eb, ew, e1, e6, e8] at g ⊢; exact g
  | 22 => exact h 22
  | 23 => exact h 23
  | n + 27 => exact trivial
theorem far_m (x : Int32) : ∀ (p k n : Nat) (hm : HP), k + p = 41 → p < n → ∃ hm', fX10_keysTo_37 n x (nI k) hm = fX10_keysTo_61 x (up hm' (10, 0, 0) 28 0) ∧ (∀ c, k ≤ c → c < 41 → hm' (11, 29, 0) c = m1) ∧ (∀ c, c < k → hm' (11, 29, 0) c = hm (11, 29, 0) c) ∧ ∀ r, r ≠ (11, 29, 0) → hm' r = hm r := by
  intro p
  induction p with
  | zero =>
    intro k n hm hk hn
    obtain ⟨n, rfl⟩ : ∃ q, n = q + 1 := ⟨n - 1, by omega⟩
    refine ⟨hm, ?_, fun c a b => absurd b (by omega), fun _ _ => rfl, fun _ _ => rfl⟩
    simp only [fX10_keysTo_37]
    rw [if_pos (show (40 : Int32) < nI k by rw [show (40 : Int32) = nI 40 from rfl, n_lt (by omega) (by omega)]; omega)]
  | succ p ih =>
    intro k n hm hk hn
    obtain ⟨n, rfl⟩ : ∃ q, n = q + 1 := ⟨n - 1, by omega⟩
    obtain ⟨hm', e, a1, a2, a3⟩ := ih (k + 1) n (up hm (11, 29, 0) k m1) (by omega) (by omega)
    refine ⟨hm', ?_, fun c c1 c2 => ?_, fun c c1 => ?_, fun r hr => (a3 r hr).trans (up_n hr)⟩
    · simp only [fX10_keysTo_37]
      rw [if_neg (show ¬ (40 : Int32) < nI k by rw [show (40 : Int32) = nI 40 from rfl, n_lt (by omega) (by omega)]; omega), if_pos (inb_n (show k < alen (11, 29, 0) by show k < 41; omega) (by decide)), n_c (by omega), ← nI_succ]
      exact e
    · by_cases q : c = k
      · rw [q, a2 k (by omega), up_s]
      · exact a1 c (by omega) c2
    · rw [a2 c (by omega), up_o (fun z => by have := z.2; omega)]
theorem cn_no : ∀ n, cnF (fun _ => none) n = 0 := by
  intro n
  induction n with
  | zero => rfl
  | succ n ih => show cnF (fun _ => none) n + (if (none : Option Nat) = none then 0 else 1) = 0; rw [ih, if_pos rfl]
theorem op_keysTo (a : Int32) : Op (agr [1, 3]) (fX9_keysTo a) (fX10_keysTo a) := by
  refine opL (d0 := 0) rfl (F := fun hc => (fX9_requireCarriageColumn a hc).bind fun q4 => Sum.elim (fun _ => (fX1_fewestKeysTo 0 a 12 0 hc).bind fun q6 => some ((.inl q6.1), q6.2)) (fun E => some (.inr E, hc)) q4) (G := fun hm => (fX10_its 0 hm).bind fun v20 => (fX10_in a 0 v20 hm).bind fun v21 => if v21 = 0 then (fX10_keysTo_26 a 1 hm) else (fX10_keysTo_26 a 0 hm)) (fun hc => rfl) ?_ ?_ ?_
  · intro hm q
    simp only [fX10_keysTo]
    rw [nl_1 q, Option.bind_some, if_neg n10]
  · intro hm q
    simp only [fX10_keysTo]
    rw [nl_0 q, Option.bind_some, if_pos rfl]
  · intro tb hc hm sz wn os hs nb ht hv l1 T hT h0
    have hf := FU_ge
    have hS := Iv_WF hv l1 hT
    have hW := hS.2.2.2
    have hw := hW.w
    have hpc := hW.co
    have h1 := St_MR hS
    have e9 : T 9 = nI (tn (T 9)) := hw.1
    have eT := rwm_T hT
    rcases ix_n a (n := tn (T 9) + 1) (by omega) with ⟨tg, htg, rfl⟩ | ho
    · -- the class
      have hs9 : (FI hc 12 0 m1) (1, 0, 0) 3 = nI (tn (T 1)) := by
        have : (FI hc 12 0 m1) (1, 0, 0) = hc (1, 0, 0) := by funext k; exact if_neg (by simp)
        rw [this, hS.1.a3]; exact hpc.1
      have f12 : ∀ r, r ≠ (11, 12, 0) → (up (FI hc 12 0 m1) (11, 12, 0) (tn (T 1)) 0) r = hc r := fun r hr => by
        rw [up_n hr]; funext k; exact if_neg (fun z => hr z.1)
      have hC0 : CkR (tn (T 9)) (up (FI hc 12 0 m1) (11, 12, 0) (tn (T 1)) 0) (fun c => if c = tn (T 1) then some 0 else none) := by
        refine ⟨fun c hc1 => ?_, fun c d hc1 hd => ?_⟩
        · by_cases q : c = tn (T 1)
          · dsimp only; rw [q, up_s, if_pos rfl]; rfl
          · dsimp only; rw [up_o (fun z => q z.2), if_neg q]; exact if_pos ⟨rfl, by show c < 41; omega⟩
        · by_cases q : c = tn (T 1)
          · dsimp only at hd; rw [if_pos q] at hd; cases hd; omega
          · dsimp only at hd; rw [if_neg q] at hd; cases hd
      have hP0 : PcP T (tn (T 1)) (tn (T 9)) 0 (fun c => if c = tn (T 1) then some 0 else none) := by
        intro c hc1
        by_cases q : c = tn (T 1)
        · exact Or.inl ⟨0, Nat.le_refl _, if_pos q, q, fun i hi => absurd hi (by omega)⟩
        · exact Or.inr ⟨if_neg q, q⟩
      obtain ⟨v, hd', c1, c2, c3⟩ := keys_c hW (s := tn (T 1)) (tg := tg) (by omega) (tn (T 9) + 1) 0 FU _ _ (by omega) (by omega) (St_12 hS f12) hC0 hP0
      have F12 : ∀ r, r ≠ (11, 12, 0) → hd' r = hc r := fun r hr => (c3 r hr).trans (f12 r hr)
      -- the reference
      obtain ⟨hm1, g1, g2, _, g4⟩ := far_m (nI tg) 41 0 FU hm (by omega) (by omega)
      have K0 : KmR (tn (T 9)) (up hm1 (10, 0, 0) 28 0) (fun _ => none) (fun _ => 0) 0 := by
        refine ⟨fun c hc1 => ?_, fun i hi => absurd hi (by omega), up_s⟩
        rw [up_n (by decide), g2 c (by omega) (by omega)]; rfl
      have hT1 : (up hm1 (10, 0, 0) 28 0) (11, 22, 0) = T := by rw [up_n (by decide), g4 _ (by decide)]; exact hT
      obtain ⟨hm2, r1, K1, r2, r3⟩ := re_p (T := T) (t := tn (T 1)) (d := 0) K0 hw.2.2 hpc.2 (fun x hx => by cases hx) (fun _ => by omega)
      simp only [if_true] at K1
      have J1 : JmP T (tn (T 1)) (tn (T 9)) 0 (fun b _ => ∃ i, i < 0 ∧ (fun i => if i = 0 then tn (T 1) else 0) i = b) (fun c => if c = tn (T 1) then some 0 else none) (fun i => if i = 0 then tn (T 1) else 0) (0 + 1) := by
        refine ⟨fun i hi => ?_, fun c hc1 => ?_, fun c d hc1 hd => ?_, fun i j d e hi hj => absurd hj (by omega), fun b c d _ _ hs => ?_, fun i d e hi _ hd he => ?_, if_pos rfl, fun b c hs => ?_⟩
        · have : i = 0 := by omega
          subst this
          exact ⟨hpc.2, 0, Nat.le_refl _, if_pos (if_pos rfl)⟩
        · by_cases q : c = tn (T 1)
          · exact Or.inr ⟨0, by omega, q.symm⟩
          · exact Or.inl (if_neg q)
        · by_cases q : c = tn (T 1)
          · dsimp only at hd; rw [if_pos q] at hd; cases hd; exact q
          · dsimp only at hd; rw [if_neg q] at hd; cases hd
        · obtain ⟨i, hi, _⟩ := hs; exact absurd hi (by omega)
        · have : i = 0 := by omega
          subst this
          rw [hd] at he; cases he; omega
        · obtain ⟨i, hi, _⟩ := hs; exact absurd hi (by omega)
      have C1 : cnF (fun c => if c = tn (T 1) then some 0 else none) (tn (T 9) + 1) = 0 + 1 := by
        have := cnF_up (f := fun _ => none) (t := tn (T 1)) (d := 0) rfl (tn (T 9) + 1)
        rw [cn_no, if_pos (by omega)] at this
        exact this
      obtain ⟨v', hm3, k1, k2, k3, k4⟩ := keys_m hW (s := tn (T 1)) (tg := tg) (by omega) 41 0 FU (0 + 1) hm2 _ _ (by omega) (by omega) (by omega) K1 J1 C1
      have ev : v = v' := by
        rcases c2 with ⟨j, j1, j2⟩ | ⟨j1, j2⟩
        · rcases k2 with ⟨i, i1, _, i3⟩ | ⟨i1, i2⟩
          · rw [j1, i1, lv_u j2 i3]
          · exact absurd j2.1 (i2 j)
        · rcases k2 with ⟨i, i1, i2, i3⟩ | ⟨i1, i2⟩
          · exact absurd (rc_mono i3.1 (by omega)) j2
          · rw [j1, i1]
      have R : ∀ r, r ≠ (11, 22, 0) → r ≠ (11, 29, 0) → r ≠ (11, 30, 0) → r ≠ (10, 0, 0) → (rwm hm3 T) r = hm r := fun r a0 a1 a2 a3 => by
        rw [rwm_n a0, k3 r a1 a2 a3, r2 r a1 a2 a3, up_n a3, g4 r a1]
      have R0 : ∀ k, k ≠ 28 → (rwm hm3 T) (10, 0, 0) k = hm (10, 0, 0) k := fun k hk => by
        rw [rwm_n (by decide), k4 k hk, r3 k hk, up_o (fun z => hk z.2), g4 _ (by decide)]
      refine ⟨.inl v, hd', v, rwm hm3 T, ?_, ?_, ⟨(R0 0 (by decide)).trans h0, rfl⟩, ⟨sz, wn, os, hs, nb, Iv_mono (Iv_try (Iv_12 hv F12) (FrC.refl 1 hd') ?_ ?_ (R _ (by decide) (by decide) (by decide) (by decide)) (R _ (by decide) (by decide) (by decide) (by decide)) (R _ (by decide) (by decide) (by decide) (by decide)) (R _ (by decide) (by decide) (by decide) (by decide)) (R _ (by decide) (by decide) (by decide) (by decide)) (R _ (by decide) (by decide) (by decide) (by decide)) (fun k _ _ hk => R0 k hk) (fun k _ => by rw [rwm_e, hT])) (by omega)⟩, fun r hr => F12 r (fun q => by rw [q] at hr; unfold isM at hr; simp at hr), fun r hr => ?_⟩
      · show (fX9_requireCarriageColumn (nI tg) hc).bind (fun q4 => Sum.elim (fun _ => (fX1_fewestKeysTo 0 (nI tg) 12 0 hc).bind fun q6 => some ((Sum.inl q6.1 : Int32 ⊕ Nat), q6.2)) (fun E => some (.inr E, hc)) q4) = _
        rw [rqCC_in h1 hW htg, Option.bind_some]
        have ew : fX1_fewestKeysTo 0 (nI tg) 12 0 hc = some (v, hd') := by
          simp only [fX1_fewestKeysTo]
          rw [fill_eq, Option.bind_some, hs9, put_n (show tn (T 1) < wlen 12 by show tn (T 1) < 41; omega), Option.bind_some]
          rw [show fX7_at 0 0 0 (up (FI hc 12 0 m1) (11, 12, 0) (tn (T 1)) 0) = some (nI (tn (T 9))) from by
            have := at_n (hp := up (FI hc 12 0 m1) (11, 12, 0) (tn (T 1)) 0) (m := 0) (show 0 < wlen 0 by decide)
            rw [f12 (11, 0, 0) (by decide), hS.1.a0 0 (by omega)] at this
            exact this.trans (congrArg some e9), Option.bind_some]
          exact c1
        show (fX1_fewestKeysTo 0 (nI tg) 12 0 hc).bind (fun q6 => some ((Sum.inl q6.1 : Int32 ⊕ Nat), q6.2)) = _
        rw [ew, Option.bind_some]
      · show (fX10_its 0 hm).bind (fun v20 => (fX10_in (nI tg) 0 v20 hm).bind fun v21 => if v21 = 0 then (fX10_keysTo_26 (nI tg) 1 hm) else (fX10_keysTo_26 (nI tg) 0 hm)) = _
        have ei := its_0 (hm := hm) (T := T)
        rw [eT] at ei
        rw [ei, Option.bind_some, e9, in_in' (show tg ≤ tn (T 9) by omega) (by omega), Option.bind_some, if_neg n10]
        simp only [fX10_keysTo_26]
        rw [rf_no h0, Option.bind_some, if_pos rfl]
        refine Eq.trans g1 ?_
        show (fX10_reaches ((up hm1 (10, 0, 0) 28 0) (11, 22, 0) 1) 0 (up hm1 (10, 0, 0) 28 0)).bind (fun hp15 => fX10_keysTo_74 FU (nI tg) 0 hp15) = _
        rw [rwm_T hT1] at r1
        rw [hT1]
        conv => lhs; rw [hpc.1]
        rw [show fX10_reaches (nI (tn (T 1))) 0 (up hm1 (10, 0, 0) 28 0) = _ from r1, Option.bind_some, ev]
        exact k1
      · rw [F12 _ (by simp)]; exact hv.b1 1 (by omega)
      · rw [F12 _ (by simp)]; exact hv.b6 1 (by omega)
      · unfold isM at hr
        by_cases q : r = (11, 22, 0)
        · rw [q, rwm_e, hT]
        · exact R r q (fun z => hr (by rw [z]; simp)) (fun z => hr (by rw [z]; simp)) (fun z => hr (by rw [z]; simp))
    · refine OpI_throw hv (E := 3) (i := 1) rfl ?_ ?_
      · show (fX9_requireCarriageColumn a hc).bind (fun q4 => Sum.elim (fun _ => (fX1_fewestKeysTo 0 a 12 0 hc).bind fun q6 => some ((Sum.inl q6.1 : Int32 ⊕ Nat), q6.2)) (fun E => some (.inr E, hc)) q4) = _
        rw [rqCC_out h1 hW ho]; rfl
      · show (fX10_its 0 hm).bind (fun v20 => (fX10_in a 0 v20 hm).bind fun v21 => if v21 = 0 then (fX10_keysTo_26 a 1 hm) else (fX10_keysTo_26 a 0 hm)) = _
        have ei := its_0 (hm := hm) (T := T)
        rw [eT] at ei
        rw [ei, Option.bind_some, e9, in_out' (by omega) ho, Option.bind_some, if_pos rfl]
        simp only [fX10_keysTo_26]
        rw [rf_yes h0 (show ¬ (2 : Int32) = 0 by decide), Option.bind_some, if_neg n10]; rfl
end
