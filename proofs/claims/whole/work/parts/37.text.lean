/-! ===== what both hold ready; texts ===== -/
section
variable {tb : Nat} {hc hm hc' hm' : HP} {sz wn os hs nb : Nat}
theorem Iv_txt {wn' : Nat} (h : Iv tb hc hm sz wn os hs nb) (c1 : ∀ r, r ≠ (9, 0, 0) → r ≠ (11, 11, 0) → hc' r = hc r) (c2 : ∀ k, k ≠ 10 → hc' (9, 0, 0) k = hc (9, 0, 0) k) (d1 : ∀ r, r ≠ (10, 0, 0) → r ≠ (11, 31, 0) → hm' r = hm r) (d2 : ∀ k, k ≠ 0 → k ≠ 30 → hm' (10, 0, 0) k = hm (10, 0, 0) k) (w1 : hc' (9, 0, 0) 10 = nI wn') (w2 : hm' (10, 0, 0) 30 = nI wn') (w3 : wn' ≤ 40) (w4 : ∀ j, j < wn' → hc' (11, 11, 0) j = hm' (11, 31, 0) j) : Iv tb hc' hm' sz wn' os hs nb := by
  have eS : ∀ {m : Nat} {T L A : Tr0}, St hc m T L A nb tb → St hc' m T L A nb tb := fun hS => St_hc hS (fun r hr => c1 r (fun q => by rw [q] at hr; unfold ofm at hr; simp at hr) (fun q => by rw [q] at hr; unfold ofm at hr; simp at hr))
  have eT : hm' (11, 22, 0) = hm (11, 22, 0) := d1 _ (by decide) (by decide)
  have eL : hm' (11, 20, 0) = hm (11, 20, 0) := d1 _ (by decide) (by decide)
  have eA : hm' (11, 21, 0) = hm (11, 21, 0) := d1 _ (by decide) (by decide)
  have eR : ∀ i, rowS hm' i = rowS hm i := fun i => by funext k; unfold rowS; rw [d1 _ (by decide) (by decide)]
  have e12 : hm' (12, 0, 0) = hm (12, 0, 0) := d1 _ (by decide) (by decide)
  have e1 : hm' (10, 0, 0) 1 = hm (10, 0, 0) 1 := d2 1 (by decide) (by decide)
  intro i
  match i with
  | 0 => exact (c2 1 (by decide)).trans h.sz
  | 1 => exact (d2 11 (by decide) (by decide)).trans h.sm
  | 2 => exact h.sb
  | 3 => intro k hk; rw [c1 _ (by decide) (by decide), d1 _ (by decide) (by decide)]; exact h.by k hk
  | 4 => intro k hk; rw [d1 _ (by decide) (by decide)]; exact h.bn k hk
  | 5 => show hc' (5, 0, 0) 7 = hm' (10, 0, 0) 12; rw [c1 _ (by decide) (by decide), d2 12 (by decide) (by decide)]; exact h.pe
  | 6 => show hc' (5, 0, 0) 8 = hm' (10, 0, 0) 13; rw [c1 _ (by decide) (by decide), d2 13 (by decide) (by decide)]; exact h.pp
  | 7 => exact w1
  | 8 => exact w2
  | 9 => exact w3
  | 10 => exact w4
  | 11 => intro m hm; rw [c1 _ (by simp) (by simp)]; exact h.b1 m hm
  | 12 => intro m hm; rw [c1 _ (by simp) (by simp)]; exact h.b6 m hm
  | 13 => show hc' (2, 0, 0) 1 = nI os; rw [c1 _ (by decide) (by decide)]; exact h.ho
  | 14 => exact h.hb
  | 15 => show hc' (2, 0, 0) 2 = nI hs; rw [c1 _ (by decide) (by decide)]; exact h.hs
  | 16 => exact (d2 8 (by decide) (by decide)).trans h.hm
  | 17 => exact h.h8
  | 18 => intro i hi; rw [c1 _ (by simp) (by simp), e12]; exact h.sl i hi
  | 19 => intro i hi; rw [e12]; exact h.s1 i hi
  | 20 => exact (d2 2 (by decide) (by decide)).trans h.nb
  | 21 => show hc' (9, 0, 0) 2 = hm' (10, 0, 0) 1; rw [c2 2 (by decide), e1]; exact h.lo
  | 22 => show hm' (10, 0, 0) 1 = 0 ∨ hm' (10, 0, 0) 1 = 1; rw [e1]; exact h.l1
  | 23 => intro q; rw [e1] at q; have := h.l0 q; exact ⟨this.1, fun i hi => by rw [e12]; exact this.2 i hi⟩
  | 24 => intro q; rw [e1] at q; rw [eT, eL, eA]; exact eS (h.no q)
  | 25 => intro q a ha; rw [e1] at q; rw [eR, eL, eA]; exact eS (h.ke q a ha)
  | 26 => intro i hi q; rw [e12] at q; rw [eR, eL, eA]; exact eS (h.sv i hi q)
  | n + 27 => exact trivial
end
section
theorem op_parseError : Op agp (fun hp => (fX9_parseError hp).bind fun r => some (r, hp)) fX10_parseError := by
  intro tb hc hm ht hI
  obtain ⟨sz, wn, os, hs, nb, hv⟩ := hI
  exact ⟨hc (5, 0, 0) 7, hc, hm (10, 0, 0) 12, th hm 0, rfl, rfl, hv.pe, ⟨sz, wn, os, hs, nb, Iv_mono (Iv_th hv) (by omega)⟩, CFr.refl hc, (MFr.refl hm).th⟩
theorem op_errorPosition : Op agp (fun hp => (fX9_errorPosition hp).bind fun r => some (r, hp)) fX10_errorPosition := by
  intro tb hc hm ht hI
  obtain ⟨sz, wn, os, hs, nb, hv⟩ := hI
  exact ⟨hc (5, 0, 0) 8, hc, hm (10, 0, 0) 13, th hm 0, rfl, rfl, hv.pp, ⟨sz, wn, os, hs, nb, Iv_mono (Iv_th hv) (by omega)⟩, CFr.refl hc, (MFr.refl hm).th⟩
theorem op_buffered : Op agp (fun hp => (fX9_buffered hp).bind fun r => some (r, hp)) fX10_buffered := by
  intro tb hc hm ht hI
  obtain ⟨sz, wn, os, hs, nb, hv⟩ := hI
  exact ⟨hc (9, 0, 0) 1, hc, hm (10, 0, 0) 11, th hm 0, rfl, rfl, hv.sz.trans hv.sm.symm, ⟨sz, wn, os, hs, nb, Iv_mono (Iv_th hv) (by omega)⟩, CFr.refl hc, (MFr.refl hm).th⟩
theorem op_undoable : Op agp (fun hp => (fX9_undoable hp).bind fun r => some (r, hp)) fX10_undoable := by
  intro tb hc hm ht hI
  obtain ⟨sz, wn, os, hs, nb, hv⟩ := hI
  exact ⟨hc (2, 0, 0) 2, hc, hm (10, 0, 0) 8, th hm 0, rfl, rfl, hv.hs.trans hv.hm.symm, ⟨sz, wn, os, hs, nb, Iv_mono (Iv_th hv) (by omega)⟩, CFr.refl hc, (MFr.refl hm).th⟩
theorem op_textByte (a : Int32) : Look [3] (fX9_textByte a) (fX10_textByte a) := by
  intro tb hc hm ht hI
  obtain ⟨sz, wn, os, hs, nb, hv⟩ := hI
  have hw := hv.wb
  have e30 : (th hm 0) (10, 0, 0) 30 = nI wn := hv.wm
  have t0 : (th hm 0) (10, 0, 0) 0 = 0 := th_s
  show ∃ r b t, (if a < 0 then (some (Sum.inr 3)) else (if a < (hc (9, 0, 0) 10) then ((fX7_at 11 0 a hc).bind fun v3 => some (Sum.inl v3)) else (some (Sum.inr 3)))) = some r ∧ ((fX10_in a 0 (((th hm 0) (10, 0, 0) 30) - 1) (th hm 0)).bind fun v3 => if v3 = 0 then (fX10_textByte_25 a 1 (th hm 0)) else (fX10_textByte_25 a 0 (th hm 0))) = some (b, th hm t) ∧ agr [3] r b t
  rw [e30, hv.wc]
  rcases ix_n a (n := wn) (by omega) with ⟨k, hk, rfl⟩ | ho
  · refine ⟨.inl (hm (11, 31, 0) k), hm (11, 31, 0) k, 0, ?_, ?_, agr_ok⟩
    · rw [if_neg (n_neg (by omega)), if_pos (show nI k < nI wn by rw [n_lt (by omega) (by omega)]; exact hk), at_n (show k < wlen 11 by show k < 40; omega), Option.bind_some, hv.wt k hk]
    · rw [in_in hk (by omega), Option.bind_some, if_neg n10]
      simp only [fX10_textByte_25]
      rw [rf_no t0, Option.bind_some, if_pos rfl]
      show (if inb (nI k) 60 = true then (some (((th hm 0) (11, 31, 0) (nI k).toNatClampNeg), th hm 0)) else none) = _
      rw [if_pos (inb_n (by omega) (by omega)), n_c (by omega)]; rfl
  · refine ⟨.inr 3, 0, nI (0 + 1), ?_, ?_, agr_th rfl⟩
    · by_cases q : a < 0
      · rw [if_pos q]
      · rw [if_neg q, if_neg (out_ge (by omega) ho q)]
    · rw [in_out (by omega) ho, Option.bind_some, if_pos rfl]
      simp only [fX10_textByte_25]
      rw [rf_yes t0 n10, Option.bind_some, if_neg n10, th_th]; rfl
end
section
variable {hc hm h0 : HP} {T L A : Tr0} {tb nb m : Nat} {F : Prop}
theorem m_says {c : Nat} (w : hm (10, 0, 0) 30 = nI c) (hc : c < 60) {y : Int32} : fX10_says y (rwm hm T) = some (rwm (up (up hm (11, 31, 0) c y) (10, 0, 0) 30 (nI (c + 1))) T) := by
  show (if inb (hm (10, 0, 0) 30) 60 = true then (some (up (up (rwm hm T) (11, 31, 0) ((hm (10, 0, 0) 30).toNatClampNeg) y) (10, 0, 0) 30 ((up (rwm hm T) (11, 31, 0) ((hm (10, 0, 0) 30).toNatClampNeg) y) (10, 0, 0) 30 + 1))) else none) = _
  rw [w, if_pos (inb_n (by omega) (by omega)), n_c (by omega), up_n (show ¬ ((10, 0, 0) : RF) = (11, 31, 0) by decide), rwm_up2 (by decide), rwm_up2 (by decide)]
  have : (rwm hm T) (10, 0, 0) 30 + 1 = nI (c + 1) := by show hm (10, 0, 0) 30 + 1 = _; rw [w, ← nI_succ]
  rw [this]
/-- what a text's loop keeps -/
def TxR (v : Nat) (hc hm hc' hm' : HP) : Prop := hm' (10, 0, 0) 30 = nI v ∧ (∀ j, j < v → hc' (11, 11, 0) j = hm' (11, 31, 0) j) ∧ (∀ r, r ≠ (11, 11, 0) → hc' r = hc r) ∧ (∀ r, r ≠ (10, 0, 0) → r ≠ (11, 31, 0) → hm' r = hm r) ∧ (∀ k, k ≠ 30 → hm' (10, 0, 0) k = hm (10, 0, 0) k)
theorem TxR_step {v c : Nat} {hc hm hc' hm' : HP} {y : Int32} (h : TxR v (up hc (11, 11, 0) c y) (up (up hm (11, 31, 0) c y) (10, 0, 0) 30 (nI (c + 1))) hc' hm') : TxR v hc hm hc' hm' := by
  obtain ⟨a, b, c, d, e⟩ := h
  exact ⟨a, b, fun r hr => (c r hr).trans (up_n hr), fun r h1 h2 => (d r h1 h2).trans ((up_n h1).trans (up_n h2)), fun k hk => (e k hk).trans ((up_o (fun q => hk q.2)).trans (congrFun (up_n (by decide)) k))⟩
theorem txt_eq {c : Nat} {hc hm : HP} {y : Int32} (h : ∀ j, j < c → hc (11, 11, 0) j = hm (11, 31, 0) j) : ∀ j, j < c + 1 → (up hc (11, 11, 0) c y) (11, 11, 0) j = (up (up hm (11, 31, 0) c y) (10, 0, 0) 30 (nI (c + 1))) (11, 31, 0) j := by
  intro j hj
  rw [up_n (show ¬ ((11, 31, 0) : RF) = (10, 0, 0) by decide), up_e, up_e]
  by_cases q : j = c
  · rw [q, uT_e, uT_e]
  · rw [uT_n q, uT_n q]; exact h j (by omega)
theorem St_tx {hc : HP} {c : Nat} {y : Int32} (h : St hc 0 T L A nb tb) : St (up hc (11, 11, 0) c y) 0 T L A nb tb :=
  St_hc h (fun r hr => up_n (fun q => by rw [q] at hr; unfold ofm at hr; simp at hr))
theorem wline_aux (hW : WF tb T L A nb) {l v : Nat} (hl : l < 12) (hv : v ≤ tn (T 9)) : ∀ (k c n n' : Nat) (hc hm : HP), c + k = v → k < n → k < n' → St hc 0 T L A nb tb → fX10_longOf (nI l) (rwm hm T) = some (nI v) → hc (9, 0, 0) 10 = nI v → hm (10, 0, 0) 30 = nI c → (∀ j, j < c → hc (11, 11, 0) j = hm (11, 31, 0) j) → ∃ hc' hm', fX9_writeLine_26 n (nI l) (nI c) hc = some (.inl (nI v), hc') ∧ fX10_writeLine_17 n' (nI l) (nI c) (rwm hm T) = some (nI v, rwm hm' T) ∧ TxR v hc hm hc' hm' := by
  have hw := hW.w
  intro k
  induction k with
  | zero =>
    intro c n n' hc hm hk hn hn' hS v3 w1 w2 w3
    obtain ⟨n, rfl⟩ : ∃ q, n = q + 1 := ⟨n - 1, by omega⟩
    obtain ⟨n', rfl⟩ : ∃ q, n' = q + 1 := ⟨n' - 1, by omega⟩
    have g : ¬ nI c < nI v := by rw [n_lt (by omega) (by omega)]; omega
    have ec : c = v := by omega
    refine ⟨hc, hm, ?_, ?_, by rw [← ec]; exact w2, by rw [← ec]; exact w3, fun _ _ => rfl, fun _ _ _ => rfl, fun _ _ => rfl⟩
    · simp only [fX9_writeLine_26]; rw [w1, if_neg g]
    · simp only [fX10_writeLine_17]; rw [v3, Option.bind_some, if_neg g, rwm_n (by decide), w2, ec]
  | succ k ih =>
    intro c n n' hc hm hk hn hn' hS v3 w1 w2 w3
    obtain ⟨n, rfl⟩ : ∃ q, n = q + 1 := ⟨n - 1, by omega⟩
    obtain ⟨n', rfl⟩ : ∃ q, n' = q + 1 := ⟨n' - 1, by omega⟩
    have g : nI c < nI v := by rw [n_lt (by omega) (by omega)]; omega
    have h := St_MR hS
    have e1 : fX9_writeLine_26 (n + 1) (nI l) (nI c) hc = fX9_writeLine_26 n (nI l) (nI (c + 1)) (up hc (11, 11, 0) c (sg (T (190 + 40 * l + c)))) := by
      simp only [fX9_writeLine_26]
      rw [w1, if_pos g, c_placeOf h (by omega) hw.1, Option.bind_some, at_n (show l * tn (T 9) + c < wlen 2 from plc_lt hl (by omega) hw.2.2), Option.bind_some, (h.2.1 trivial).a5 l c hl (by omega), put_n (show c < wlen 11 by show c < 40; omega), Option.bind_some, ← nI_succ]
    have e2 : fX10_writeLine_17 (n' + 1) (nI l) (nI c) (rwm hm T) = fX10_writeLine_17 n' (nI l) (nI (c + 1)) (rwm (up (up hm (11, 31, 0) c (sg (T (190 + 40 * l + c)))) (10, 0, 0) 30 (nI (c + 1))) T) := by
      have es : ∀ y, fX10_writeLine_47 (nI l) (nI c) y (fun x1 x2 hq => fX10_writeLine_17 n' x1 x2 hq) (rwm hm T) = fX10_writeLine_17 n' (nI l) (nI (c + 1)) (rwm (up (up hm (11, 31, 0) c y) (10, 0, 0) 30 (nI (c + 1))) T) := by
        intro y
        simp only [fX10_writeLine_47]
        rw [m_says (c := c) w2 (by omega), Option.bind_some, ← nI_succ]
      simp only [fX10_writeLine_17]
      rw [v3, Option.bind_some, if_pos g, m_signAt hl (by omega), Option.bind_some, Option.bind_some, es, es]
      unfold sg
      split <;> rfl
    rw [e1, e2]
    have v3' : fX10_longOf (nI l) (rwm (up (up hm (11, 31, 0) c (sg (T (190 + 40 * l + c)))) (10, 0, 0) 30 (nI (c + 1))) T) = some (nI v) := by
      obtain ⟨u, u1, u2, u3⟩ := end_p (hm := hm) h hW hl
      obtain ⟨x, x1, x2, x3⟩ := end_p (hm := up (up hm (11, 31, 0) c (sg (T (190 + 40 * l + c)))) (10, 0, 0) 30 (nI (c + 1))) h hW hl
      rw [u3] at v3
      rw [u2] at x2
      rw [x3, ← x2]; exact v3
    obtain ⟨hc', hm', s1, s2, s3⟩ := ih (c + 1) n n' (up hc (11, 11, 0) c (sg (T (190 + 40 * l + c)))) (up (up hm (11, 31, 0) c (sg (T (190 + 40 * l + c)))) (10, 0, 0) 30 (nI (c + 1))) (by omega) (by omega) (by omega) (St_tx hS) v3' ((congrFun (up_n (by decide)) 10).trans w1) up_s (txt_eq w3)
    exact ⟨hc', hm', s1, s2, TxR_step s3⟩
theorem op_writeLine (a : Int32) : Op (agr [1, 3]) (fX9_writeLine a) (fX10_writeLine a) := by
  refine opLn (a := a) (F := fun hp => (fX4_endOf 0 a hp).bind fun v10 => fX9_writeLine_26 FU a 0 (up hp (9, 0, 0) 10 v10)) (G := fun hm => fX10_writeLine_17 FU a 0 (up hm (10, 0, 0) 30 0)) (fun hc => rfl) (fun hm => rfl) ?_
  intro tb hc hm sz wn os hs nb ht hv l1 T hT h0 k hk ha
  subst ha
  have hS := hv.no l1
  rw [hT] at hS
  have hW := hS.2.2.2
  have h := St_MR hS
  have hln := hW.ln
  have hw := hW.w
  have hf := FU_ge
  obtain ⟨v, v1, v2, v3⟩ := end_p (hm := up hm (10, 0, 0) 30 0) h hW (l := k) (by omega)
  obtain ⟨hc', hm', s1, s2, s3⟩ := wline_aux (L := hm (11, 20, 0)) (A := hm (11, 21, 0)) hW (l := k) (v := v) (by omega) v1 v 0 FU FU (up hc (9, 0, 0) 10 (nI v)) (up hm (10, 0, 0) 30 0) (by omega) (by omega) (by omega) (St_hc hS (fun r hr => up_n (fun q => by rw [q] at hr; unfold ofm at hr; simp at hr))) v3 up_s up_s (fun j hj => absurd hj (by omega))
  obtain ⟨t1, t2, t3, t4, t5⟩ := s3
  have hT' : hm' (11, 22, 0) = T := by rw [t4 _ (by decide) (by decide), up_n (by decide)]; exact hT
  have hid : rwm hm' T = hm' := by rw [← hT']; exact rwm_id hm'
  have hid2 : rwm (up hm (10, 0, 0) 30 0) T = up hm (10, 0, 0) 30 0 := by
    have := rwm_id (up hm (10, 0, 0) 30 0)
    rw [up_n (by decide), hT] at this; exact this
  refine ⟨.inl (nI v), hc', nI v, hm', ?_, ?_, ⟨?_, rfl⟩, ⟨sz, v, os, hs, nb, Iv_mono (Iv_txt hv ?_ ?_ ?_ ?_ ?_ t1 (by omega) t2) (by omega)⟩, ?_, ?_⟩
  · show (fX4_endOf 0 (nI k) hc).bind (fun v10 => fX9_writeLine_26 FU (nI k) 0 (up hc (9, 0, 0) 10 v10)) = _
    rw [v2, Option.bind_some]; exact s1
  · show fX10_writeLine_17 FU (nI k) (nI 0) (up hm (10, 0, 0) 30 0) = _
    rw [hid, hid2] at s2; exact s2
  · rw [t5 0 (by decide)]; exact h0
  · intro r h1 h2; rw [t3 r h2]; exact up_n h1
  · intro j hj; rw [t3 _ (by decide)]; exact up_o (fun q => hj q.2)
  · intro r h1 h2; rw [t4 r h1 h2]; exact up_n h1
  · intro j h1 h2; rw [t5 j h2]; exact up_o (fun q => h2 q.2)
  · rw [t3 _ (by decide)]; exact up_s
  · intro r hr; rw [t3 r (fun q => by rw [q] at hr; unfold isM at hr; simp at hr)]; exact up_n (fun q => by rw [q] at hr; unfold isM at hr; simp at hr)
  · intro r hr
    have a1 : r ≠ (10, 0, 0) := fun q => hr (by rw [q]; unfold isM; simp)
    rw [t4 r a1 (fun q => hr (by rw [q]; unfold isM; simp))]; exact up_n a1
theorem wshade_aux (hW : WF tb T L A nb) {l v : Nat} (hl : l < 12) (hv : v ≤ tn (T 9)) : ∀ (k c n n' : Nat) (hc hm : HP), c + k = v → k < n → k < n' → St hc 0 T L A nb tb → fX10_longOf (nI l) (rwm hm T) = some (nI v) → hc (9, 0, 0) 10 = nI v → hm (10, 0, 0) 30 = nI c → (∀ j, j < c → hc (11, 11, 0) j = hm (11, 31, 0) j) → ∃ hc' hm', fX9_writeShades_26 n (nI l) (nI c) hc = some (.inl (nI v), hc') ∧ fX10_writeShades_17 n' (nI l) (nI c) (rwm hm T) = some (nI v, rwm hm' T) ∧ TxR v hc hm hc' hm' := by
  have hw := hW.w
  intro k
  induction k with
  | zero =>
    intro c n n' hc hm hk hn hn' hS v3 w1 w2 w3
    obtain ⟨n, rfl⟩ : ∃ q, n = q + 1 := ⟨n - 1, by omega⟩
    obtain ⟨n', rfl⟩ : ∃ q, n' = q + 1 := ⟨n' - 1, by omega⟩
    have g : ¬ nI c < nI v := by rw [n_lt (by omega) (by omega)]; omega
    have ec : c = v := by omega
    refine ⟨hc, hm, ?_, ?_, by rw [← ec]; exact w2, by rw [← ec]; exact w3, fun _ _ => rfl, fun _ _ _ => rfl, fun _ _ => rfl⟩
    · simp only [fX9_writeShades_26]; rw [w1, if_neg g]
    · simp only [fX10_writeShades_17]; rw [v3, Option.bind_some, if_neg g, rwm_n (by decide), w2, ec]
  | succ k ih =>
    intro c n n' hc hm hk hn hn' hS v3 w1 w2 w3
    obtain ⟨n, rfl⟩ : ∃ q, n = q + 1 := ⟨n - 1, by omega⟩
    obtain ⟨n', rfl⟩ : ∃ q, n' = q + 1 := ⟨n' - 1, by omega⟩
    have g : nI c < nI v := by rw [n_lt (by omega) (by omega)]; omega
    have h := St_MR hS
    have e1 : fX9_writeShades_26 (n + 1) (nI l) (nI c) hc = fX9_writeShades_26 n (nI l) (nI (c + 1)) (up hc (11, 11, 0) c ((if T (190 + 40 * l + c) = 0 then 32 else 48 + T (670 + 40 * l + c)))) := by
      have ee := c_empty h hW hl (c := c) (by omega)
      rw [c_placeOf h (by omega) hw.1, Option.bind_some] at ee
      simp only [fX9_writeShades_26, fX9_writeShades_88]
      rw [w1, if_pos g, c_placeOf h (by omega) hw.1, Option.bind_some, ee, Option.bind_some, at_n (show l * tn (T 9) + c < wlen 3 from plc_lt hl (by omega) hw.2.2), Option.bind_some, (h.2.1 trivial).a6 l c hl (by omega), put_n (show c < wlen 11 by show c < 40; omega), put_n (show c < wlen 11 by show c < 40; omega), Option.bind_some, Option.bind_some, ← nI_succ]
      by_cases q : T (190 + 40 * l + c) = 0
      · rw [if_pos q, if_neg n10, if_pos q]
      · rw [if_neg q, if_pos rfl, if_neg q]
    have e2 : fX10_writeShades_17 (n' + 1) (nI l) (nI c) (rwm hm T) = fX10_writeShades_17 n' (nI l) (nI (c + 1)) (rwm (up (up hm (11, 31, 0) c ((if T (190 + 40 * l + c) = 0 then 32 else 48 + T (670 + 40 * l + c)))) (10, 0, 0) 30 (nI (c + 1))) T) := by
      have es : ∀ y, fX10_writeShades_50 (nI l) (nI c) y (fun x1 x2 hq => fX10_writeShades_17 n' x1 x2 hq) (rwm hm T) = fX10_writeShades_17 n' (nI l) (nI (c + 1)) (rwm (up (up hm (11, 31, 0) c y) (10, 0, 0) 30 (nI (c + 1))) T) := by
        intro y
        simp only [fX10_writeShades_50]
        rw [m_says (c := c) w2 (by omega), Option.bind_some, ← nI_succ]
      simp only [fX10_writeShades_17]
      rw [v3, Option.bind_some, if_pos g, m_signAt hl (by omega), m_darkAt hl (by omega), Option.bind_some, Option.bind_some, es, es]
      split <;> rfl
    rw [e1, e2]
    have v3' : fX10_longOf (nI l) (rwm (up (up hm (11, 31, 0) c ((if T (190 + 40 * l + c) = 0 then 32 else 48 + T (670 + 40 * l + c)))) (10, 0, 0) 30 (nI (c + 1))) T) = some (nI v) := by
      obtain ⟨u, u1, u2, u3⟩ := end_p (hm := hm) h hW hl
      obtain ⟨x, x1, x2, x3⟩ := end_p (hm := up (up hm (11, 31, 0) c ((if T (190 + 40 * l + c) = 0 then 32 else 48 + T (670 + 40 * l + c)))) (10, 0, 0) 30 (nI (c + 1))) h hW hl
      rw [u3] at v3
      rw [u2] at x2
      rw [x3, ← x2]; exact v3
    obtain ⟨hc', hm', s1, s2, s3⟩ := ih (c + 1) n n' (up hc (11, 11, 0) c ((if T (190 + 40 * l + c) = 0 then 32 else 48 + T (670 + 40 * l + c)))) (up (up hm (11, 31, 0) c ((if T (190 + 40 * l + c) = 0 then 32 else 48 + T (670 + 40 * l + c)))) (10, 0, 0) 30 (nI (c + 1))) (by omega) (by omega) (by omega) (St_tx hS) v3' ((congrFun (up_n (by decide)) 10).trans w1) up_s (txt_eq w3)
    exact ⟨hc', hm', s1, s2, TxR_step s3⟩
theorem op_writeShades (a : Int32) : Op (agr [1, 3]) (fX9_writeShades a) (fX10_writeShades a) := by
  refine opLn (a := a) (F := fun hp => (fX4_endOf 0 a hp).bind fun v10 => fX9_writeShades_26 FU a 0 (up hp (9, 0, 0) 10 v10)) (G := fun hm => fX10_writeShades_17 FU a 0 (up hm (10, 0, 0) 30 0)) (fun hc => rfl) (fun hm => rfl) ?_
  intro tb hc hm sz wn os hs nb ht hv l1 T hT h0 k hk ha
  subst ha
  have hS := hv.no l1
  rw [hT] at hS
  have hW := hS.2.2.2
  have h := St_MR hS
  have hln := hW.ln
  have hw := hW.w
  have hf := FU_ge
  obtain ⟨v, v1, v2, v3⟩ := end_p (hm := up hm (10, 0, 0) 30 0) h hW (l := k) (by omega)
  obtain ⟨hc', hm', s1, s2, s3⟩ := wshade_aux (L := hm (11, 20, 0)) (A := hm (11, 21, 0)) hW (l := k) (v := v) (by omega) v1 v 0 FU FU (up hc (9, 0, 0) 10 (nI v)) (up hm (10, 0, 0) 30 0) (by omega) (by omega) (by omega) (St_hc hS (fun r hr => up_n (fun q => by rw [q] at hr; unfold ofm at hr; simp at hr))) v3 up_s up_s (fun j hj => absurd hj (by omega))
  obtain ⟨t1, t2, t3, t4, t5⟩ := s3
  have hT' : hm' (11, 22, 0) = T := by rw [t4 _ (by decide) (by decide), up_n (by decide)]; exact hT
  have hid : rwm hm' T = hm' := by rw [← hT']; exact rwm_id hm'
  have hid2 : rwm (up hm (10, 0, 0) 30 0) T = up hm (10, 0, 0) 30 0 := by
    have := rwm_id (up hm (10, 0, 0) 30 0)
    rw [up_n (by decide), hT] at this; exact this
  refine ⟨.inl (nI v), hc', nI v, hm', ?_, ?_, ⟨?_, rfl⟩, ⟨sz, v, os, hs, nb, Iv_mono (Iv_txt hv ?_ ?_ ?_ ?_ ?_ t1 (by omega) t2) (by omega)⟩, ?_, ?_⟩
  · show (fX4_endOf 0 (nI k) hc).bind (fun v10 => fX9_writeShades_26 FU (nI k) 0 (up hc (9, 0, 0) 10 v10)) = _
    rw [v2, Option.bind_some]; exact s1
  · show fX10_writeShades_17 FU (nI k) (nI 0) (up hm (10, 0, 0) 30 0) = _
    rw [hid, hid2] at s2; exact s2
  · rw [t5 0 (by decide)]; exact h0
  · intro r h1 h2; rw [t3 r h2]; exact up_n h1
  · intro j hj; rw [t3 _ (by decide)]; exact up_o (fun q => hj q.2)
  · intro r h1 h2; rw [t4 r h1 h2]; exact up_n h1
  · intro j h1 h2; rw [t5 j h2]; exact up_o (fun q => h2 q.2)
  · rw [t3 _ (by decide)]; exact up_s
  · intro r hr; rw [t3 r (fun q => by rw [q] at hr; unfold isM at hr; simp at hr)]; exact up_n (fun q => by rw [q] at hr; unfold isM at hr; simp at hr)
  · intro r hr
    have a1 : r ≠ (10, 0, 0) := fun q => hr (by rw [q]; unfold isM; simp)
    rw [t4 r a1 (fun q => hr (by rw [q]; unfold isM; simp))]; exact up_n a1
theorem ruler_c (h : MR True h0 hc 0 T L A nb) (hW : WF tb T L A nb) {c : Nat} (hc' : c < tn (T 9)) : ∃ y, fX9_rulerMark (nI c) hc = some y ∧ fX10_rulerSign (nI c) (rwm hm T) = some y := by
  have hw := hW.w
  show ∃ y, (if nI c = (hc (1, 0, 0) 3) then (some 86) else ((fX7_at 0 0 2 hc).bind fun v1 => if nI c = v1 then (some 76) else ((fX7_at 0 0 3 hc).bind fun v2 => if nI c = v2 then (some 82) else ((fX1_stopsAt 0 (nI c) hc).bind fun v3 => if v3 = 0 then (some 46) else (some 84))))) = some y ∧ (if nI c = ((rwm hm T) (11, 22, 0) 1) then (some 86) else ((fX10_its 2 (rwm hm T)).bind fun v1 => if nI c = v1 then (some 76) else ((fX10_its 3 (rwm hm T)).bind fun v2 => if nI c = v2 then (some 82) else (if inb (nI 90 + nI c) 1150 = true then (if ((rwm hm T) (11, 22, 0) (nI 90 + nI c).toNatClampNeg) = 1 then (some 84) else (some 46)) else none)))) = some y
  rw [h.1.a3, rwm_e, c_s2 h, c_s3 h, its_2, its_3, c_stopsAt h (by omega), n_add, if_pos (inb_n (show 90 + c < 1150 by omega) (by omega)), n_c (by omega)]
  simp only [Option.bind_some]
  by_cases q1 : nI c = T 1
  · rw [if_pos q1, if_pos q1]; exact ⟨_, rfl, rfl⟩
  · rw [if_neg q1, if_neg q1]
    by_cases q2 : nI c = T 11
    · rw [if_pos q2, if_pos q2]; exact ⟨_, rfl, rfl⟩
    · rw [if_neg q2, if_neg q2]
      by_cases q3 : nI c = T 12
      · rw [if_pos q3, if_pos q3]; exact ⟨_, rfl, rfl⟩
      · rw [if_neg q3, if_neg q3]
        rcases hW.sp c (by omega) with q | q <;> rw [q] <;> exact ⟨_, rfl, rfl⟩
theorem wrule_aux (hW : WF tb T L A nb) : ∀ (k c n n' : Nat) (hc hm : HP), c + k = tn (T 9) → k < n → k < n' → St hc 0 T L A nb tb → hc (9, 0, 0) 10 = nI (tn (T 9)) → hm (10, 0, 0) 30 = nI c → (∀ j, j < c → hc (11, 11, 0) j = hm (11, 31, 0) j) → ∃ hc' hm', fX9_writeRuler_21 n (nI c) hc = some (.inl (nI (tn (T 9))), hc') ∧ fX10_writeRuler_16 n' (nI c) (rwm hm T) = some (nI (tn (T 9)), rwm hm' T) ∧ TxR (tn (T 9)) hc hm hc' hm' := by
  have hw := hW.w
  have e9 : T 9 = nI (tn (T 9)) := hw.1
  intro k
  induction k with
  | zero =>
    intro c n n' hc hm hk hn hn' hS w1 w2 w3
    obtain ⟨n, rfl⟩ : ∃ q, n = q + 1 := ⟨n - 1, by omega⟩
    obtain ⟨n', rfl⟩ : ∃ q, n' = q + 1 := ⟨n' - 1, by omega⟩
    have g : ¬ nI c < nI (tn (T 9)) := by rw [n_lt (by omega) (by omega)]; omega
    have g' : ¬ nI c < T 9 := by rw [e9]; exact g
    have ec : c = tn (T 9) := by omega
    refine ⟨hc, hm, ?_, ?_, by rw [← ec]; exact w2, by rw [← ec]; exact w3, fun _ _ => rfl, fun _ _ _ => rfl, fun _ _ => rfl⟩
    · simp only [fX9_writeRuler_21]; rw [w1, if_neg g]
    · simp only [fX10_writeRuler_16]; rw [its_0, Option.bind_some, if_neg g', rwm_n (by decide), w2, ec]
  | succ k ih =>
    intro c n n' hc hm hk hn hn' hS w1 w2 w3
    obtain ⟨n, rfl⟩ : ∃ q, n = q + 1 := ⟨n - 1, by omega⟩
    obtain ⟨n', rfl⟩ : ∃ q, n' = q + 1 := ⟨n' - 1, by omega⟩
    have g : nI c < nI (tn (T 9)) := by rw [n_lt (by omega) (by omega)]; omega
    have g' : nI c < T 9 := by rw [e9]; exact g
    obtain ⟨y, y1, y2⟩ := ruler_c (hm := hm) (St_MR hS) hW (c := c) (by omega)
    have e1 : fX9_writeRuler_21 (n + 1) (nI c) hc = fX9_writeRuler_21 n (nI (c + 1)) (up hc (11, 11, 0) c y) := by
      simp only [fX9_writeRuler_21]
      rw [w1, if_pos g, y1, Option.bind_some, put_n (show c < wlen 11 by show c < 40; omega), Option.bind_some, ← nI_succ]
    have e2 : fX10_writeRuler_16 (n' + 1) (nI c) (rwm hm T) = fX10_writeRuler_16 n' (nI (c + 1)) (rwm (up (up hm (11, 31, 0) c y) (10, 0, 0) 30 (nI (c + 1))) T) := by
      simp only [fX10_writeRuler_16]
      rw [its_0, Option.bind_some, if_pos g', y2, Option.bind_some, m_says (c := c) w2 (by omega), Option.bind_some, ← nI_succ]
    rw [e1, e2]
    obtain ⟨hc', hm', s1, s2, s3⟩ := ih (c + 1) n n' (up hc (11, 11, 0) c y) (up (up hm (11, 31, 0) c y) (10, 0, 0) 30 (nI (c + 1))) (by omega) (by omega) (by omega) (St_tx hS) ((congrFun (up_n (by decide)) 10).trans w1) up_s (txt_eq w3)
    exact ⟨hc', hm', s1, s2, TxR_step s3⟩
theorem op_writeRuler : Op (agr [1]) fX9_writeRuler fX10_writeRuler := by
  refine opL (d0 := 0) rfl (F := fun hp => (fX7_at 0 0 0 hp).bind fun v7 => fX9_writeRuler_21 FU 0 (up hp (9, 0, 0) 10 v7)) (G := fun hm => fX10_writeRuler_16 FU 0 (up hm (10, 0, 0) 30 0)) (fun hc => rfl) ?_ ?_ ?_
  · intro hm q
    simp only [fX10_writeRuler]
    rw [nl_1 q, Option.bind_some, if_neg n10]
  · intro hm q
    simp only [fX10_writeRuler]
    rw [nl_0 q, Option.bind_some, if_pos rfl]
  · intro tb hc hm sz wn os hs nb ht hv l1 T hT h0
    have hS := hv.no l1
    rw [hT] at hS
    have hW := hS.2.2.2
    have h := St_MR hS
    have hw := hW.w
    have e9 : T 9 = nI (tn (T 9)) := hw.1
    have hf := FU_ge
    obtain ⟨hc', hm', s1, s2, s3⟩ := wrule_aux (L := hm (11, 20, 0)) (A := hm (11, 21, 0)) hW (tn (T 9)) 0 FU FU (up hc (9, 0, 0) 10 (nI (tn (T 9)))) (up hm (10, 0, 0) 30 0) (by omega) (by omega) (by omega) (St_hc hS (fun r hr => up_n (fun q => by rw [q] at hr; unfold ofm at hr; simp at hr))) up_s up_s (fun j hj => absurd hj (by omega))
    obtain ⟨t1, t2, t3, t4, t5⟩ := s3
    have hT' : hm' (11, 22, 0) = T := by rw [t4 _ (by decide) (by decide), up_n (by decide)]; exact hT
    have hid : rwm hm' T = hm' := by rw [← hT']; exact rwm_id hm'
    have hid2 : rwm (up hm (10, 0, 0) 30 0) T = up hm (10, 0, 0) 30 0 := by
      have := rwm_id (up hm (10, 0, 0) 30 0)
      rw [up_n (by decide), hT] at this; exact this
    refine ⟨.inl (nI (tn (T 9))), hc', nI (tn (T 9)), hm', ?_, ?_, ⟨?_, rfl⟩, ⟨sz, tn (T 9), os, hs, nb, Iv_mono (Iv_txt hv ?_ ?_ ?_ ?_ ?_ t1 (by omega) t2) (by omega)⟩, ?_, ?_⟩
    · show (fX7_at 0 0 0 hc).bind (fun v7 => fX9_writeRuler_21 FU 0 (up hc (9, 0, 0) 10 v7)) = _
      rw [c_s0 h, Option.bind_some]
      conv => lhs; rw [e9]
      exact s1
    · show fX10_writeRuler_16 FU (nI 0) (up hm (10, 0, 0) 30 0) = _
      rw [hid, hid2] at s2; exact s2
    · rw [t5 0 (by decide)]; exact h0
    · intro r h1 h2; rw [t3 r h2]; exact up_n h1
    · intro j hj; rw [t3 _ (by decide)]; exact up_o (fun q => hj q.2)
    · intro r h1 h2; rw [t4 r h1 h2]; exact up_n h1
    · intro j h1 h2; rw [t5 j h2]; exact up_o (fun q => h2 q.2)
    · rw [t3 _ (by decide)]; exact up_s
    · intro r hr; rw [t3 r (fun q => by rw [q] at hr; unfold isM at hr; simp at hr)]; exact up_n (fun q => by rw [q] at hr; unfold isM at hr; simp at hr)
    · intro r hr
      have a1 : r ≠ (10, 0, 0) := fun q => hr (by rw [q]; unfold isM; simp)
      rw [t4 r a1 (fun q => hr (by rw [q]; unfold isM; simp))]; exact up_n a1
end
