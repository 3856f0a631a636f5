/-! ===== calls that change something: their heads ===== -/
section
/-- what is left of a call, once a text is loaded and the reference's row of throws is clear -/
def OpI (cs : List Nat) (F : HP → Option ((Int32 ⊕ Nat) × HP)) (G : HP → Option (Int32 × HP)) (tb : Nat) (hc hm : HP) : Prop :=
  ∃ r hc1 b hm1, F hc = some (r, hc1) ∧ G hm = some (b, hm1) ∧ agr cs r b (hm1 (10, 0, 0) 0) ∧ Inv (tb + 600000) hc1 hm1 ∧ CFr hc hc1 ∧ MFr hm hm1
theorem OpI_throw {cs : List Nat} {F : HP → Option ((Int32 ⊕ Nat) × HP)} {G : HP → Option (Int32 × HP)} {tb : Nat} {hc hm : HP} {sz wn os hs nb : Nat} (hv : Iv tb hc hm sz wn os hs nb) {E i : Nat} (hcs : cs[i]? = some E) (h1 : F hc = some (.inr E, hc)) (h2 : G hm = some (0, th hm (nI (i + 1)))) : OpI cs F G tb hc hm :=
  ⟨.inr E, hc, 0, th hm (nI (i + 1)), h1, h2, by rw [th_s]; exact agr_th hcs, ⟨sz, wn, os, hs, nb, Iv_mono (Iv_th hv) (by omega)⟩, CFr.refl hc, (MFr.refl hm).th⟩
theorem opL {cs : List Nat} {C F : HP → Option ((Int32 ⊕ Nat) × HP)} {M G : HP → Option (Int32 × HP)} {d0 : Int32} (h0 : cs[0]? = some 1)
    (hC : ∀ hc, C hc = (fX9_requireLoaded hc).bind fun q => Sum.elim (fun _ => F hc) (fun E => some (.inr E, hc)) q)
    (hM1 : ∀ hm, hm (10, 0, 0) 1 = 0 → M hm = some (d0, th hm 1))
    (hM0 : ∀ hm, hm (10, 0, 0) 1 = 1 → M hm = G (th hm 0))
    (h : ∀ tb hc hm sz wn os hs nb, tb < 500000000 → Iv tb hc hm sz wn os hs nb → hm (10, 0, 0) 1 = 1 → ∀ T, hm (11, 22, 0) = T → hm (10, 0, 0) 0 = 0 → OpI cs F G tb hc hm) : Op (agr cs) C M := by
  intro tb hc hm ht hI
  obtain ⟨sz, wn, os, hs, nb, hv⟩ := hI
  rcases hv.l1 with l0 | l1
  · have lc : hc (9, 0, 0) 2 = 0 := by rw [hv.lo]; exact l0
    refine ⟨.inr 1, hc, d0, th hm 1, ?_, hM1 hm l0, ⟨0, h0, th_s⟩, ⟨sz, wn, os, hs, nb, Iv_mono (Iv_th hv) (by omega)⟩, CFr.refl hc, (MFr.refl hm).th⟩
    rw [hC, rl_0 lc, Option.bind_some]; rfl
  · have lc : hc (9, 0, 0) 2 = 1 := by rw [hv.lo]; exact l1
    obtain ⟨r, hc1, b, hm1, e1, e2, ag, hI, f1, f2⟩ := h tb hc (th hm 0) sz wn os hs nb ht (Iv_th hv) ((th_o (by simp)).trans l1) _ rfl th_s
    refine ⟨r, hc1, b, hm1, ?_, ?_, ag, hI, f1, (MFr.refl hm).th.trans f2⟩
    · rw [hC, rl_1 lc, Option.bind_some]; exact e1
    · rw [hM0 hm l1]; exact e2
theorem Iv_WF {tb : Nat} {hc hm : HP} {sz wn os hs nb : Nat} (hv : Iv tb hc hm sz wn os hs nb) (l1 : hm (10, 0, 0) 1 = 1) {T : Tr0} (hT : hm (11, 22, 0) = T) : St hc 0 T (hm (11, 20, 0)) (hm (11, 21, 0)) nb tb := by
  have := hv.no l1
  rw [hT] at this; exact this
theorem rwm_T {hm : HP} {T : Tr0} (hT : hm (11, 22, 0) = T) : rwm hm T = hm := by rw [← hT]; exact rwm_id hm
theorem opLn {a : Int32} {C F : HP → Option ((Int32 ⊕ Nat) × HP)} {M G : HP → Option (Int32 × HP)}
    (hC : ∀ hc, C hc = (fX9_requireLoaded hc).bind fun q2 => Sum.elim (fun _ => (fX9_requireLine a hc).bind fun q4 => Sum.elim (fun _ => F hc) (fun E => some (.inr E, hc)) q4) (fun E => some (.inr E, hc)) q2)
    (hM : ∀ hm, M hm = (fX10_noLine a hm).bind fun q2 => if q2.1 = 0 then G q2.2 else (some (0, q2.2)))
    (h : ∀ tb hc hm sz wn os hs nb, tb < 500000000 → Iv tb hc hm sz wn os hs nb → hm (10, 0, 0) 1 = 1 → ∀ T, hm (11, 22, 0) = T → hm (10, 0, 0) 0 = 0 → ∀ k, k < tn (T 10) → a = nI k → OpI [1, 3] F G tb hc hm) : Op (agr [1, 3]) C M := by
  refine opL (d0 := 0) rfl (F := fun hc => (fX9_requireLine a hc).bind fun q4 => Sum.elim (fun _ => F hc) (fun E => some (.inr E, hc)) q4) (G := fun hm => (nlM a hm).bind fun q2 => if q2.1 = 0 then G q2.2 else (some (0, q2.2))) hC ?_ ?_ ?_
  · intro hm q
    rw [hM, noLine_1 q, Option.bind_some, if_neg n10]
  · intro hm q
    rw [hM, noLine_0 q]
  · intro tb hc hm sz wn os hs nb ht hv l1 T hT h0
    have hS := Iv_WF hv l1 hT
    have hW := hS.2.2.2
    have h1 := St_MR hS
    have hln := hW.ln
    rcases ix_n a (n := tn (T 10)) (by omega) with ⟨k, hk, rfl⟩ | ho
    · obtain ⟨r, hc1, b, hm1, e1, e2, ag, hI, f1, f2⟩ := h tb hc hm sz wn os hs nb ht hv l1 T hT h0 k hk rfl
      refine ⟨r, hc1, b, hm1, ?_, ?_, ag, hI, f1, f2⟩
      · show (fX9_requireLine (nI k) hc).bind (fun q4 => Sum.elim (fun _ => F hc) (fun E => some (.inr E, hc)) q4) = _
        rw [rqLine_in h1 hW hk, Option.bind_some]; exact e1
      · show (nlM (nI k) hm).bind (fun q2 => if q2.1 = 0 then G q2.2 else (some (0, q2.2))) = _
        have e := nlM_in (hm := hm) hW h0 hk
        rw [rwm_T hT] at e
        rw [e, Option.bind_some, if_pos rfl]; exact e2
    · refine OpI_throw hv (E := 3) (i := 1) rfl ?_ ?_
      · show (fX9_requireLine a hc).bind (fun q4 => Sum.elim (fun _ => F hc) (fun E => some (.inr E, hc)) q4) = _
        rw [rqLine_out h1 hW ho]; rfl
      · show (nlM a hm).bind (fun q2 => if q2.1 = 0 then G q2.2 else (some (0, q2.2))) = _
        have e := nlM_out (hm := hm) hW h0 ho
        rw [rwm_T hT, rwm_T (show (th hm 2) (11, 22, 0) = T from hT)] at e
        rw [e, Option.bind_some, if_neg n10]; rfl
theorem opB {a : Int32} {C F : HP → Option ((Int32 ⊕ Nat) × HP)} {M G : HP → Option (Int32 × HP)}
    (hC : ∀ hc, C hc = (fX9_requireLoaded hc).bind fun q2 => Sum.elim (fun _ => (fX9_requireBar a hc).bind fun q4 => Sum.elim (fun _ => F hc) (fun E => some (.inr E, hc)) q4) (fun E => some (.inr E, hc)) q2)
    (hM : ∀ hm, M hm = (fX10_noBar a hm).bind fun q2 => if q2.1 = 0 then G q2.2 else (some (0, q2.2)))
    (h : ∀ tb hc hm sz wn os hs nb, tb < 500000000 → Iv tb hc hm sz wn os hs nb → hm (10, 0, 0) 1 = 1 → ∀ T, hm (11, 22, 0) = T → hm (10, 0, 0) 0 = 0 → ∀ k, k < nb → a = nI k → OpI [1, 3] F G tb hc hm) : Op (agr [1, 3]) C M := by
  refine opL (d0 := 0) rfl (F := fun hc => (fX9_requireBar a hc).bind fun q4 => Sum.elim (fun _ => F hc) (fun E => some (.inr E, hc)) q4) (G := fun hm => (nbM a hm).bind fun q2 => if q2.1 = 0 then G q2.2 else (some (0, q2.2))) hC ?_ ?_ ?_
  · intro hm q
    rw [hM, noBar_1 q, Option.bind_some, if_neg n10]
  · intro hm q
    rw [hM, noBar_0 q]
  · intro tb hc hm sz wn os hs nb ht hv l1 T hT h0
    have hS := Iv_WF hv l1 hT
    have hW := hS.2.2.2
    have h1 := St_MR hS
    have hnb := hW.nb
    have hl : LA hm (hm (11, 20, 0)) (hm (11, 21, 0)) nb := ⟨rfl, rfl, hv.nb⟩
    rcases ix_n a (n := nb) (by omega) with ⟨k, hk, rfl⟩ | ho
    · obtain ⟨r, hc1, b, hm1, e1, e2, ag, hI, f1, f2⟩ := h tb hc hm sz wn os hs nb ht hv l1 T hT h0 k hk rfl
      refine ⟨r, hc1, b, hm1, ?_, ?_, ag, hI, f1, f2⟩
      · show (fX9_requireBar (nI k) hc).bind (fun q4 => Sum.elim (fun _ => F hc) (fun E => some (.inr E, hc)) q4) = _
        rw [rqBar_in h1 hk, Option.bind_some]; exact e1
      · show (nbM (nI k) hm).bind (fun q2 => if q2.1 = 0 then G q2.2 else (some (0, q2.2))) = _
        rw [nbM_in hl h0 hk hnb, Option.bind_some, if_pos rfl]; exact e2
    · refine OpI_throw hv (E := 3) (i := 1) rfl ?_ ?_
      · show (fX9_requireBar a hc).bind (fun q4 => Sum.elim (fun _ => F hc) (fun E => some (.inr E, hc)) q4) = _
        rw [rqBar_out h1 ho]; rfl
      · show (nbM a hm).bind (fun q2 => if q2.1 = 0 then G q2.2 else (some (0, q2.2))) = _
        rw [nbM_out hl h0 ho hnb, Option.bind_some, if_neg n10]; rfl
/-- the reference's look at a number of bytes -/
def nyM (x : Int32) (hm : HP) : Option (Int32 × HP) := (fX10_in x 0 (hm (10, 0, 0) 11) hm).bind fun v5 => if v5 = 0 then (fX10_noBytes_25 1 hm) else (fX10_noBytes_25 0 hm)
theorem rqY_in {hc : HP} {sz k : Nat} (h : hc (9, 0, 0) 1 = nI sz) (hs : sz ≤ 500) (hk : k ≤ sz) : fX9_requireBytes (nI k) hc = some (.inl ()) := by
  show (if nI k < 0 then (some (Sum.inr 3 : Unit ⊕ Nat)) else (if (hc (9, 0, 0) 1) < nI k then (some (Sum.inr 3 : Unit ⊕ Nat)) else (some (Sum.inl () : Unit ⊕ Nat)))) = _
  rw [if_neg (n_neg (by omega)), h, if_neg (show ¬ nI sz < nI k by rw [n_lt (by omega) (by omega)]; omega)]
theorem rqY_out {hc : HP} {sz : Nat} {x : Int32} (h : hc (9, 0, 0) 1 = nI sz) (hs : sz ≤ 500) (hx : x < 0 ∨ nI (sz + 1) ≤ x) : fX9_requireBytes x hc = some (.inr 3) := by
  show (if x < 0 then (some (Sum.inr 3 : Unit ⊕ Nat)) else (if (hc (9, 0, 0) 1) < x then (some (Sum.inr 3 : Unit ⊕ Nat)) else (some (Sum.inl () : Unit ⊕ Nat)))) = _
  by_cases q : x < 0
  · rw [if_pos q]
  · rw [if_neg q, h, if_pos (gt_out (by omega) hx q)]
theorem nyM_in {hm : HP} {sz k : Nat} (h : hm (10, 0, 0) 11 = nI sz) (hs : sz ≤ 500) (h0 : hm (10, 0, 0) 0 = 0) (hk : k ≤ sz) : nyM (nI k) hm = some (0, hm) := by
  unfold nyM
  rw [h, in_in' hk (by omega), Option.bind_some, if_neg n10]; exact rf21_0 h0
theorem nyM_out {hm : HP} {sz : Nat} {x : Int32} (h : hm (10, 0, 0) 11 = nI sz) (hs : sz ≤ 500) (h0 : hm (10, 0, 0) 0 = 0) (hx : x < 0 ∨ nI (sz + 1) ≤ x) : nyM x hm = some (1, th hm 2) := by
  unfold nyM
  rw [h, in_out' (by omega) hx, Option.bind_some, if_pos rfl]; exact rf21_1 h0 (by decide)
theorem noBytes_1 {hm : HP} (h : hm (10, 0, 0) 1 = 0) {x : Int32} : fX10_noBytes x hm = some (1, th hm 1) := by
  show (fX10_notLoaded hm).bind (fun q4 => if q4.1 = 0 then _ else (some (1, q4.2))) = _
  rw [nl_1 h, Option.bind_some, if_neg n10]
theorem noBytes_0 {hm : HP} (h : hm (10, 0, 0) 1 = 1) {x : Int32} : fX10_noBytes x hm = nyM x (th hm 0) := by
  show (fX10_notLoaded hm).bind (fun q4 => if q4.1 = 0 then (nyM x q4.2) else (some (1, q4.2))) = _
  rw [nl_0 h, Option.bind_some, if_pos rfl]
theorem opY {cs : List Nat} (hcs0 : cs[0]? = some 1) (hcs1 : cs[1]? = some 3) {a : Int32} {C F : HP → Option ((Int32 ⊕ Nat) × HP)} {M G : HP → Option (Int32 × HP)}
    (hC : ∀ hc, C hc = (fX9_requireLoaded hc).bind fun q2 => Sum.elim (fun _ => (fX9_requireBytes a hc).bind fun q4 => Sum.elim (fun _ => F hc) (fun E => some (.inr E, hc)) q4) (fun E => some (.inr E, hc)) q2)
    (hM : ∀ hm, M hm = (fX10_noBytes a hm).bind fun q2 => if q2.1 = 0 then G q2.2 else (some (0, q2.2)))
    (h : ∀ tb hc hm sz wn os hs nb, tb < 500000000 → Iv tb hc hm sz wn os hs nb → hm (10, 0, 0) 1 = 1 → ∀ T, hm (11, 22, 0) = T → hm (10, 0, 0) 0 = 0 → ∀ k, k ≤ sz → a = nI k → OpI cs F G tb hc hm) : Op (agr cs) C M := by
  refine opL (d0 := 0) hcs0 (F := fun hc => (fX9_requireBytes a hc).bind fun q4 => Sum.elim (fun _ => F hc) (fun E => some (.inr E, hc)) q4) (G := fun hm => (nyM a hm).bind fun q2 => if q2.1 = 0 then G q2.2 else (some (0, q2.2))) hC ?_ ?_ ?_
  · intro hm q
    rw [hM, noBytes_1 q, Option.bind_some, if_neg n10]
  · intro hm q
    rw [hM, noBytes_0 q]
  · intro tb hc hm sz wn os hs nb ht hv l1 T hT h0
    have hsb := hv.sb
    rcases ix_n a (n := sz + 1) (by omega) with ⟨k, hk, rfl⟩ | ho
    · obtain ⟨r, hc1, b, hm1, e1, e2, ag, hI, f1, f2⟩ := h tb hc hm sz wn os hs nb ht hv l1 T hT h0 k (by omega) rfl
      refine ⟨r, hc1, b, hm1, ?_, ?_, ag, hI, f1, f2⟩
      · show (fX9_requireBytes (nI k) hc).bind (fun q4 => Sum.elim (fun _ => F hc) (fun E => some (.inr E, hc)) q4) = _
        rw [rqY_in hv.sz hsb (by omega), Option.bind_some]; exact e1
      · show (nyM (nI k) hm).bind (fun q2 => if q2.1 = 0 then G q2.2 else (some (0, q2.2))) = _
        rw [nyM_in hv.sm hsb h0 (by omega), Option.bind_some, if_pos rfl]; exact e2
    · refine OpI_throw hv (E := 3) (i := 1) hcs1 ?_ ?_
      · show (fX9_requireBytes a hc).bind (fun q4 => Sum.elim (fun _ => F hc) (fun E => some (.inr E, hc)) q4) = _
        rw [rqY_out hv.sz hsb ho]; rfl
      · show (nyM a hm).bind (fun q2 => if q2.1 = 0 then G q2.2 else (some (0, q2.2))) = _
        rw [nyM_out hv.sm hsb h0 ho, Option.bind_some, if_neg n10]; rfl
end
