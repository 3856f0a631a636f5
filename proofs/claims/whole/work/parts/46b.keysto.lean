/-! ===== the fewest keys: both searches ===== -/
section
variable {T L A : Tr0} {tb nb : Nat}
def CkR (W : Nat) (hd : HP) (r : Nat → Option Nat) : Prop := (∀ c, c ≤ W → hd (11, 12, 0) c = enc (r c)) ∧ ∀ c d, c ≤ W → r c = some d → d < 1000
theorem enc_n {x : Option Nat} (h : ∀ d, x = some d → d < 1000) {k : Nat} (hk : k < 1000) : enc x = nI k ↔ x = some k := by
  cases x with
  | none => exact ⟨fun q => absurd q.symm (n_m1 (by omega)), fun q => by cases q⟩
  | some d =>
    have := h d rfl
    show nI d = nI k ↔ _
    rw [n_eq (by omega) (by omega)]
    exact ⟨fun q => by rw [q], fun q => by cases q; rfl⟩
theorem ro_p {W t d : Nat} {hd : HP} {r : Nat → Option Nat} (h : CkR W hd r) (hW : W ≤ 40) (ht : t ≤ W) (hd1 : d < 1000) : ∃ hd', fX1_reachOnce (nI t) (nI d) 12 0 hd = some hd' ∧ CkR W hd' (roF r t d) ∧ ∀ x, x ≠ (11, 12, 0) → hd' x = hd x := by
  have hb := h.2 t
  have ee := enc_m1 (x := r t) (fun d hd => by have := hb d ht hd; omega)
  have e : fX1_reachOnce (nI t) (nI d) 12 0 hd = if r t = none then some (up hd (11, 12, 0) t (nI d)) else some hd := by
    show (fX7_at 12 0 (nI t) hd).bind (fun v1 => if v1 = m1 then ((fX7_put 12 0 (nI t) (nI d) hd).bind fun hp4 => some hp4) else (some hd)) = _
    rw [at_n (show t < wlen 12 by show t < 41; omega), Option.bind_some, h.1 t ht, put_n (show t < wlen 12 by show t < 41; omega), Option.bind_some]
    by_cases q : r t = none
    · rw [if_pos (ee.mpr q), if_pos q]
    · rw [if_neg (fun p => q (ee.mp p)), if_neg q]
  rw [e]
  unfold roF
  by_cases q : r t = none
  · rw [if_pos q, if_pos q]
    refine ⟨_, rfl, ⟨fun c hc => ?_, fun c x hc hx => ?_⟩, fun x hx => up_n hx⟩
    · by_cases p : c = t
      · rw [p, up_s]; simp [enc]
      · rw [up_o (fun z => p z.2)]; simp only [if_neg p]; exact h.1 c hc
    · by_cases p : c = t
      · simp only [p, if_true] at hx; cases hx; exact hd1
      · simp only [if_neg p] at hx; exact h.2 c x hc hx
  · rw [if_neg q, if_neg q]
    exact ⟨_, rfl, h, fun _ _ => rfl⟩
theorem St_12 {hd hd' : HP} (h : St hd 0 T L A nb tb) (e : ∀ x, x ≠ (11, 12, 0) → hd' x = hd x) : St hd' 0 T L A nb tb :=
  St_hc h (fun r hr => e r (fun q => by rw [q] at hr; unfold ofm at hr; simp at hr))
theorem tab_n (hW : WF tb T L A nb) {c : Nat} (hc : c ≤ tn (T 9)) : tabT T c = nI (tn (tabT T c)) ∧ tn (tabT T c) ≤ tn (T 9) := by
  have hw := hW.w
  obtain ⟨q, q1, q2⟩ := tabT_b hW hc
  rw [q1, n_t (by omega)]; exact ⟨rfl, q2⟩
theorem bk_n {c : Nat} (hc : c < 1000) : bkT T (nI c) = nI (tn (bkT T (nI c))) ∧ tn (bkT T (nI c)) ≤ c := by
  obtain ⟨q, q1, q2⟩ := bkT_b (T := T) (c := c) (by omega)
  rw [q1, n_t (by omega)]; exact ⟨rfl, q2⟩
theorem lk_lt (hW : WF tb T L A nb) {c : Nat} (hc : c < 1000) (h : lkT T (nI c) = 0) : c < tn (T 9) := by
  have hw := hW.w
  have e9 : T 9 = nI (tn (T 9)) := hw.1
  unfold lkT at h
  by_cases q : nI c < T 9
  · rw [e9, n_lt (by omega) (by omega)] at q; exact q
  · rw [if_neg q] at h; exact absurd h (by decide)
theorem rf_p (hW : WF tb T L A nb) {s k a : Nat} {S : Nat → Nat → Prop} {hd : HP} {r : Nat → Option Nat} (hS : St hd 0 T L A nb tb) (hk : k < 900) (ha : a ≤ tn (T 9)) (hl : lvT2 T s (tn (T 9)) k a) (hQ : QcP T s (tn (T 9)) k S r) (hC : CkR (tn (T 9)) hd r) : ∃ hd' r', fX1_reachFrom 0 (nI a) (nI (k + 1)) 12 0 hd = some hd' ∧ CkR (tn (T 9)) hd' r' ∧ QcP T s (tn (T 9)) k (fun b c => S b c ∨ (b = a ∧ edT T a c)) r' ∧ ∀ x, x ≠ (11, 12, 0) → hd' x = hd x := by
  have hw := hW.w
  have tb1 := tab_n hW ha
  have bk1 := bk_n (T := T) (c := a) (by omega)
  -- tab and back
  have two : ∀ (S0 : Nat → Nat → Prop) (hx : HP) (rx : Nat → Option Nat), St hx 0 T L A nb tb → CkR (tn (T 9)) hx rx → QcP T s (tn (T 9)) k S0 rx → ∃ hd' r', fX1_reachFrom_16 0 (nI a) (nI (k + 1)) 12 0 hx = some hd' ∧ CkR (tn (T 9)) hd' r' ∧ QcP T s (tn (T 9)) k (fun b c => (S0 b c ∨ (b = a ∧ c = tn (tabT T a))) ∨ (b = a ∧ c = tn (bkT T (nI a)))) r' ∧ ∀ x, x ≠ (11, 12, 0) → hd' x = hx x := by
    intro S0 hx rx hS0 hC0 hQ0
    obtain ⟨h1, e1, c1, f1⟩ := ro_p (t := tn (tabT T a)) (d := k + 1) hC0 hw.2.2 tb1.2 (by omega)
    have hS1 := St_12 hS0 f1
    obtain ⟨h2, e2, c2, f2⟩ := ro_p (t := tn (bkT T (nI a))) (d := k + 1) c1 hw.2.2 (by omega) (by omega)
    have q1 := Qc_reach hQ0 ha hl (Or.inl rfl) tb1.2
    have q2 := Qc_reach q1 ha hl (Or.inr (Or.inl rfl)) (show tn (bkT T (nI a)) ≤ tn (T 9) by omega)
    refine ⟨h2, _, ?_, c2, q2, fun x hx => (f2 x hx).trans (f1 x hx)⟩
    show (fX1_tabFrom 0 (nI a) hx).bind (fun v1 => (fX1_reachOnce v1 (nI (k + 1)) 12 0 hx).bind fun hp4 => (fX1_backFrom 0 (nI a) hp4).bind fun v5 => (fX1_reachOnce v5 (nI (k + 1)) 12 0 hp4).bind fun hp8 => some hp8) = _
    rw [c_tabFrom (St_MR hS0) hw.1 ha, Option.bind_some]
    conv => lhs; rw [tb1.1]
    rw [e1, Option.bind_some, c_backFrom (St_MR hS1), Option.bind_some]
    conv => lhs; rw [bk1.1]
    rw [e2, Option.bind_some]
  have hlk := c_lock (St_MR hS) (nI a)
  have hs : fX1_reachFrom 0 (nI a) (nI (k + 1)) 12 0 hd = (if lkT T (nI a) = 0 then ((fX1_reachOnce (nI (a + 1)) (nI (k + 1)) 12 0 hd).bind fun hp12 => fX1_reachFrom_16 0 (nI a) (nI (k + 1)) 12 0 hp12) else (fX1_reachFrom_16 0 (nI a) (nI (k + 1)) 12 0 hd)) := by
    show (fX1_locksAt 0 (nI a) hd).bind (fun v9 => if v9 = 0 then ((fX1_reachOnce (nI a + 1) (nI (k + 1)) 12 0 hd).bind fun hp12 => fX1_reachFrom_16 0 (nI a) (nI (k + 1)) 12 0 hp12) else (fX1_reachFrom_16 0 (nI a) (nI (k + 1)) 12 0 hd)) = _
    rw [hlk, Option.bind_some, ← nI_succ a]
  rw [hs]
  by_cases q : lkT T (nI a) = 0
  · rw [if_pos q]
    have ha1 := lk_lt hW (show a < 1000 by omega) q
    obtain ⟨h0, e0, c0, f0⟩ := ro_p (t := a + 1) (d := k + 1) hC hw.2.2 (by omega) (by omega)
    have q0 := Qc_reach hQ ha hl (Or.inr (Or.inr ⟨q, rfl⟩)) (show a + 1 ≤ tn (T 9) by omega)
    obtain ⟨h2, r2, e2, c2, q2, f2⟩ := two _ h0 _ (St_12 hS f0) c0 q0
    refine ⟨h2, r2, by rw [e0, Option.bind_some]; exact e2, c2, Qc_weak q2 ?_, fun x hx => (f2 x hx).trans (f0 x hx)⟩
    intro b c hb hc hs he _
    rcases hs with hs | ⟨rfl, he2⟩
    · exact Or.inl (Or.inl (Or.inl hs))
    · rcases he2 with e | e | ⟨_, e⟩
      · exact Or.inl (Or.inr ⟨rfl, e⟩)
      · exact Or.inr ⟨rfl, e⟩
      · exact Or.inl (Or.inl (Or.inr ⟨rfl, e⟩))
  · rw [if_neg q]
    obtain ⟨h2, r2, e2, c2, q2, f2⟩ := two _ hd _ hS hC hQ
    refine ⟨h2, r2, e2, c2, Qc_weak q2 ?_, f2⟩
    intro b c hb hc hs he _
    rcases hs with hs | ⟨rfl, he2⟩
    · exact Or.inl (Or.inl hs)
    · rcases he2 with e | e | ⟨e, _⟩
      · exact Or.inl (Or.inr ⟨rfl, e⟩)
      · exact Or.inr ⟨rfl, e⟩
      · exact absurd e q
theorem pass_p (hW : WF tb T L A nb) {s k tg : Nat} (hk : k < 800) {k26 : Int32 → Nat → Nat → Int32 → Int32 → HP → Option (Int32 × HP)} : ∀ (p a n : Nat) (hd : HP) (r : Nat → Option Nat), a + p = tn (T 9) + 1 → p < n → St hd 0 T L A nb tb → CkR (tn (T 9)) hd r → QcP T s (tn (T 9)) k (fun b _ => b < a) r → ∃ hd' r', fX1_fewestKeysTo_44 n 0 (nI tg) 12 0 (nI (tn (T 9))) (nI k) (nI a) k26 hd = k26 (nI tg) 12 0 (nI (tn (T 9))) (nI (k + 1)) hd' ∧ CkR (tn (T 9)) hd' r' ∧ PcP T s (tn (T 9)) (k + 1) r' ∧ ∀ x, x ≠ (11, 12, 0) → hd' x = hd x := by
  have hw := hW.w
  intro p
  induction p with
  | zero =>
    intro a n hd r ha hn hS hC hQ
    obtain ⟨n, rfl⟩ : ∃ q, n = q + 1 := ⟨n - 1, by omega⟩
    have g : nI (tn (T 9)) < nI a := by rw [n_lt (by omega) (by omega)]; omega
    refine ⟨hd, r, ?_, hC, Pc_end (by rw [show a = tn (T 9) + 1 by omega] at hQ; exact hQ), fun _ _ => rfl⟩
    simp only [fX1_fewestKeysTo_44]
    rw [if_pos g, ← nI_succ]
  | succ p ih =>
    intro a n hd r ha hn hS hC hQ
    obtain ⟨n, rfl⟩ : ∃ q, n = q + 1 := ⟨n - 1, by omega⟩
    have g : ¬ nI (tn (T 9)) < nI a := by rw [n_lt (by omega) (by omega)]; omega
    have ee := enc_n (x := r a) (fun d hd => hC.2 a d (by omega) hd) (k := k) (by omega)
    simp only [fX1_fewestKeysTo_44, fX1_fewestKeysTo_72]
    rw [if_neg g, at_n (show a < wlen 12 by show a < 41; omega), Option.bind_some, hC.1 a (by omega), ← nI_succ, ← nI_succ]
    by_cases q : r a = some k
    · have hl : lvT2 T s (tn (T 9)) k a := by
        rcases hQ a (by omega) with ⟨j, j1, j2, j3⟩ | ⟨j2, _⟩ | ⟨j2, _⟩
        · rw [q] at j2; cases j2; exact j3
        · rw [q] at j2; injection j2 with j2; omega
        · rw [q] at j2; cases j2
      obtain ⟨h1, r1, e1, c1, q1, f1⟩ := rf_p hW hS (by omega) (show a ≤ tn (T 9) by omega) hl hQ hC
      obtain ⟨h2, r2, e2, c2, q2, f2⟩ := ih (a + 1) n h1 r1 (by omega) (by omega) (St_12 hS f1) c1 (Qc_weak q1 (fun b c hb hc hs he _ => by
        by_cases e : b = a
        · subst e; exact Or.inr ⟨rfl, he⟩
        · exact Or.inl (by omega)))
      refine ⟨h2, r2, ?_, c2, q2, fun x hx => (f2 x hx).trans (f1 x hx)⟩
      rw [if_pos (ee.mpr q), e1, Option.bind_some]; exact e2
    · obtain ⟨h2, r2, e2, c2, q2, f2⟩ := ih (a + 1) n hd r (by omega) (by omega) hS hC (Qc_weak hQ (fun b c hb hc hs he hl => by
        by_cases e : b = a
        · subst e
          exfalso
          rcases hQ b (by omega) with ⟨j, j1, j2, j3⟩ | ⟨_, j3, _⟩ | ⟨_, j3, _⟩
          · rw [lv_u j3 hl] at j2; exact q j2
          · exact j3 hl.1
          · exact j3 hl.1
        · omega))
      refine ⟨h2, r2, ?_, c2, q2, f2⟩
      rw [if_neg (fun p => q (ee.mp p))]; exact e2
theorem keys_c (hW : WF tb T L A nb) {s tg : Nat} (htg : tg ≤ tn (T 9)) : ∀ (p k n : Nat) (hd : HP) (r : Nat → Option Nat), k + p = tn (T 9) + 1 → p < n → St hd 0 T L A nb tb → CkR (tn (T 9)) hd r → PcP T s (tn (T 9)) k r → ∃ v hd', fX1_fewestKeysTo_26 n 0 (nI tg) 12 0 (nI (tn (T 9))) (nI k) hd = some (v, hd') ∧ ((∃ j, v = nI j ∧ lvT2 T s (tn (T 9)) j tg) ∨ (v = m1 ∧ ¬ rcT T s (tn (T 9)) (tn (T 9) + 1) tg)) ∧ ∀ x, x ≠ (11, 12, 0) → hd' x = hd x := by
  have hw := hW.w
  have hf := FU_ge
  intro p
  have e84 : ∀ hd r, CkR (tn (T 9)) hd r → fX1_fewestKeysTo_84 0 (nI tg) 12 0 hd = some (enc (r tg), hd) := by
    intro hd r hC
    show (fX7_at 12 0 (nI tg) hd).bind (fun v5 => some (v5, hd)) = _
    rw [at_n (show tg < wlen 12 by show tg < 41; omega), Option.bind_some, hC.1 tg htg]
  induction p with
  | zero =>
    intro k n hd r hk hn hS hC hP
    obtain ⟨n, rfl⟩ : ∃ q, n = q + 1 := ⟨n - 1, by omega⟩
    have g : nI (tn (T 9)) < nI k := by rw [n_lt (by omega) (by omega)]; omega
    refine ⟨enc (r tg), hd, ?_, ?_, fun _ _ => rfl⟩
    · simp only [fX1_fewestKeysTo_26]; rw [if_pos g, e84 hd r hC]
    · rcases hP tg htg with ⟨j, j1, j2, j3⟩ | ⟨j2, j3⟩
      · left; exact ⟨j, by rw [j2]; rfl, j3⟩
      · right; exact ⟨by rw [j2]; rfl, by rw [show k = tn (T 9) + 1 by omega] at j3; exact j3⟩
  | succ p ih =>
    intro k n hd r hk hn hS hC hP
    obtain ⟨n, rfl⟩ : ∃ q, n = q + 1 := ⟨n - 1, by omega⟩
    have g : ¬ nI (tn (T 9)) < nI k := by rw [n_lt (by omega) (by omega)]; omega
    have ee := enc_m1 (x := r tg) (fun d hd => by have := hC.2 tg d htg hd; omega)
    simp only [fX1_fewestKeysTo_26]
    rw [if_neg g, at_n (show tg < wlen 12 by show tg < 41; omega), Option.bind_some, hC.1 tg htg]
    by_cases q : r tg = none
    · rw [if_pos (ee.mpr q)]
      obtain ⟨h1, r1, e1, c1, p1, f1⟩ := pass_p hW (s := s) (k := k) (tg := tg) (by omega) (k26 := fun x1 wr2 mr2 x3 x4 hq => fX1_fewestKeysTo_26 n 0 x1 wr2 mr2 x3 x4 hq) (tn (T 9) + 1) 0 FU hd r (by omega) (by omega) hS hC (Pc_start hP)
      obtain ⟨v, h2, e2, a2, f2⟩ := ih (k + 1) n h1 r1 (by omega) (by omega) (St_12 hS f1) c1 p1
      refine ⟨v, h2, ?_, a2, fun x hx => (f2 x hx).trans (f1 x hx)⟩
      rw [show fX1_fewestKeysTo_44 FU 0 (nI tg) 12 0 (nI (tn (T 9))) (nI k) 0 (fun x1 wr2 mr2 x3 x4 hq => fX1_fewestKeysTo_26 n 0 x1 wr2 mr2 x3 x4 hq) hd = _ from e1]
      exact e2
    · rw [if_neg (fun p => q (ee.mp p)), e84 hd r hC]
      refine ⟨_, hd, rfl, ?_, fun _ _ => rfl⟩
      rcases hP tg htg with ⟨j, j1, j2, j3⟩ | ⟨j2, j3⟩
      · left; exact ⟨j, by rw [j2]; rfl, j3⟩
      · exact absurd j2 q
end
section
variable {T L A : Tr0} {tb nb : Nat}
/-- the reference's far row and its queue -/
def KmR (W : Nat) (hm : HP) (f : Nat → Option Nat) (q : Nat → Nat) (qn : Nat) : Prop := (∀ c, c ≤ W → hm (11, 29, 0) c = enc (f c)) ∧ (∀ i, i < qn → hm (11, 30, 0) i = nI (q i)) ∧ hm (10, 0, 0) 28 = nI qn
theorem re_p {W t d qn : Nat} {hm : HP} {f : Nat → Option Nat} {q : Nat → Nat} (h : KmR W hm f q qn) (hW : W ≤ 40) (ht : t ≤ W) (hd : ∀ x, f t = some x → x < 1000) (hq : f t = none → qn < 41) : ∃ hm', fX10_reaches (nI t) (nI d) (rwm hm T) = some (rwm hm' T) ∧ KmR W hm' (if f t = none then (fun c => if c = t then some d else f c) else f) (if f t = none then (fun i => if i = qn then t else q i) else q) (if f t = none then qn + 1 else qn) ∧ (∀ x, x ≠ (11, 29, 0) → x ≠ (11, 30, 0) → x ≠ (10, 0, 0) → hm' x = hm x) ∧ (∀ k, k ≠ 28 → hm' (10, 0, 0) k = hm (10, 0, 0) k) := by
  have ee := enc_m1 (x := f t) (fun x hx => by have := hd x hx; omega)
  have i41 : inb (nI t) 41 = true := inb_n (by omega) (by omega)
  have e : fX10_reaches (nI t) (nI d) (rwm hm T) = if f t = none then some (rwm (up (up (up hm (11, 29, 0) t (nI d)) (11, 30, 0) qn (nI t)) (10, 0, 0) 28 (nI (qn + 1))) T) else some (rwm hm T) := by
    show (if inb (nI t) 41 = true then (if ((rwm hm T) (11, 29, 0) (nI t).toNatClampNeg) = m1 then (if inb (nI t) 41 = true then (fX10_reaches_17 (nI t) (up (rwm hm T) (11, 29, 0) ((nI t).toNatClampNeg) (nI d))) else none) else (some (rwm hm T))) else none) = _
    rw [if_pos i41, if_pos i41, n_c (by omega), rwm_n (by decide), h.1 t ht, rwm_up2 (by decide)]
    by_cases p : f t = none
    · have hq2 := hq p
      rw [if_pos (ee.mpr p), if_pos p]
      show (if inb ((up hm (11, 29, 0) t (nI d)) (10, 0, 0) 28) 41 = true then (some (up (up (rwm (up hm (11, 29, 0) t (nI d)) T) (11, 30, 0) (((up hm (11, 29, 0) t (nI d)) (10, 0, 0) 28).toNatClampNeg) (nI t)) (10, 0, 0) 28 ((up (rwm (up hm (11, 29, 0) t (nI d)) T) (11, 30, 0) (((up hm (11, 29, 0) t (nI d)) (10, 0, 0) 28).toNatClampNeg) (nI t)) (10, 0, 0) 28 + 1))) else none) = _
      rw [up_n (show ¬ ((10, 0, 0) : RF) = (11, 29, 0) by decide), h.2.2, if_pos (inb_n hq2 (by omega)), n_c (by omega), rwm_up2 (by decide), rwm_up2 (by decide), rwm_n (by decide), up_n (show ¬ ((10, 0, 0) : RF) = (11, 30, 0) by decide), up_n (show ¬ ((10, 0, 0) : RF) = (11, 29, 0) by decide), h.2.2, ← nI_succ]
    · rw [if_neg (fun x => p (ee.mp x)), if_neg p]
  rw [e]
  by_cases p : f t = none
  · simp only [if_pos p]
    refine ⟨_, rfl, ⟨fun c hc => ?_, fun i hi => ?_, up_s⟩, fun x a b c => by rw [up_n c, up_n b, up_n a], fun k hk => by rw [up_o (fun z => hk z.2), up_n (by decide), up_n (by decide)]⟩
    · rw [up_n (by decide), up_n (by decide)]
      by_cases z : c = t
      · rw [z, up_s]; simp [enc]
      · rw [up_o (fun y => z y.2)]; simp only [if_neg z]; exact h.1 c hc
    · rw [up_n (by decide)]
      by_cases z : i = qn
      · rw [z, up_s]; simp
      · rw [up_o (fun y => z y.2), up_n (by decide)]; simp only [if_neg z]; exact h.2.1 i (by omega)
  · simp only [if_neg p]
    exact ⟨_, rfl, h, fun _ _ _ _ => rfl, fun _ _ => rfl⟩
theorem cn_room {f : Nat → Option Nat} {t n : Nat} (h : f t = none) (ht : t < n) : cnF f n < n := by
  have := cnF_le (fun c => if c = t then some 0 else f c) n
  rw [cnF_up (d := 0) h n, if_pos ht] at this
  omega
theorem keys_m (hW : WF tb T L A nb) {s tg : Nat} (htg : tg ≤ tn (T 9)) : ∀ (p k n qn : Nat) (hm : HP) (f : Nat → Option Nat) (q : Nat → Nat), k + p = 41 → k ≤ qn → p < n → KmR (tn (T 9)) hm f q qn → JmP T s (tn (T 9)) k (fun b _ => ∃ i, i < k ∧ q i = b) f q qn → cnF f (tn (T 9) + 1) = qn → ∃ v hm', fX10_keysTo_74 n (nI tg) (nI k) (rwm hm T) = some (v, rwm hm' T) ∧ ((∃ j, v = nI j ∧ j ≤ tn (T 9) ∧ lvT2 T s (tn (T 9)) j tg) ∨ (v = m1 ∧ ∀ j, ¬ rcT T s (tn (T 9)) j tg)) ∧ (∀ x, x ≠ (11, 29, 0) → x ≠ (11, 30, 0) → x ≠ (10, 0, 0) → hm' x = hm x) ∧ (∀ i, i ≠ 28 → hm' (10, 0, 0) i = hm (10, 0, 0) i) := by
  have hw := hW.w
  intro p
  have fin : ∀ (k n qn : Nat) (hm : HP) (f : Nat → Option Nat) (q : Nat → Nat), k = qn → KmR (tn (T 9)) hm f q qn → JmP T s (tn (T 9)) k (fun b _ => ∃ i, i < k ∧ q i = b) f q qn → cnF f (tn (T 9) + 1) = qn → fX10_keysTo_74 (n + 1) (nI tg) (nI k) (rwm hm T) = some (enc (f tg), rwm hm T) ∧ ((∃ j, enc (f tg) = nI j ∧ j ≤ tn (T 9) ∧ lvT2 T s (tn (T 9)) j tg) ∨ (enc (f tg) = m1 ∧ ∀ j, ¬ rcT T s (tn (T 9)) j tg)) := by
    intro k n qn hm f q hk hK hJ hcn
    have hq1 := cnF_le f (tn (T 9) + 1)
    obtain ⟨a1, a2, a3, a4, a5, a6, a7, a8⟩ := hJ
    have cmp : ∀ j c, c ≤ tn (T 9) → rcT T s (tn (T 9)) j c → ∃ d, f c = some d ∧ d ≤ j := by
      intro j
      induction j with
      | zero => intro c hc h; have h : c = s := h; rw [h]; exact ⟨0, a7, Nat.le_refl _⟩
      | succ j ih =>
        intro c hc h
        rcases h with h | ⟨b, b1, b2, b3⟩
        · obtain ⟨d, d1, d2⟩ := ih c hc h; exact ⟨d, d1, by omega⟩
        · obtain ⟨d, d1, d2⟩ := ih b b1 b2
          rcases a2 b b1 with g | ⟨i, i1, i2⟩
          · rw [g] at d1; cases d1
          · obtain ⟨x, x1, x2⟩ := a5 b c d b1 hc ⟨i, by omega, i2⟩ b3 d1
            exact ⟨x, x1, by omega⟩
    refine ⟨?_, ?_⟩
    · simp only [fX10_keysTo_74]
      rw [rwm_n (by decide), hK.2.2, hk, if_neg (show ¬ nI qn < nI qn from Int32.lt_irrefl), alen_r, if_pos (inb_n (show tg < wlen 29 by show tg < 41; omega) (by decide)), n_c (by omega), rwm_n (by decide), hK.1 tg htg]
    · cases hft : f tg with
      | none =>
        right
        refine ⟨rfl, fun j h => ?_⟩
        obtain ⟨d, d1, _⟩ := cmp j tg htg h
        rw [hft] at d1; cases d1
      | some d =>
        left
        refine ⟨d, rfl, ?_, a3 tg d htg hft, fun i hi h => ?_⟩
        · rcases a2 tg htg with g | ⟨i, i1, i2⟩
          · rw [hft] at g; cases g
          · obtain ⟨_, x, x1, x2⟩ := a1 i i1
            rw [i2, hft] at x2; cases x2; omega
        · obtain ⟨x, x1, x2⟩ := cmp i tg htg h
          rw [hft] at x1; cases x1; omega
  induction p with
  | zero =>
    intro k n qn hm f q hk hkq hn hK hJ hcn
    obtain ⟨n, rfl⟩ : ∃ x, n = x + 1 := ⟨n - 1, by omega⟩
    have hq1 := cnF_le f (tn (T 9) + 1)
    obtain ⟨e1, e2⟩ := fin k n qn hm f q (by omega) hK hJ hcn
    exact ⟨_, hm, e1, e2, fun _ _ _ _ => rfl, fun _ _ => rfl⟩
  | succ p ih =>
    intro k n qn hm f q hk hkq hn hK hJ hcn
    obtain ⟨n, rfl⟩ : ∃ x, n = x + 1 := ⟨n - 1, by omega⟩
    have hq1 := cnF_le f (tn (T 9) + 1)
    by_cases hkq2 : k = qn
    · obtain ⟨e1, e2⟩ := fin k n qn hm f q hkq2 hK hJ hcn
      exact ⟨_, hm, e1, e2, fun _ _ _ _ => rfl, fun _ _ => rfl⟩
    · have hkl : k < qn := by omega
      obtain ⟨qW, d, d1, d2⟩ := hJ.1 k hkl
      have tb1 := tab_n hW qW
      have bk1 := bk_n (T := T) (c := q k) (by omega)
      have bd : ∀ (f : Nat → Option Nat) (q : Nat → Nat) (qn : Nat) (S : Nat → Nat → Prop), JmP T s (tn (T 9)) k S f q qn → cnF f (tn (T 9) + 1) = qn → ∀ c x, c ≤ tn (T 9) → f c = some x → x < 1000 := by
        intro f q qn S hJ hcn c x hc hx
        have := cnF_le f (tn (T 9) + 1)
        rcases hJ.2.1 c hc with g | ⟨i, i1, i2⟩
        · rw [hx] at g; cases g
        · obtain ⟨_, y, y1, y2⟩ := hJ.1 i i1
          rw [i2, hx] at y2; cases y2; omega
      have room : ∀ (f : Nat → Option Nat) (qn t : Nat), cnF f (tn (T 9) + 1) = qn → t ≤ tn (T 9) → f t = none → qn < 41 := by
        intro f qn t hcn ht hf
        have := cn_room hf (show t < tn (T 9) + 1 by omega)
        omega
      -- the stop
      obtain ⟨f1, q1, n1, rf1, rq1, rn1, j1, c1, k1, kq1, fd1⟩ := Jm_reach hJ hkl d2 (Or.inl rfl : edT T (q k) (tn (tabT T (q k)))) tb1.2 hcn
      obtain ⟨m1', e1, K1, x1, y1⟩ := re_p (T := T) (t := tn (tabT T (q k))) (d := d + 1) hK hw.2.2 tb1.2 (fun x hx => bd f q qn _ hJ hcn _ x tb1.2 hx) (fun h => room f qn _ hcn tb1.2 h)
      rw [← rf1, ← rq1, ← rn1] at K1
      -- the step back
      have d2' : f1 (q1 k) = some d := by rw [kq1]; exact fd1
      obtain ⟨f2, q2, n2, rf2, rq2, rn2, j2, c2, k2, kq2, fd2⟩ := Jm_reach j1 k1 d2' (Or.inr (Or.inl (by rw [kq1])) : edT T (q1 k) (tn (bkT T (nI (q k))))) (by omega) c1
      obtain ⟨m2', e2, K2, x2, y2⟩ := re_p (T := T) (t := tn (bkT T (nI (q k)))) (d := d + 1) K1 hw.2.2 (by omega) (fun x hx => bd f1 q1 n1 _ j1 c1 _ x (by omega) hx) (fun h => room f1 n1 _ c1 (by omega) h)
      rw [← rf2, ← rq2, ← rn2] at K2
      have hqk : hm (11, 30, 0) k = nI (q k) := hK.2.1 k hkl
      have fk : hm (11, 29, 0) (q k) = nI d := by rw [hK.1 _ qW, d2]; rfl
      have fk1 : m1' (11, 29, 0) (q k) = nI d := by rw [K1.1 _ qW, fd1]; rfl
      have fk2 : m2' (11, 29, 0) (q k) = nI d := by
        rw [kq1] at fd2
        rw [K2.1 _ qW, fd2]; rfl
      have iq : inb (nI (q k)) 41 = true := inb_n (by omega) (by omega)
      -- what is left after the three
      have go : ∀ (f3 : Nat → Option Nat) (q3 : Nat → Nat) (n3 : Nat) (S : Nat → Nat → Prop) (m3 : HP), KmR (tn (T 9)) m3 f3 q3 n3 → JmP T s (tn (T 9)) k S f3 q3 n3 → cnF f3 (tn (T 9) + 1) = n3 → k < n3 → (∀ i, i ≤ k → q3 i = q i) → (∀ b c, (∃ i, i < k + 1 ∧ q3 i = b) → edT T b c → S b c) → (∀ x, x ≠ (11, 29, 0) → x ≠ (11, 30, 0) → x ≠ (10, 0, 0) → m3 x = hm x) → (∀ i, i ≠ 28 → m3 (10, 0, 0) i = hm (10, 0, 0) i) → ∃ v hm', fX10_keysTo_74 n (nI tg) (nI k + 1) (rwm m3 T) = some (v, rwm hm' T) ∧ ((∃ j, v = nI j ∧ j ≤ tn (T 9) ∧ lvT2 T s (tn (T 9)) j tg) ∨ (v = m1 ∧ ∀ j, ¬ rcT T s (tn (T 9)) j tg)) ∧ (∀ x, x ≠ (11, 29, 0) → x ≠ (11, 30, 0) → x ≠ (10, 0, 0) → hm' x = hm x) ∧ (∀ i, i ≠ 28 → hm' (10, 0, 0) i = hm (10, 0, 0) i) := by
        intro f3 q3 n3 S m3 K3 J3 C3 hk3 hq3 hS3 z1 z2
        obtain ⟨a1, a2, a3, a4, a5, a6, a7, a8⟩ := J3
        have J3' : JmP T s (tn (T 9)) (k + 1) (fun b _ => ∃ i, i < k + 1 ∧ q3 i = b) f3 q3 n3 := by
          refine ⟨a1, a2, a3, a4, ?_, ?_, a7, ?_⟩
          · intro b c x hb hc hs he hx
            exact a5 b c x hb hc (hS3 b c hs he) he hx
          · intro i x y hi hk1 hx hy
            obtain ⟨_, u, _, u2⟩ := a1 k hk3
            have := a6 i u y hi hk3 u2 hy
            have := a4 k (k + 1) u x (by omega) hk1 u2 hx
            omega
          · intro b c hs
            obtain ⟨i, i1, i2⟩ := hs
            obtain ⟨_, u, _, u2⟩ := a1 i (by omega)
            rw [i2] at u2
            rw [u2]; simp
        obtain ⟨v, m4, g1, g2, g3, g4⟩ := ih (k + 1) n n3 m3 f3 q3 (by omega) (by omega) (by omega) K3 J3' C3
        rw [nI_succ] at g1
        exact ⟨v, m4, g1, g2, fun x a b c => (g3 x a b c).trans (z1 x a b c), fun i hi => (g4 i hi).trans (z2 i hi)⟩
      have hq1k : ∀ i, i ≤ k → q1 i = q i := fun i hi => by
        rw [rq1]
        split
        · exact if_neg (by omega)
        · rfl
      have hn1 : qn ≤ n1 := by rw [rn1]; split <;> omega
      have hq2k : ∀ i, i ≤ k → q2 i = q i := fun i hi => by
        rw [rq2]
        split
        · show (if i = n1 then _ else q1 i) = q i
          rw [if_neg (by omega)]; exact hq1k i hi
        · exact hq1k i hi
      have hn2 : n1 ≤ n2 := by rw [rn2]; split <;> omega
      have red : ∀ (n' : Nat), fX10_keysTo_74 (n' + 1) (nI tg) (nI k) (rwm hm T) = (if lkT T (nI (q k)) = 0 then ((fX10_reaches (nI (q k) + 1) (nI (d + 1)) (rwm m2' T)).bind fun hp12 => fX10_keysTo_74 n' (nI tg) (nI k + 1) hp12) else (fX10_keysTo_74 n' (nI tg) (nI k + 1) (rwm m2' T))) := by
        intro n'
        have ek : nI k < nI qn := by rw [n_lt (by omega) (by omega)]; exact hkl
        simp only [fX10_keysTo_74, fX10_keysTo_146]
        rw [rwm_n (show ¬ ((10, 0, 0) : RF) = (11, 22, 0) by decide), hK.2.2, if_pos ek, alen_r, alen_r, if_pos (inb_n (show k < wlen 30 by show k < 41; omega) (by decide)), n_c (by omega), rwm_n (show ¬ ((11, 30, 0) : RF) = (11, 22, 0) by decide), hqk, m_stopFrom hW qW, Option.bind_some, show inb (nI (q k)) (wlen 29) = true from iq, if_pos rfl, n_c (by omega), rwm_n (show ¬ ((11, 29, 0) : RF) = (11, 22, 0) by decide), fk]
        conv => lhs; rw [tb1.1]
        rw [← nI_succ d, e1, Option.bind_some, m_backFrom, Option.bind_some, if_pos rfl, rwm_n (show ¬ ((11, 29, 0) : RF) = (11, 22, 0) by decide), fk1]
        conv => lhs; rw [bk1.1]
        rw [← nI_succ d, e2, Option.bind_some, m_lock hW qW, Option.bind_some, if_pos rfl, rwm_n (show ¬ ((11, 29, 0) : RF) = (11, 22, 0) by decide), fk2, ← nI_succ d]
      rw [red]
      by_cases ql : lkT T (nI (q k)) = 0
      · rw [if_pos ql, ← nI_succ (q k)]
        have h1 := lk_lt hW (show q k < 1000 by omega) ql
        have d2'' : f2 (q2 k) = some d := by rw [kq2]; exact fd2
        obtain ⟨f3, q3, n3, rf3, rq3, rn3, j3, c3, k3, kq3, fd3⟩ := Jm_reach j2 k2 d2'' (Or.inr (Or.inr (by rw [kq2, kq1]; exact ⟨ql, rfl⟩)) : edT T (q2 k) (q k + 1)) (by omega) c2
        obtain ⟨m3', e3, K3, x3, y3⟩ := re_p (T := T) (t := q k + 1) (d := d + 1) K2 hw.2.2 (by omega) (fun x hx => bd f2 q2 n2 _ j2 c2 _ x (by omega) hx) (fun h => room f2 n2 _ c2 (by omega) h)
        rw [← rf3, ← rq3, ← rn3] at K3
        have hq3k : ∀ i, i ≤ k → q3 i = q i := fun i hi => by
          rw [rq3]
          split
          · show (if i = n2 then _ else q2 i) = q i
            rw [if_neg (by omega)]; exact hq2k i hi
          · exact hq2k i hi
        rw [e3, Option.bind_some]
        refine go f3 q3 n3 _ m3' K3 j3 c3 k3 hq3k ?_ (fun x a b c => (x3 x a b c).trans ((x2 x a b c).trans (x1 x a b c))) (fun i hi => (y3 i hi).trans ((y2 i hi).trans (y1 i hi)))
        intro b c hs he
        obtain ⟨i, i1, i2⟩ := hs
        by_cases ik : i = k
        · subst ik
          have eb : b = q i := by rw [← i2]; exact hq3k i (Nat.le_refl _)
          rw [kq2, kq1]
          rcases he with he | he | ⟨_, he⟩
          · exact Or.inl (Or.inl (Or.inr ⟨eb, by rw [he, eb]⟩))
          · exact Or.inl (Or.inr ⟨eb, by rw [he, eb]⟩)
          · exact Or.inr ⟨eb, by rw [he, eb]⟩
        · exact Or.inl (Or.inl (Or.inl ⟨i, by omega, by rw [← i2]; exact (hq3k i (by omega)).symm⟩))
      · rw [if_neg ql]
        refine go f2 q2 n2 _ m2' K2 j2 c2 k2 hq2k ?_ (fun x a b c => (x2 x a b c).trans (x1 x a b c)) (fun i hi => (y2 i hi).trans (y1 i hi))
        intro b c hs he
        obtain ⟨i, i1, i2⟩ := hs
        by_cases ik : i = k
        · subst ik
          have eb : b = q i := by rw [← i2]; exact hq2k i (Nat.le_refl _)
          rw [kq1]
          rcases he with he | he | ⟨he, _⟩
          · exact Or.inl (Or.inr ⟨eb, by rw [he, eb]⟩)
          · exact Or.inr ⟨eb, by rw [he, eb]⟩
          · rw [eb] at he; exact absurd he ql
        · exact Or.inl (Or.inl ⟨i, by omega, by rw [← i2]; exact (hq2k i (by omega)).symm⟩)
end
