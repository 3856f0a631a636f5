/-! ===== rows and machines, copied ===== -/
section
theorem Iv_now {tb tb' : Nat} {hc hm hc' hm' : HP} {sz wn os hs nb : Nat} (h : Iv tb hc hm sz wn os hs nb) (c : FrC 0 hc hc') (e1 : ∀ r, r ≠ (11, 22, 0) → r ≠ (10, 0, 0) → hm' r = hm r) (e2 : ∀ k, k ≠ 0 → k ≠ 25 → hm' (10, 0, 0) k = hm (10, 0, 0) k) (hS : St hc' 0 (hm' (11, 22, 0)) (hm (11, 20, 0)) (hm (11, 21, 0)) nb tb') (ht : tb ≤ tb') : Iv tb' hc' hm' sz wn os hs nb := by
  have eS : ∀ {m : Nat} {T L A : Tr0}, m ≠ 0 → St hc m T L A nb tb → St hc' m T L A nb tb' := fun hm hS => St_mono (St_hc hS (fun r hr => c r (fun q => by unfold ofm at hr q; omega))) ht
  have eL : hm' (11, 20, 0) = hm (11, 20, 0) := e1 _ (by decide) (by decide)
  have eA : hm' (11, 21, 0) = hm (11, 21, 0) := e1 _ (by decide) (by decide)
  have eR : ∀ i, rowS hm' i = rowS hm i := fun i => by funext k; unfold rowS; rw [e1 _ (by decide) (by decide)]
  have e12 : hm' (12, 0, 0) = hm (12, 0, 0) := e1 _ (by decide) (by decide)
  intro i
  match i with
  | 0 => show hc' (9, 0, 0) 1 = nI sz; rw [c _ (by unfold ofm; simp)]; exact h.sz
  | 1 => exact (e2 11 (by decide) (by decide)).trans h.sm
  | 2 => exact h.sb
  | 3 => intro k hk; rw [c _ (by unfold ofm; simp), e1 _ (by decide) (by decide)]; exact h.by k hk
  | 4 => intro k hk; rw [e1 _ (by decide) (by decide)]; exact h.bn k hk
  | 5 => show hc' (5, 0, 0) 7 = hm' (10, 0, 0) 12; rw [c _ (by unfold ofm; simp), e2 12 (by decide) (by decide)]; exact h.pe
  | 6 => show hc' (5, 0, 0) 8 = hm' (10, 0, 0) 13; rw [c _ (by unfold ofm; simp), e2 13 (by decide) (by decide)]; exact h.pp
  | 7 => show hc' (9, 0, 0) 10 = nI wn; rw [c _ (by unfold ofm; simp)]; exact h.wc
  | 8 => exact (e2 30 (by decide) (by decide)).trans h.wm
  | 9 => exact h.wb
  | 10 => intro j hj; rw [c _ (by unfold ofm; simp), e1 _ (by decide) (by decide)]; exact h.wt j hj
  | 11 => 
    intro m hm
    by_cases q : m = 0
    · subst q; rw [hS.1.a4]; exact isB_iff.mpr hS.2.2.2.re
    · rw [c _ (by unfold ofm; simp [q])]; exact h.b1 m hm
  | 12 => 
    intro m hm
    by_cases q : m = 0
    · subst q; rw [hS.2.1.a2]; exact isB_iff.mpr hS.2.2.2.fo
    · rw [c _ (by unfold ofm; simp [q])]; exact h.b6 m hm
  | 13 => show hc' (2, 0, 0) 1 = nI os; rw [c _ (by unfold ofm; simp)]; exact h.ho
  | 14 => exact h.hb
  | 15 => show hc' (2, 0, 0) 2 = nI hs; rw [c _ (by unfold ofm; simp)]; exact h.hs
  | 16 => exact (e2 8 (by decide) (by decide)).trans h.hm
  | 17 => exact h.h8
  | 18 => intro i hi; rw [c _ (by unfold ofm; simp), e12]; exact h.sl i hi
  | 19 => intro i hi; rw [e12]; exact h.s1 i hi
  | 20 => exact (e2 2 (by decide) (by decide)).trans h.nb
  | 21 => show hc' (9, 0, 0) 2 = hm' (10, 0, 0) 1; rw [c _ (by unfold ofm; simp), e2 1 (by decide) (by decide)]; exact h.lo
  | 22 => show hm' (10, 0, 0) 1 = 0 ∨ hm' (10, 0, 0) 1 = 1; rw [e2 1 (by decide) (by decide)]; exact h.l1
  | 23 => intro q; rw [e2 1 (by decide) (by decide)] at q; have := h.l0 q; exact ⟨this.1, fun i hi => by rw [e12]; exact this.2 i hi⟩
  | 24 => intro q; rw [eL, eA]; exact hS
  | 25 => intro q a ha; rw [e2 1 (by decide) (by decide)] at q; rw [eR, eL, eA]; exact eS (by omega) (h.ke q a ha)
  | 26 => intro i hi q; rw [e12] at q; rw [eR, eL, eA]; exact eS (by omega) (h.sv i hi q)
  | n + 27 => exact trivial
end
section
/-- places lo to hi - 1 of one row are those of another -/
def cpR (hp : HP) (dst src : RF) (d0 s0 lo hi : Nat) : HP := fun r j => if r = dst ∧ d0 + lo ≤ j ∧ j < d0 + hi then hp src (s0 + (j - d0)) else hp r j
theorem cpR_o {hp : HP} {dst src r : RF} {d0 s0 lo hi : Nat} (h : ¬ r = dst) : cpR hp dst src d0 s0 lo hi r = hp r := by
  funext j; unfold cpR; rw [if_neg (fun q => h q.1)]
theorem cpR_s {hp : HP} {dst src : RF} {d0 s0 hi k : Nat} (h : k < hi) : cpR hp dst src d0 s0 0 hi dst (d0 + k) = hp src (s0 + k) := by
  unfold cpR; rw [if_pos ⟨rfl, by omega, by omega⟩]; congr 1; omega
theorem cpR_n {hp : HP} {dst src : RF} {d0 s0 hi j : Nat} (h : j < d0 ∨ d0 + hi ≤ j) : cpR hp dst src d0 s0 0 hi dst j = hp dst j := by
  unfold cpR; rw [if_neg (fun q => by omega)]
theorem cpy_loop {β : Type} {Lp : Nat → Int32 → HP → Option β} {fin : HP → Option β} {dst src : RF} {d0 s0 N : Nat} (hne : ¬ src = dst) (hstep : ∀ n k hp, k < N → Lp (n + 1) (nI k) hp = Lp n (nI (k + 1)) (up hp dst (d0 + k) (hp src (s0 + k)))) (hend : ∀ n hp, Lp (n + 1) (nI N) hp = fin hp) : ∀ q k n hp, k + q = N → q < n → Lp n (nI k) hp = fin (cpR hp dst src d0 s0 k N) := by
  intro q
  induction q with
  | zero =>
    intro k n hp hk hn
    obtain ⟨n, rfl⟩ : ∃ p, n = p + 1 := ⟨n - 1, by omega⟩
    have e : cpR hp dst src d0 s0 k N = hp := by
      funext r j; unfold cpR; rw [if_neg (fun p => by omega)]
    rw [show k = N by omega, hend]
    rw [show k = N by omega] at e
    rw [e]
  | succ q ih =>
    intro k n hp hk hn
    obtain ⟨n, rfl⟩ : ∃ p, n = p + 1 := ⟨n - 1, by omega⟩
    rw [hstep n k hp (by omega), ih (k + 1) n _ (by omega) (by omega)]
    congr 1
    funext r j
    unfold cpR
    by_cases hr : r = dst
    · subst hr
      by_cases hj : j = d0 + k
      · rw [if_neg (fun p => by omega), if_pos ⟨rfl, by omega, by omega⟩, hj, up_s]; congr 1; omega
      · by_cases h2 : d0 + (k + 1) ≤ j ∧ j < d0 + N
        · rw [if_pos ⟨rfl, h2⟩, if_pos ⟨rfl, by omega, h2.2⟩, up_n hne]
        · rw [if_neg (fun p => h2 p.2), if_neg (fun p => h2 ⟨by omega, p.2.2⟩), up_o (fun p => hj p.2)]
    · rw [if_neg (fun p => hr p.1), if_neg (fun p => hr p.1), up_n hr]
theorem keeps_ev {hm : HP} {i : Nat} (hi : i < 10) : fX10_keeps (nI i) hm = some (cpR hm (11, 24, 0) (11, 22, 0) (1150 * i) 0 0 1150) := by
  have hf := FU_ge
  refine cpy_loop (Lp := fun n x hp => fX10_keeps_2 n (nI i) x hp) (fin := fun hp => some hp) (dst := (11, 24, 0)) (src := (11, 22, 0)) (d0 := 1150 * i) (s0 := 0) (N := 1150) (by decide) ?_ ?_ 1150 0 FU hm (by omega) (by omega)
  · intro n k hp hk
    have g : nI k < (1150 : Int32) := by show nI k < nI 1150; rw [n_lt (by omega) (by omega)]; exact hk
    have e : (1150 * nI i) + nI k = nI (1150 * i + k) := by rw [← n_add, ← n_mul]; rfl
    simp only [fX10_keeps_2]
    rw [if_pos g, alen_r, alen_r, e, if_pos (inb_n (show k < wlen 22 from hk) (by decide)), if_pos (inb_n (show 1150 * i + k < wlen 24 by show _ < 11500; omega) (by decide)), n_c (by omega), n_c (by omega), ← nI_succ, Nat.zero_add]
  · intro n hp
    simp only [fX10_keeps_2]
    exact if_neg (show ¬ nI 1150 < nI 1150 from Int32.lt_irrefl)
theorem fetches_ev {hm : HP} {i : Nat} (hi : i < 10) : fX10_fetches (nI i) hm = some (cpR hm (11, 22, 0) (11, 24, 0) 0 (1150 * i) 0 1150) := by
  have hf := FU_ge
  refine cpy_loop (Lp := fun n x hp => fX10_fetches_2 n (nI i) x hp) (fin := fun hp => some hp) (dst := (11, 22, 0)) (src := (11, 24, 0)) (d0 := 0) (s0 := 1150 * i) (N := 1150) (by decide) ?_ ?_ 1150 0 FU hm (by omega) (by omega)
  · intro n k hp hk
    have g : nI k < (1150 : Int32) := by show nI k < nI 1150; rw [n_lt (by omega) (by omega)]; exact hk
    have e : (1150 * nI i) + nI k = nI (1150 * i + k) := by rw [← n_add, ← n_mul]; rfl
    simp only [fX10_fetches_2]
    rw [if_pos g, alen_r, alen_r, e, if_pos (inb_n (show 1150 * i + k < wlen 24 by show _ < 11500; omega) (by decide)), if_pos (inb_n (show k < wlen 22 from hk) (by decide)), n_c (by omega), n_c (by omega), ← nI_succ, Nat.zero_add]
  · intro n hp
    simp only [fX10_fetches_2]
    exact if_neg (show ¬ nI 1150 < nI 1150 from Int32.lt_irrefl)
theorem aside_ev {hm : HP} : fX10_putsAside hm = some (cpR hm (11, 23, 0) (11, 22, 0) 0 0 0 1150) := by
  have hf := FU_ge
  refine cpy_loop (Lp := fun n x hp => fX10_putsAside_2 n x hp) (fin := fun hp => some hp) (dst := (11, 23, 0)) (src := (11, 22, 0)) (d0 := 0) (s0 := 0) (N := 1150) (by decide) ?_ ?_ 1150 0 FU hm (by omega) (by omega)
  · intro n k hp hk
    have g : nI k < (1150 : Int32) := by show nI k < nI 1150; rw [n_lt (by omega) (by omega)]; exact hk
    simp only [fX10_putsAside_2]
    rw [if_pos g, alen_r, alen_r, if_pos (inb_n (show k < wlen 22 from hk) (by decide)), if_pos (inb_n (show k < wlen 23 from hk) (by decide)), n_c (by omega), ← nI_succ, Nat.zero_add]
  · intro n hp
    simp only [fX10_putsAside_2]
    exact if_neg (show ¬ nI 1150 < nI 1150 from Int32.lt_irrefl)
theorem fback_ev {hm : HP} (x : Int32) : fX10_fetchesBack x hm = some (x, cpR hm (11, 22, 0) (11, 23, 0) 0 0 0 1150) := by
  have hf := FU_ge
  refine cpy_loop (Lp := fun n y hp => fX10_fetchesBack_2 n x y hp) (fin := fun hp => some (x, hp)) (dst := (11, 22, 0)) (src := (11, 23, 0)) (d0 := 0) (s0 := 0) (N := 1150) (by decide) ?_ ?_ 1150 0 FU hm (by omega) (by omega)
  · intro n k hp hk
    have g : nI k < (1150 : Int32) := by show nI k < nI 1150; rw [n_lt (by omega) (by omega)]; exact hk
    simp only [fX10_fetchesBack_2]
    rw [if_pos g, alen_r, alen_r, if_pos (inb_n (show k < wlen 23 from hk) (by decide)), if_pos (inb_n (show k < wlen 22 from hk) (by decide)), n_c (by omega), ← nI_succ, Nat.zero_add]
  · intro n hp
    simp only [fX10_fetchesBack_2]
    exact if_neg (show ¬ nI 1150 < nI 1150 from Int32.lt_irrefl)
/-- the stores, one place down -/
def shR (hm : HP) (k : Nat) : HP := fun r j => if r = (11, 24, 0) ∧ k ≤ j ∧ j < 8050 then hm (11, 24, 0) (j + 1150) else hm r j
theorem shift_ev : ∀ q k n (hm : HP), k + q = 8050 → q < n → fX10_keepsAll_11 n (nI k) hm = fX10_keepsAll_50 (up (shR hm k) (10, 0, 0) 8 ((shR hm k) (10, 0, 0) 8 - 1)) := by
  intro q
  induction q with
  | zero =>
    intro k n hm hk hn
    obtain ⟨n, rfl⟩ : ∃ p, n = p + 1 := ⟨n - 1, by omega⟩
    have e : shR hm k = hm := by funext r j; unfold shR; rw [if_neg (fun p => by omega)]
    rw [e, show k = 8050 by omega]
    simp only [fX10_keepsAll_11]
    exact if_neg (show ¬ nI 8050 < nI 8050 from Int32.lt_irrefl)
  | succ q ih =>
    intro k n hm hk hn
    obtain ⟨n, rfl⟩ : ∃ p, n = p + 1 := ⟨n - 1, by omega⟩
    have g : nI k < (8050 : Int32) := by show nI k < nI 8050; rw [n_lt (by omega) (by omega)]; omega
    have e : nI k + 1150 = nI (k + 1150) := n_add k 1150
    have eh : shR (up hm (11, 24, 0) k (hm (11, 24, 0) (k + 1150))) (k + 1) = shR hm k := by
      funext r j
      unfold shR
      by_cases hr : r = (11, 24, 0)
      · subst hr
        by_cases hj : j = k
        · subst hj
          rw [if_neg (fun p => by omega), if_pos ⟨rfl, by omega, by omega⟩, up_s]
        · by_cases h2 : k + 1 ≤ j ∧ j < 8050
          · rw [if_pos ⟨rfl, h2⟩, if_pos ⟨rfl, by omega, h2.2⟩, up_o (fun p => by omega)]
          · rw [if_neg (fun p => h2 p.2), if_neg (fun p => h2 ⟨by omega, p.2.2⟩), up_o (fun p => hj p.2)]
      · rw [if_neg (fun p => hr p.1), if_neg (fun p => hr p.1), up_n hr]
    simp only [fX10_keepsAll_11]
    rw [if_pos g, alen_r, e, if_pos (inb_n (show k + 1150 < wlen 24 by show _ < 11500; omega) (by decide)), if_pos (inb_n (show k < wlen 24 by show _ < 11500; omega) (by decide)), n_c (by omega), n_c (by omega), ← nI_succ, ih (k + 1) n _ (by omega) (by omega), eh]
end
section
/-- a machine's row counts only as far as it reaches -/
theorem St_T {hc : HP} {m : Nat} {T T' L A : Tr0} {nb tb : Nat} (h : St hc m T L A nb tb) (e : ∀ k, k < 1150 → T' k = T k) : St hc m T' L A nb tb := by
  obtain ⟨hM, hF, hR, hW⟩ := h
  have hnb := hW.nb
  have hw9 := hW.w
  have hw18 := hW.lg
  have e9 : T' 9 = T 9 := e 9 (by omega)
  have e18 : T' 18 = T 18 := e 18 (by omega)
  have e3 : T' 3 = T 3 := e 3 (by omega)
  have e10 : T' 10 = T 10 := e 10 (by omega)
  refine ⟨?_, ?_, ⟨by rw [e 36 (by omega)]; exact hR.1, by rw [e 37 (by omega)]; exact hR.2⟩, ?_⟩
  · intro i
    match i with
    | 0 => exact fun k hk => by rw [e _ (by omega)]; exact hM.a0 k hk
    | 1 => exact fun k hk => by rw [e _ (by omega)]; exact hM.a1 k hk
    | 2 => exact hM.a2.trans (e 0 (by omega)).symm
    | 3 => exact hM.a3.trans (e 1 (by omega)).symm
    | 4 => exact hM.a4.trans (e 2 (by omega)).symm
    | 5 => exact hM.a5.trans (e 3 (by omega)).symm
    | 6 => exact hM.a6
    | 7 => exact hM.a7.trans (e 4 (by omega)).symm
    | 8 => exact hM.a8.trans (e 5 (by omega)).symm
    | 9 => exact hM.a9.trans (e 6 (by omega)).symm
    | 10 => exact hM.a10
    | 11 => exact hM.a11
    | 12 => exact fun k hk => by rw [e _ (by omega)]; exact hM.a12 k hk
    | 13 => exact fun k hk => by rw [e _ (by omega)]; exact hM.a13 k hk
    | 14 => exact hM.a14
    | n + 15 => exact trivial
  · intro i
    match i with
    | 0 => exact fun k hk => by rw [e18] at hk; rw [e _ (by omega)]; exact hF.a0 k hk
    | 1 => exact hF.a1.trans (e 7 (by omega)).symm
    | 2 => exact hF.a2.trans (e 8 (by omega)).symm
    | 3 => exact hF.a3.trans (e 33 (by omega)).symm
    | 4 => exact fun k a b c => by rw [e _ (by omega)]; exact hF.a4 k a b c
    | 5 => intro l c a b; rw [e9] at b ⊢; rw [e _ (by omega)]; exact hF.a5 l c a b
    | 6 => intro l c a b; rw [e9] at b ⊢; rw [e _ (by omega)]; exact hF.a6 l c a b
    | n + 7 => exact trivial
  · intro i
    match i with
    | 0 => simp only [wfp]; rw [e9]; exact hW 0
    | 1 => simp only [wfp]; rw [e10]; exact hW 1
    | 2 => simp only [wfp]; rw [e 11 (by omega), e 12 (by omega), e 13 (by omega), e9]; exact hW 2
    | 3 => simp only [wfp]; rw [e 14 (by omega)]; exact hW 3
    | 4 => simp only [wfp]; rw [e 15 (by omega)]; exact hW 4
    | 5 => simp only [wfp]; rw [e 16 (by omega), e 17 (by omega)]; exact hW 5
    | 6 => simp only [wfp]; rw [e18]; exact hW 6
    | 7 => simp only [wfp]; rw [e 19 (by omega)]; exact hW 7
    | 8 => simp only [wfp]; rw [e 20 (by omega), e 21 (by omega)]; exact hW 8
    | 9 => simp only [wfp]; rw [e 0 (by omega), e10]; exact hW 9
    | 10 => simp only [wfp]; rw [e 1 (by omega), e9]; exact hW 10
    | 11 => simp only [wfp]; rw [e 2 (by omega)]; exact hW 11
    | 12 => simp only [wfp]; rw [e3]; exact hW 12
    | 13 => simp only [wfp]; rw [e 4 (by omega)]; exact hW 13
    | 14 => simp only [wfp]; rw [e 5 (by omega), e 6 (by omega)]; exact hW 14
    | 15 => simp only [wfp]; rw [e 7 (by omega), e18]; exact hW 15
    | 16 => simp only [wfp]; rw [e 8 (by omega)]; exact hW 16
    | 17 => exact hnb
    | 18 => intro b hb; rw [e _ (by omega), e3]; exact hW.st b hb
    | 19 => exact hW.le
    | 20 => exact hW.an
    | 21 => intro c hc; rw [e _ (by omega)]; exact hW.sp c hc
    | 22 => intro c hc; rw [e _ (by omega)]; exact hW.ii c hc
    | 23 => intro l c hl hc; rw [e _ (by omega)]; exact hW.sn l c hl hc
    | 24 => intro l c hl hc h; rw [e10, e9] at h; rw [e _ (by omega), e _ (by omega)]; exact hW.em l c hl hc h
    | 25 => intro l c hl hc; rw [e _ (by omega)]; exact hW.dk l c hl hc
    | n + 26 => exact trivial
/-- machine m of one heap holds what machine m' of another holds -/
def SmM (hc : HP) (m : Nat) (hd : HP) (m' : Nat) : Prop := (∀ w, w < 10 → ∀ k, k < wlen w → hc (11, w, m) k = hd (11, w, m') k) ∧ (∀ k, 2 ≤ k → k < 5 → hc (1, 0, m) k = hd (1, 0, m') k) ∧ (∀ k, 5 ≤ k → k < 9 → hc (0, 0, m) k = hd (0, 0, m') k) ∧ (∀ k, 6 ≤ k → k < 9 → hc (3, 0, m) k = hd (3, 0, m') k) ∧ (∀ k, 2 ≤ k → k < 5 → hc (6, 0, m) k = hd (6, 0, m') k)
theorem St_Sm {hc hd : HP} {m m' : Nat} {T L A : Tr0} {nb tb : Nat} (h : St hd m' T L A nb tb) (e : SmM hc m hd m') : St hc m T L A nb tb := by
  obtain ⟨hM, hF, hR, hW⟩ := h
  obtain ⟨a, b, c, d, f⟩ := e
  have hnb := hW.nb
  have hw := hW.w
  have hlg := hW.lg
  refine ⟨?_, ?_, ⟨by rw [d 7 (by omega) (by omega)]; exact hR.1, by rw [d 8 (by omega) (by omega)]; exact hR.2⟩, hW⟩
  · intro i
    match i with
    | 0 => exact fun k hk => by rw [a 0 (by omega) k hk]; exact hM.a0 k hk
    | 1 => exact fun k hk => by rw [a 4 (by omega) k hk]; exact hM.a1 k hk
    | 2 => exact (b 2 (by omega) (by omega)).trans hM.a2
    | 3 => exact (b 3 (by omega) (by omega)).trans hM.a3
    | 4 => exact (b 4 (by omega) (by omega)).trans hM.a4
    | 5 => exact (d 6 (by omega) (by omega)).trans hM.a5
    | 6 => exact (c 5 (by omega) (by omega)).trans hM.a6
    | 7 => exact (c 6 (by omega) (by omega)).trans hM.a7
    | 8 => exact (c 7 (by omega) (by omega)).trans hM.a8
    | 9 => exact (c 8 (by omega) (by omega)).trans hM.a9
    | 10 => exact fun k hk => by rw [a 5 (by omega) k (by show k < 26; omega)]; exact hM.a10 k hk
    | 11 => exact fun k hk => by rw [a 6 (by omega) k (by show k < 26; omega)]; exact hM.a11 k hk
    | 12 => exact fun k hk => by rw [a 7 (by omega) k (by show k < 26; omega)]; exact hM.a12 k hk
    | 13 => exact fun k hk => by rw [a 8 (by omega) k (by show k < 26; omega)]; exact hM.a13 k hk
    | 14 => show isB (hc (6, 0, m) 3) = true; rw [f 3 (by omega) (by omega)]; exact hM.a14
    | n + 15 => exact trivial
  · intro i
    match i with
    | 0 => exact fun k hk => by rw [a 1 (by omega) k (by show k < 60; omega)]; exact hF.a0 k hk
    | 1 => exact (f 2 (by omega) (by omega)).trans hF.a1
    | 2 => exact (f 3 (by omega) (by omega)).trans hF.a2
    | 3 => exact (f 4 (by omega) (by omega)).trans hF.a3
    | 4 => exact fun k x y z => by rw [a 9 (by omega) k (by show k < 14; omega)]; exact hF.a4 k x y z
    | 5 => intro l c x y; rw [a 2 (by omega) _ (plc_lt x y hw.2.2)]; exact hF.a5 l c x y
    | 6 => intro l c x y; rw [a 3 (by omega) _ (plc_lt x y hw.2.2)]; exact hF.a6 l c x y
    | n + 7 => exact trivial
theorem CAe (hp : HP) (w m mr : Nat) (r : RF) (k : Nat) : cpA hp (11, w, mr) (11, w, m) 0 0 (wlen w) r k = if r = (11, w, m) ∧ k < wlen w then hp (11, w, mr) k else hp r k := by
  unfold cpA
  by_cases h : r = (11, w, m) ∧ k < wlen w
  · rw [if_pos h, if_pos ⟨h.1, by omega, by omega⟩]; congr 1; omega
  · rw [if_neg h, if_neg (fun q => h ⟨q.1, by omega⟩)]
theorem upe (hp : HP) (r : RF) (k : Nat) (x : Int32) (r' : RF) (k' : Nat) : up hp r k x r' k' = if r' = r ∧ k' = k then x else hp r' k' := rfl
theorem cpm_p {m mr : Nat} {hp : HP} (hne : ¬ mr = m) (b1 : isB (hp (1, 0, mr) 4) = true) : ∃ hp', fX3_copyMotionFrom m mr hp = some hp' ∧ (∀ w, w = 0 ∨ w = 4 ∨ w = 5 ∨ w = 6 ∨ w = 7 ∨ w = 8 → ∀ k, k < wlen w → hp' (11, w, m) k = hp (11, w, mr) k) ∧ (∀ k, 2 ≤ k → k < 5 → hp' (1, 0, m) k = hp (1, 0, mr) k) ∧ (∀ k, 5 ≤ k → k < 9 → hp' (0, 0, m) k = hp (0, 0, mr) k) ∧ hp' (3, 0, m) 6 = hp (3, 0, mr) 6 ∧ FrC m hp hp' ∧ (∀ k, k ≠ 6 → hp' (3, 0, m) k = hp (3, 0, m) k) ∧ (∀ w, ¬ (w = 0 ∨ w = 4 ∨ w = 5 ∨ w = 6 ∨ w = 7 ∨ w = 8) → hp' (11, w, m) = hp (11, w, m)) ∧ hp' (6, 0, m) = hp (6, 0, m) := by
  have hne' : ¬ m = mr := fun q => hne q.symm
  simp only [fX3_copyMotionFrom, fX1_copyFrom, fX1_copyFrom_19, fX1_copyFrom_27, fX0_copyFrom, fX0_copyFrom_52, fX0_copyFrom_60, fX0_copyFrom_68, copy_eq _ hne, Option.bind_some]
  rw [if_pos (by simp [upe, CAe, hne]; exact b1)]
  simp only [Option.bind_some]
  refine ⟨_, rfl, ?_, ?_, ?_, ?_, ?_, ?_, ?_, ?_⟩
  · intro w hw k hk
    rcases hw with e | e | e | e | e | e <;> subst e <;> simp [upe, CAe, hne, hk]
  · intro k h1 h2
    have : k = 2 ∨ k = 3 ∨ k = 4 := by omega
    rcases this with e | e | e <;> subst e <;> simp [upe, CAe, hne]
  · intro k h1 h2
    have : k = 5 ∨ k = 6 ∨ k = 7 ∨ k = 8 := by omega
    rcases this with e | e | e | e <;> subst e <;> simp [upe, CAe, hne]
  · simp [upe, CAe, hne]
  · intro r hr
    funext k
    have a : ∀ w, w < 10 → ¬ r = (11, w, m) := fun w hw q => hr (by rw [q]; unfold ofm; simp; exact hw)
    have b : ¬ r = (1, 0, m) := fun q => hr (by rw [q]; unfold ofm; simp)
    have c : ¬ r = (0, 0, m) := fun q => hr (by rw [q]; unfold ofm; simp)
    have d : ¬ r = (3, 0, m) := fun q => hr (by rw [q]; unfold ofm; simp)
    simp [upe, CAe, a 0 (by omega), a 4 (by omega), a 5 (by omega), a 6 (by omega), a 7 (by omega), a 8 (by omega), b, c, d]
  · intro k hk
    simp [upe, CAe, hk]
  · intro w hw
    funext k
    simp only [not_or] at hw
    simp [upe, CAe, hw]
  · funext k
    simp [upe, CAe]
theorem copy_p {m mr : Nat} {hp : HP} (hne : ¬ mr = m) (b1 : isB (hp (1, 0, mr) 4) = true) (b6 : isB (hp (6, 0, mr) 3) = true) : ∃ hp', fX3_copyFrom m mr hp = some hp' ∧ SmM hp' m hp mr ∧ FrC m hp hp' ∧ hp' (3, 0, m) 9 = hp (3, 0, m) 9 := by
  obtain ⟨h1, e1, a1, a2, a3, a4, a5, a6, a7, a8⟩ := cpm_p (hp := hp) hne b1
  have s : ∀ r, ¬ ofm m r → h1 r = hp r := a5
  have o : ∀ w, h1 (11, w, mr) = hp (11, w, mr) := fun w => s _ (by unfold ofm; simp [hne])
  have o3 : h1 (3, 0, mr) = hp (3, 0, mr) := s _ (by unfold ofm; simp [hne])
  have o6 : h1 (6, 0, mr) = hp (6, 0, mr) := s _ (by unfold ofm; simp [hne])
  simp only [fX3_copyFrom, e1, Option.bind_some, fX6_copyFrom, fX6_copyFrom_19, fX6_copyFrom_27, fX4_copyFrom, fX3_copyFrom_46, copy_eq _ hne]
  rw [if_pos (by simp [upe, CAe, hne, o6]; exact b6)]
  simp only [Option.bind_some]
  refine ⟨_, rfl, ⟨?_, ?_, ?_, ?_, ?_⟩, ?_, ?_⟩
  · intro w hw k hk
    by_cases q : w = 0 ∨ w = 4 ∨ w = 5 ∨ w = 6 ∨ w = 7 ∨ w = 8
    · have := a1 w q k hk
      rcases q with e | e | e | e | e | e <;> subst e <;> simp [upe, CAe, hne, this]
    · have q' : w = 1 ∨ w = 2 ∨ w = 3 ∨ w = 9 := by omega
      rcases q' with e | e | e | e <;> subst e <;> simp [upe, CAe, hne, hk, o]
  · intro k x y
    have := a2 k x y
    simp [upe, CAe, hne, this]
  · intro k x y
    have := a3 k x y
    simp [upe, CAe, hne, this]
  · intro k x y
    have : k = 6 ∨ k = 7 ∨ k = 8 := by omega
    rcases this with e | e | e <;> subst e <;> simp [upe, CAe, hne, a4, o3]
  · intro k x y
    have : k = 2 ∨ k = 3 ∨ k = 4 := by omega
    rcases this with e | e | e <;> subst e <;> simp [upe, CAe, hne, o6]
  · intro r hr
    funext k
    have a : ∀ w, w < 10 → ¬ r = (11, w, m) := fun w hw q => hr (by rw [q]; unfold ofm; simp; exact hw)
    have c : ¬ r = (6, 0, m) := fun q => hr (by rw [q]; unfold ofm; simp)
    have d : ¬ r = (3, 0, m) := fun q => hr (by rw [q]; unfold ofm; simp)
    simp [upe, CAe, a 1 (by omega), a 2 (by omega), a 3 (by omega), a 9 (by omega), c, d, s r hr]
  · simp [upe, CAe, a6 9 (by omega)]
end
