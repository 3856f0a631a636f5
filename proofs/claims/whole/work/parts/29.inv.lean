/-! ===== both systems, side by side ===== -/
section
/-- machine m is the one that a row tells -/
def St (hc : HP) (m : Nat) (T L A : Tr0) (nb tb : Nat) : Prop := Mot hc m T L A nb ∧ Ful hc m T ∧ Rea hc m T ∧ WF tb T L A nb
def rowS (hm : HP) (i : Nat) : Tr0 := fun k => hm (11, 24, 0) (1150 * i + k)
def invp (tb : Nat) (hc hm : HP) (sz wn os hs nb : Nat) : Nat → Prop
  | 0 => hc (9, 0, 0) 1 = nI sz
  | 1 => hm (10, 0, 0) 11 = nI sz
  | 2 => sz ≤ 500
  | 3 => ∀ k, k < 500 → hc (11, 10, 0) k = hm (11, 25, 0) k
  | 4 => ∀ k, k < 500 → isN (hm (11, 25, 0) k)
  | 5 => hc (5, 0, 0) 7 = hm (10, 0, 0) 12
  | 6 => hc (5, 0, 0) 8 = hm (10, 0, 0) 13
  | 7 => hc (9, 0, 0) 10 = nI wn
  | 8 => hm (10, 0, 0) 30 = nI wn
  | 9 => wn ≤ 40
  | 10 => ∀ j, j < wn → hc (11, 11, 0) j = hm (11, 31, 0) j
  | 11 => ∀ m, m < 12 → isB (hc (1, 0, m) 4) = true
  | 12 => ∀ m, m < 12 → isB (hc (6, 0, m) 3) = true
  | 13 => hc (2, 0, 0) 1 = nI os
  | 14 => os < 8
  | 15 => hc (2, 0, 0) 2 = nI hs
  | 16 => hm (10, 0, 0) 8 = nI hs
  | 17 => hs ≤ 8
  | 18 => ∀ i, i < 2 → hc (8, 0, i) 1 = hm (12, 0, 0) i
  | 19 => ∀ i, i < 2 → isB (hm (12, 0, 0) i) = true
  | 20 => hm (10, 0, 0) 2 = nI nb
  | 21 => hc (9, 0, 0) 2 = hm (10, 0, 0) 1
  | 22 => hm (10, 0, 0) 1 = 0 ∨ hm (10, 0, 0) 1 = 1
  | 23 => hm (10, 0, 0) 1 = 0 → hs = 0 ∧ ∀ i, i < 2 → hm (12, 0, 0) i = 0
  | 24 => hm (10, 0, 0) 1 = 1 → St hc 0 (hm (11, 22, 0)) (hm (11, 20, 0)) (hm (11, 21, 0)) nb tb
  | 25 => hm (10, 0, 0) 1 = 1 → ∀ a, a < hs → St hc (2 + (os + a) % 8) (rowS hm a) (hm (11, 20, 0)) (hm (11, 21, 0)) nb tb
  | 26 => ∀ i, i < 2 → hm (12, 0, 0) i = 1 → St hc (10 + i) (rowS hm (8 + i)) (hm (11, 20, 0)) (hm (11, 21, 0)) nb tb
  | _ => True
def Iv (tb : Nat) (hc hm : HP) (sz wn os hs nb : Nat) : Prop := ∀ i, invp tb hc hm sz wn os hs nb i
theorem Iv.sz {tb : Nat} {hc hm : HP} {sz wn os hs nb : Nat} (h : Iv tb hc hm sz wn os hs nb) : hc (9, 0, 0) 1 = nI sz := h 0
theorem Iv.sm {tb : Nat} {hc hm : HP} {sz wn os hs nb : Nat} (h : Iv tb hc hm sz wn os hs nb) : hm (10, 0, 0) 11 = nI sz := h 1
theorem Iv.sb {tb : Nat} {hc hm : HP} {sz wn os hs nb : Nat} (h : Iv tb hc hm sz wn os hs nb) : sz ≤ 500 := h 2
theorem Iv.by {tb : Nat} {hc hm : HP} {sz wn os hs nb : Nat} (h : Iv tb hc hm sz wn os hs nb) : ∀ k, k < 500 → hc (11, 10, 0) k = hm (11, 25, 0) k := h 3
theorem Iv.bn {tb : Nat} {hc hm : HP} {sz wn os hs nb : Nat} (h : Iv tb hc hm sz wn os hs nb) : ∀ k, k < 500 → isN (hm (11, 25, 0) k) := h 4
theorem Iv.pe {tb : Nat} {hc hm : HP} {sz wn os hs nb : Nat} (h : Iv tb hc hm sz wn os hs nb) : hc (5, 0, 0) 7 = hm (10, 0, 0) 12 := h 5
theorem Iv.pp {tb : Nat} {hc hm : HP} {sz wn os hs nb : Nat} (h : Iv tb hc hm sz wn os hs nb) : hc (5, 0, 0) 8 = hm (10, 0, 0) 13 := h 6
theorem Iv.wc {tb : Nat} {hc hm : HP} {sz wn os hs nb : Nat} (h : Iv tb hc hm sz wn os hs nb) : hc (9, 0, 0) 10 = nI wn := h 7
theorem Iv.wm {tb : Nat} {hc hm : HP} {sz wn os hs nb : Nat} (h : Iv tb hc hm sz wn os hs nb) : hm (10, 0, 0) 30 = nI wn := h 8
theorem Iv.wb {tb : Nat} {hc hm : HP} {sz wn os hs nb : Nat} (h : Iv tb hc hm sz wn os hs nb) : wn ≤ 40 := h 9
theorem Iv.wt {tb : Nat} {hc hm : HP} {sz wn os hs nb : Nat} (h : Iv tb hc hm sz wn os hs nb) : ∀ j, j < wn → hc (11, 11, 0) j = hm (11, 31, 0) j := h 10
theorem Iv.b1 {tb : Nat} {hc hm : HP} {sz wn os hs nb : Nat} (h : Iv tb hc hm sz wn os hs nb) : ∀ m, m < 12 → isB (hc (1, 0, m) 4) = true := h 11
theorem Iv.b6 {tb : Nat} {hc hm : HP} {sz wn os hs nb : Nat} (h : Iv tb hc hm sz wn os hs nb) : ∀ m, m < 12 → isB (hc (6, 0, m) 3) = true := h 12
theorem Iv.ho {tb : Nat} {hc hm : HP} {sz wn os hs nb : Nat} (h : Iv tb hc hm sz wn os hs nb) : hc (2, 0, 0) 1 = nI os := h 13
theorem Iv.hb {tb : Nat} {hc hm : HP} {sz wn os hs nb : Nat} (h : Iv tb hc hm sz wn os hs nb) : os < 8 := h 14
theorem Iv.hs {tb : Nat} {hc hm : HP} {sz wn os hs nb : Nat} (h : Iv tb hc hm sz wn os hs nb) : hc (2, 0, 0) 2 = nI hs := h 15
theorem Iv.hm {tb : Nat} {hc hm : HP} {sz wn os hs nb : Nat} (h : Iv tb hc hm sz wn os hs nb) : hm (10, 0, 0) 8 = nI hs := h 16
theorem Iv.h8 {tb : Nat} {hc hm : HP} {sz wn os hs nb : Nat} (h : Iv tb hc hm sz wn os hs nb) : hs ≤ 8 := h 17
theorem Iv.sl {tb : Nat} {hc hm : HP} {sz wn os hs nb : Nat} (h : Iv tb hc hm sz wn os hs nb) : ∀ i, i < 2 → hc (8, 0, i) 1 = hm (12, 0, 0) i := h 18
theorem Iv.s1 {tb : Nat} {hc hm : HP} {sz wn os hs nb : Nat} (h : Iv tb hc hm sz wn os hs nb) : ∀ i, i < 2 → isB (hm (12, 0, 0) i) = true := h 19
theorem Iv.nb {tb : Nat} {hc hm : HP} {sz wn os hs nb : Nat} (h : Iv tb hc hm sz wn os hs nb) : hm (10, 0, 0) 2 = nI nb := h 20
theorem Iv.lo {tb : Nat} {hc hm : HP} {sz wn os hs nb : Nat} (h : Iv tb hc hm sz wn os hs nb) : hc (9, 0, 0) 2 = hm (10, 0, 0) 1 := h 21
theorem Iv.l1 {tb : Nat} {hc hm : HP} {sz wn os hs nb : Nat} (h : Iv tb hc hm sz wn os hs nb) : hm (10, 0, 0) 1 = 0 ∨ hm (10, 0, 0) 1 = 1 := h 22
theorem Iv.l0 {tb : Nat} {hc hm : HP} {sz wn os hs nb : Nat} (h : Iv tb hc hm sz wn os hs nb) : hm (10, 0, 0) 1 = 0 → hs = 0 ∧ ∀ i, i < 2 → hm (12, 0, 0) i = 0 := h 23
theorem Iv.no {tb : Nat} {hc hm : HP} {sz wn os hs nb : Nat} (h : Iv tb hc hm sz wn os hs nb) : hm (10, 0, 0) 1 = 1 → St hc 0 (hm (11, 22, 0)) (hm (11, 20, 0)) (hm (11, 21, 0)) nb tb := h 24
theorem Iv.ke {tb : Nat} {hc hm : HP} {sz wn os hs nb : Nat} (h : Iv tb hc hm sz wn os hs nb) : hm (10, 0, 0) 1 = 1 → ∀ a, a < hs → St hc (2 + (os + a) % 8) (rowS hm a) (hm (11, 20, 0)) (hm (11, 21, 0)) nb tb := h 25
theorem Iv.sv {tb : Nat} {hc hm : HP} {sz wn os hs nb : Nat} (h : Iv tb hc hm sz wn os hs nb) : ∀ i, i < 2 → hm (12, 0, 0) i = 1 → St hc (10 + i) (rowS hm (8 + i)) (hm (11, 20, 0)) (hm (11, 21, 0)) nb tb := h 26
/-- the two systems agree -/
def Inv (tb : Nat) (hc hm : HP) : Prop := ∃ sz wn os hs nb, Iv tb hc hm sz wn os hs nb
end
section
variable {tb : Nat} {hc hm : HP} {sz wn os hs nb : Nat}
/-- what the reference throws -/
def th (hm : HP) (x : Int32) : HP := up hm (10, 0, 0) 0 x
theorem th_th {hm : HP} {x y : Int32} : th (th hm x) y = th hm y := by
  funext r k; unfold th up; split <;> rfl
theorem th_self {hm : HP} {x : Int32} (h : hm (10, 0, 0) 0 = x) : th hm x = hm := by
  funext r k; unfold th up; split
  · rename_i q; rw [q.1, q.2, h]
  · rfl
theorem th_s {hm : HP} {x : Int32} : th hm x (10, 0, 0) 0 = x := up_s
theorem th_o {hm : HP} {x : Int32} {r : RF} {k : Nat} (h : ¬ (r = (10, 0, 0) ∧ k = 0)) : th hm x r k = hm r k := up_o h
theorem th_r {hm : HP} {x : Int32} {r : RF} (h : ¬ r = (10, 0, 0)) : th hm x r = hm r := up_n h
theorem rowS_th {hm : HP} {x : Int32} {i : Nat} : rowS (th hm x) i = rowS hm i := by
  funext k; exact (th_o (r := (11, 24, 0)) (k := 1150 * i + k) (by simp))
/-- the reference's cells -/
def isM (r : RF) : Prop := r.1 = 10 ∨ r.1 = 12 ∨ (r.1 = 11 ∧ 20 ≤ r.2.1)
def CFr (a b : HP) : Prop := ∀ r, isM r → b r = a r
def MFr (a b : HP) : Prop := ∀ r, ¬ isM r → b r = a r
theorem CFr.refl (a : HP) : CFr a a := fun _ _ => rfl
theorem MFr.refl (a : HP) : MFr a a := fun _ _ => rfl
theorem CFr.trans {a b c : HP} (h : CFr a b) (h' : CFr b c) : CFr a c := fun r hr => (h' r hr).trans (h r hr)
theorem MFr.trans {a b c : HP} (h : MFr a b) (h' : MFr b c) : MFr a c := fun r hr => (h' r hr).trans (h r hr)
theorem CFr.of {m : Nat} {a b : HP} (h : FrC m a b) : CFr a b := fun r hr => h r (fun q => by
  obtain ⟨_, q⟩ := q
  unfold isM at hr
  omega)
theorem CFr.up {a b : HP} (h : CFr a b) {r : RF} {k : Nat} {x : Int32} (hr : ¬ isM r) : CFr a (up b r k x) := fun q hq => (up_n (fun e => hr (by rw [← e]; exact hq))).trans (h q hq)
theorem MFr.up {a b : HP} (h : MFr a b) {r : RF} {k : Nat} {x : Int32} (hr : isM r) : MFr a (up b r k x) := fun q hq => (up_n (fun e => hq (by rw [e]; exact hr))).trans (h q hq)
theorem MFr.th {a b : HP} (h : MFr a b) {x : Int32} : MFr a (th b x) := h.up (by unfold isM; simp)
theorem MFr.rwm {a b : HP} (h : MFr a b) {T : Tr0} : MFr a (rwm b T) := fun q hq => (rwm_n (fun e => hq (by rw [e]; unfold isM; simp))).trans (h q hq)
theorem St_hc {hc hc' : HP} {m : Nat} {T L A : Tr0} {nb tb : Nat} (h : St hc m T L A nb tb) (e : ∀ r, ofm m r → hc' r = hc r) : St hc' m T L A nb tb := by
  obtain ⟨hM, hF, hR, hW⟩ := h
  refine ⟨?_, ?_, ?_, hW⟩
  · intro i
    match i with
    | 0 => exact fun k hk => (congrFun (e _ (by unfold ofm; simp)) k).trans (hM.a0 k hk)
    | 1 => exact fun k hk => (congrFun (e _ (by unfold ofm; simp)) k).trans (hM.a1 k hk)
    | 2 => exact (congrFun (e _ (by unfold ofm; simp)) 2).trans hM.a2
    | 3 => exact (congrFun (e _ (by unfold ofm; simp)) 3).trans hM.a3
    | 4 => exact (congrFun (e _ (by unfold ofm; simp)) 4).trans hM.a4
    | 5 => exact (congrFun (e _ (by unfold ofm; simp)) 6).trans hM.a5
    | 6 => exact (congrFun (e _ (by unfold ofm; simp)) 5).trans hM.a6
    | 7 => exact (congrFun (e _ (by unfold ofm; simp)) 6).trans hM.a7
    | 8 => exact (congrFun (e _ (by unfold ofm; simp)) 7).trans hM.a8
    | 9 => exact (congrFun (e _ (by unfold ofm; simp)) 8).trans hM.a9
    | 10 => exact fun k hk => (congrFun (e _ (by unfold ofm; simp)) k).trans (hM.a10 k hk)
    | 11 => exact fun k hk => (congrFun (e _ (by unfold ofm; simp)) k).trans (hM.a11 k hk)
    | 12 => exact fun k hk => (congrFun (e _ (by unfold ofm; simp)) k).trans (hM.a12 k hk)
    | 13 => exact fun k hk => (congrFun (e _ (by unfold ofm; simp)) k).trans (hM.a13 k hk)
    | 14 => show isB (hc' (6, 0, m) 3) = true; rw [e _ (by unfold ofm; simp)]; exact hM.a14
    | n + 15 => exact trivial
  · intro i
    match i with
    | 0 => exact fun k hk => (congrFun (e _ (by unfold ofm; simp)) k).trans (hF.a0 k hk)
    | 1 => exact (congrFun (e _ (by unfold ofm; simp)) 2).trans hF.a1
    | 2 => exact (congrFun (e _ (by unfold ofm; simp)) 3).trans hF.a2
    | 3 => exact (congrFun (e _ (by unfold ofm; simp)) 4).trans hF.a3
    | 4 => exact fun k a b c => (congrFun (e _ (by unfold ofm; simp)) k).trans (hF.a4 k a b c)
    | 5 => exact fun l c a b => (congrFun (e _ (by unfold ofm; simp)) _).trans (hF.a5 l c a b)
    | 6 => exact fun l c a b => (congrFun (e _ (by unfold ofm; simp)) _).trans (hF.a6 l c a b)
    | n + 7 => exact trivial
  · exact ⟨(congrFun (e _ (by unfold ofm; simp)) 7).trans hR.1, (congrFun (e _ (by unfold ofm; simp)) 8).trans hR.2⟩
theorem St_mono {hc : HP} {m : Nat} {T L A : Tr0} {nb tb tb' : Nat} (h : St hc m T L A nb tb) (e : tb ≤ tb') : St hc m T L A nb tb' := ⟨h.1, h.2.1, h.2.2.1, WF_mono h.2.2.2 e⟩
theorem St_MR {hc : HP} {m : Nat} {T L A : Tr0} {nb tb : Nat} (h : St hc m T L A nb tb) : MR True hc hc m T L A nb :=
  ⟨h.1, fun _ => h.2.1, FrC.refl m hc, h.2.2.2.nb, h.2.2.2.w.2.2, h.2.2.2.lg.2.2⟩
theorem MR_St {h0 hc : HP} {m : Nat} {T L A : Tr0} {nb tb : Nat} (h : MR True h0 hc m T L A nb) (hR : Rea hc m T) (hW : WF tb T L A nb) : St hc m T L A nb tb := ⟨h.1, h.2.1 trivial, hR, hW⟩
theorem Iv_th {x : Int32} (h : Iv tb hc hm sz wn os hs nb) : Iv tb hc (th hm x) sz wn os hs nb := by
  intro i
  match i with
  | 0 => exact h 0
  | 1 => exact h 1
  | 2 => exact h 2
  | 3 => exact h 3
  | 4 => exact h 4
  | 5 => exact h 5
  | 6 => exact h 6
  | 7 => exact h 7
  | 8 => exact h 8
  | 9 => exact h 9
  | 10 => exact h 10
  | 11 => exact h 11
  | 12 => exact h 12
  | 13 => exact h 13
  | 14 => exact h 14
  | 15 => exact h 15
  | 16 => exact h 16
  | 17 => exact h 17
  | 18 => exact h 18
  | 19 => exact h 19
  | 20 => exact h 20
  | 21 => exact h 21
  | 22 => exact h 22
  | 23 => exact h 23
  | 24 => exact h 24
  | 25 => intro a b c; rw [rowS_th]; exact h.ke a b c
  | 26 => intro a b c; rw [rowS_th]; exact h.sv a b c
  | n + 27 => exact trivial
theorem Iv_m {hm' : HP} (h : Iv tb hc hm sz wn os hs nb) (e : CFr hm hm') : Iv tb hc hm' sz wn os hs nb := by
  have e10 : hm' (10, 0, 0) = hm (10, 0, 0) := e _ (by unfold isM; simp)
  have e12 : hm' (12, 0, 0) = hm (12, 0, 0) := e _ (by unfold isM; simp)
  have e20 : hm' (11, 20, 0) = hm (11, 20, 0) := e _ (by unfold isM; simp)
  have e21 : hm' (11, 21, 0) = hm (11, 21, 0) := e _ (by unfold isM; simp)
  have e22 : hm' (11, 22, 0) = hm (11, 22, 0) := e _ (by unfold isM; simp)
  have e24 : hm' (11, 24, 0) = hm (11, 24, 0) := e _ (by unfold isM; simp)
  have e25 : hm' (11, 25, 0) = hm (11, 25, 0) := e _ (by unfold isM; simp)
  have e31 : hm' (11, 31, 0) = hm (11, 31, 0) := e _ (by unfold isM; simp)
  have er : ∀ i, rowS hm' i = rowS hm i := fun i => by funext k; unfold rowS; rw [e24]
  intro i
  have g := h i
  unfold invp at g ⊢
  split <;> (try simp only [e10, e12, e20, e21, e22, e25, e31, er]) <;> first | exact g | trivial
theorem Iv_c {hc' : HP} (h : Iv tb hc hm sz wn os hs nb) (e : MFr hc hc') : Iv tb hc' hm sz wn os hs nb := by
  have eS : ∀ {m : Nat} {T L A : Tr0}, St hc m T L A nb tb → St hc' m T L A nb tb := fun hS => St_hc hS (fun r hr => e r (fun q => by
    obtain ⟨_, hr⟩ := hr
    unfold isM at q
    omega))
  have e9 : hc' (9, 0, 0) = hc (9, 0, 0) := e _ (by unfold isM; simp)
  have e5 : hc' (5, 0, 0) = hc (5, 0, 0) := e _ (by unfold isM; simp)
  have e2 : hc' (2, 0, 0) = hc (2, 0, 0) := e _ (by unfold isM; simp)
  have eb : hc' (11, 10, 0) = hc (11, 10, 0) := e _ (by unfold isM; simp)
  have ew : hc' (11, 11, 0) = hc (11, 11, 0) := e _ (by unfold isM; simp)
  have e1 : ∀ m, hc' (1, 0, m) = hc (1, 0, m) := fun m => e _ (by unfold isM; simp)
  have e6 : ∀ m, hc' (6, 0, m) = hc (6, 0, m) := fun m => e _ (by unfold isM; simp)
  have e8 : ∀ m, hc' (8, 0, m) = hc (8, 0, m) := fun m => e _ (by unfold isM; simp)
  intro i
  match i with
  | 24 => exact fun a => eS (h.no a)
  | 25 => exact fun a b c => eS (h.ke a b c)
  | 26 => exact fun a b c => eS (h.sv a b c)
  | 0 => have g := h 0; simp only [invp, e9, e5, e2, eb, ew, e1, e6, e8] at g ⊢; exact g
  | 1 => exact h 1
  | 2 => exact h 2
  | 3 => have g := h 3; simp only [invp, e9, e5, e2, eb, ew, e1, e6, e8] at g ⊢; exact g
  | 4 => exact h 4
  | 5 => have g := h 5; simp only [invp, e9, e5, e2, eb, ew, e1, e6, e8] at g ⊢; exact g
  | 6 => have g := h 6; simp only [invp, e9, e5, e2, eb, ew, e1, e6, e8] at g ⊢; exact g
  | 7 => have g := h 7; simp only [invp, e9, e5, e2, eb, ew, e1, e6, e8] at g ⊢; exact g
  | 8 => exact h 8
  | 9 => exact h 9
  | 10 => have g := h 10; simp only [invp, e9, e5, e2, eb, ew, e1, e6, e8] at g ⊢; exact g
  | 11 => have g := h 11; simp only [invp, e9, e5, e2, eb, ew, e1, e6, e8] at g ⊢; exact g
  | 12 => have g := h 12; simp only [invp, e9, e5, e2, eb, ew, e1, e6, e8] at g ⊢; exact g
  | 13 => have g := h 13; simp only [invp, e9, e5, e2, eb, ew, e1, e6, e8] at g ⊢; exact g
  | 14 => exact h 14
  | 15 => have g := h 15; simp only [invp, e9, e5, e2, eb, ew, e1, e6, e8] at g ⊢; exact g
  | 16 => exact h 16
  | 17 => exact h 17
  | 18 => have g := h 18; simp only [invp, e9, e5, e2, eb, ew, e1, e6, e8] at g ⊢; exact g
  | 19 => exact h 19
  | 20 => exact h 20
  | 21 => have g := h 21; simp only [invp, e9, e5, e2, eb, ew, e1, e6, e8] at g ⊢; exact g
  | 22 => exact h 22
  | 23 => exact h 23
  | n + 27 => exact trivial
theorem Iv_mono {tb' : Nat} (h : Iv tb hc hm sz wn os hs nb) (e : tb ≤ tb') : Iv tb' hc hm sz wn os hs nb := by
  intro i
  match i with
  | 24 => exact fun a => St_mono (h.no a) e
  | 25 => exact fun a b c => St_mono (h.ke a b c) e
  | 26 => exact fun a b c => St_mono (h.sv a b c) e
  | 0 => exact h 0
  | 1 => exact h 1
  | 2 => exact h 2
  | 3 => exact h 3
  | 4 => exact h 4
  | 5 => exact h 5
  | 6 => exact h 6
  | 7 => exact h 7
  | 8 => exact h 8
  | 9 => exact h 9
  | 10 => exact h 10
  | 11 => exact h 11
  | 12 => exact h 12
  | 13 => exact h 13
  | 14 => exact h 14
  | 15 => exact h 15
  | 16 => exact h 16
  | 17 => exact h 17
  | 18 => exact h 18
  | 19 => exact h 19
  | 20 => exact h 20
  | 21 => exact h 21
  | 22 => exact h 22
  | 23 => exact h 23
  | n + 27 => exact trivial
end
section
variable {ρ β : Type}
/-- a call of both systems: their answers agree, and they still agree after it -/
def Op (agree : ρ → β → Int32 → Prop) (C : HP → Option (ρ × HP)) (M : HP → Option (β × HP)) : Prop :=
  ∀ tb hc hm, tb < 500000000 → Inv tb hc hm → ∃ r hc1 b hm1, C hc = some (r, hc1) ∧ M hm = some (b, hm1) ∧ agree r b (hm1 (10, 0, 0) 0) ∧ Inv (tb + 600000) hc1 hm1 ∧ CFr hc hc1 ∧ MFr hm hm1
theorem Op.join {agree : ρ → β → Int32 → Prop} {C : HP → Option (ρ × HP)} {M : HP → Option (β × HP)} (h : Op agree C M) {tb : Nat} (ht : tb < 500000000) {hp : HP} (hI : Inv tb hp hp) : ∃ r hp1 b hp2, C hp = some (r, hp1) ∧ M hp1 = some (b, hp2) ∧ agree r b (hp2 (10, 0, 0) 0) ∧ Inv (tb + 600000) hp2 hp2 := by
  obtain ⟨r, hc1, b, hm1, e1, _, _, _, f1, _⟩ := h tb hp hp ht hI
  obtain ⟨sz, wn, os, hs, nb, hv⟩ := hI
  obtain ⟨r', hc1', b', hm1', e1', e2, ag, hI2, _, f2⟩ := h tb hp hc1 ht ⟨sz, wn, os, hs, nb, Iv_m hv f1⟩
  rw [e1] at e1'
  cases e1'
  obtain ⟨sz, wn, os, hs, nb, hv2⟩ := hI2
  exact ⟨r, hc1, b', hm1', e1, e2, ag, sz, wn, os, hs, nb, Iv_c hv2 f2⟩
/-- the answer of a method that may throw, beside the reference's: cs are the exceptions in the order in which they are caught -/
def agr {τ : Type} (cs : List Nat) (r : τ ⊕ Nat) (b : τ) (t : Int32) : Prop := match r with
  | .inl v => t = 0 ∧ v = b
  | .inr E => ∃ i, cs[i]? = some E ∧ t = nI (i + 1)
def agp {τ : Type} (r b : τ) (_ : Int32) : Prop := r = b
/-- a look: nothing changes but what the reference throws -/
def Look {τ : Type} (cs : List Nat) (C : HP → Option (τ ⊕ Nat)) (M : HP → Option (τ × HP)) : Prop :=
  ∀ tb hc hm, tb < 500000000 → Inv tb hc hm → ∃ r b t, C hc = some r ∧ M hm = some (b, th hm t) ∧ agr cs r b t
theorem Look.op {τ : Type} {cs : List Nat} {C : HP → Option (τ ⊕ Nat)} {M : HP → Option (τ × HP)} (h : Look cs C M) : Op (agr cs) (fun hp => (C hp).bind fun r => some (r, hp)) M := by
  intro tb hc hm ht hI
  obtain ⟨r, b, t, e1, e2, ag⟩ := h tb hc hm ht hI
  obtain ⟨sz, wn, os, hs, nb, hv⟩ := hI
  exact ⟨r, hc, b, th hm t, by show (C hc).bind _ = _; rw [e1]; rfl, e2, by rw [th_s]; exact ag, ⟨sz, wn, os, hs, nb, Iv_mono (Iv_th hv) (by omega)⟩, CFr.refl hc, (MFr.refl hm).th⟩
/-- what both have once a text is loaded -/
def Ldd (tb : Nat) (hc hm : HP) (T L A : Tr0) (nb : Nat) : Prop := MR True hc hc 0 T L A nb ∧ Rea hc 0 T ∧ WF tb T L A nb ∧ LA hm L A nb
theorem Inv_ldd {tb : Nat} {hc hm : HP} (hI : Inv tb hc hm) (h1 : hm (10, 0, 0) 1 = 1) : ∃ nb, Ldd tb hc hm (hm (11, 22, 0)) (hm (11, 20, 0)) (hm (11, 21, 0)) nb := by
  obtain ⟨sz, wn, os, hs, nb, hv⟩ := hI
  have hS := hv.no h1
  exact ⟨nb, St_MR hS, hS.2.2.1, hS.2.2.2, rfl, rfl, hv.nb⟩
theorem th_rwm {hm : HP} {T : Tr0} {x : Int32} : th (rwm hm T) x = rwm (th hm x) T := rwm_up2 (by decide)
theorem LA_th {hm : HP} {L A : Tr0} {nb : Nat} (h : LA hm L A nb) {x : Int32} : LA (th hm x) L A nb := LA_up h (by decide)
theorem nl_1 {hm : HP} (h : hm (10, 0, 0) 1 = 0) : fX10_notLoaded hm = some (1, th hm 1) := by
  have h' : (up hm (10, 0, 0) 0 0) (10, 0, 0) 1 = 0 := (up_o (by simp)).trans h
  show (if (up hm (10, 0, 0) 0 0) (10, 0, 0) 1 = 0 then ((if (up hm (10, 0, 0) 0 0) (10, 0, 0) 0 = 0 then (if (1 : Int32) = 0 then (fX10_refuse_16 (up hm (10, 0, 0) 0 0)) else (fX10_refuse_16 (up (up hm (10, 0, 0) 0 0) (10, 0, 0) 0 1))) else (fX10_refuse_16 (up hm (10, 0, 0) 0 0))).bind fun q2 => if isB q2.1 = true then some (q2.1, q2.2) else none) else _) = _
  rw [if_pos h', if_pos (show (up hm (10, 0, 0) 0 0) (10, 0, 0) 0 = 0 from up_s), if_neg (by decide)]
  show ((if (up (up hm (10, 0, 0) 0 0) (10, 0, 0) 0 1) (10, 0, 0) 0 = 0 then (some ((0 : Int32), up (up hm (10, 0, 0) 0 0) (10, 0, 0) 0 1)) else (some (1, up (up hm (10, 0, 0) 0 0) (10, 0, 0) 0 1))).bind fun q2 => if isB q2.1 = true then some (q2.1, q2.2) else none) = _
  rw [if_neg (by rw [up_s]; decide), Option.bind_some]
  exact congrArg (fun x => some ((1 : Int32), x)) th_th
theorem nl_0 {hm : HP} (h : hm (10, 0, 0) 1 = 1) : fX10_notLoaded hm = some (0, th hm 0) := by
  have h' : (up hm (10, 0, 0) 0 0) (10, 0, 0) 1 = 1 := (up_o (by simp)).trans h
  show (if (up hm (10, 0, 0) 0 0) (10, 0, 0) 1 = 0 then _ else ((if (up hm (10, 0, 0) 0 0) (10, 0, 0) 0 = 0 then (if (0 : Int32) = 0 then (if (up hm (10, 0, 0) 0 0) (10, 0, 0) 0 = 0 then (some ((0 : Int32), up hm (10, 0, 0) 0 0)) else (some (1, up hm (10, 0, 0) 0 0))) else _) else _).bind fun q2 => if isB q2.1 = true then some (q2.1, q2.2) else none)) = _
  rw [if_neg (show ¬ (up hm (10, 0, 0) 0 0) (10, 0, 0) 1 = 0 by rw [h']; decide), if_pos (show (up hm (10, 0, 0) 0 0) (10, 0, 0) 0 = 0 from up_s), if_pos rfl, if_pos (show (up hm (10, 0, 0) 0 0) (10, 0, 0) 0 = 0 from up_s), Option.bind_some]; rfl
theorem rf_no {hm : HP} (h : hm (10, 0, 0) 0 = 0) (c : Int32) : fX10_refuse 0 c hm = some (0, hm) := by
  show (if hm (10, 0, 0) 0 = 0 then (if (0 : Int32) = 0 then (if hm (10, 0, 0) 0 = 0 then (some (0, hm)) else (some (1, hm))) else _) else _) = _
  rw [if_pos h, if_pos rfl, if_pos h]
theorem rf_yes {hm : HP} (h : hm (10, 0, 0) 0 = 0) {c : Int32} (hc : ¬ c = 0) : fX10_refuse 1 c hm = some (1, th hm c) := by
  show (if hm (10, 0, 0) 0 = 0 then (if (1 : Int32) = 0 then _ else (if (up hm (10, 0, 0) 0 c) (10, 0, 0) 0 = 0 then (some (0, up hm (10, 0, 0) 0 c)) else (some (1, up hm (10, 0, 0) 0 c)))) else _) = _
  rw [if_pos h, if_neg (by decide), if_neg (by rw [up_s]; exact hc)]; rfl
theorem rl_0 {hc : HP} (h : hc (9, 0, 0) 2 = 0) : fX9_requireLoaded hc = some (.inr 1) := if_pos h
theorem rl_1 {hc : HP} (h : hc (9, 0, 0) 2 = 1) : fX9_requireLoaded hc = some (.inl ()) := if_neg (by rw [h]; decide)
/-- a look that wants a text -/
theorem lookL {τ : Type} {cs : List Nat} {C F : HP → Option (τ ⊕ Nat)} {M G : HP → Option (τ × HP)} {d0 : τ} (h0 : cs[0]? = some 1)
    (hC : ∀ hc, C hc = (fX9_requireLoaded hc).bind fun q => Sum.elim (fun _ => F hc) (fun E => some (.inr E)) q)
    (hM1 : ∀ hm, hm (10, 0, 0) 1 = 0 → M hm = some (d0, th hm 1))
    (hM0 : ∀ hm, hm (10, 0, 0) 1 = 1 → M hm = G (th hm 0))
    (h : ∀ tb hc hm T L A nb, tb < 500000000 → Ldd tb hc hm T L A nb → hm (10, 0, 0) 0 = 0 → ∃ r b t, F hc = some r ∧ G (rwm hm T) = some (b, rwm (th hm t) T) ∧ agr cs r b t) : Look cs C M := by
  intro tb hc hm ht hI
  have hI' := hI
  obtain ⟨sz, wn, os, hs, nb, hv⟩ := hI
  rcases hv.l1 with l0 | l1
  · have lc : hc (9, 0, 0) 2 = 0 := by rw [hv.lo]; exact l0
    refine ⟨.inr 1, d0, 1, ?_, hM1 hm l0, 0, h0, rfl⟩
    rw [hC, rl_0 lc, Option.bind_some]; rfl
  · have lc : hc (9, 0, 0) 2 = 1 := by rw [hv.lo]; exact l1
    obtain ⟨nb', a1, a2, a3, a4⟩ := Inv_ldd hI' l1
    obtain ⟨r, b, t, e1, e2, ag⟩ := h tb hc (th hm 0) _ _ _ nb' ht ⟨a1, a2, a3, LA_th a4⟩ th_s
    refine ⟨r, b, t, ?_, ?_, ag⟩
    · rw [hC, rl_1 lc, Option.bind_some]; exact e1
    · rw [hM0 hm l1]
      have e3 : rwm (th hm 0) (hm (11, 22, 0)) = th hm 0 := by
        have := rwm_id (th hm 0)
        rw [th_r (by decide)] at this; exact this
      have e4 : rwm (th (th hm 0) t) (hm (11, 22, 0)) = th hm t := by
        have := rwm_id (th hm t)
        rw [th_r (by decide)] at this
        rw [th_th]; exact this
      rw [e3, e4] at e2
      exact e2
end
