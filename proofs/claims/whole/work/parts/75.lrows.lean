/-! ===== rows of the law's body ===== -/
section LWR
variable {p : Program} {l : Launch} {e : Env} {R : Room} {s : State} {m : MethodId} {sargs : Array Value} {below : List Frame} {meth : Method} {c : Code} {Q : State → Prop}
variable {b B Ls pc cells slots i : Nat} {xs : Nat → Int32} {D : va_G} {G : GG} {L : GL} {adK adV adM : Nat → Nat} {hp hp1 : HP} {f f1 : Nat → Int64} {g g1 : Nat → UInt64} {H H1 : Heap} {locs : List Loc} {sl : Array Slot} {rest : List Value}
theorem nan_a {x : UInt32} (h : okF x = true) : vf_n64 (FP.f2d x) := by
  have h := of_decide_eq_true h
  have h1 : FP.fIsNaN x = false := by
    show FP.Core.fIsNaN x = false
    rw [← Bool.not_eq_true, FP.Core.isNaN_bits32]
    rw [UInt32.le_iff_toNat_le, UInt32.toNat_and] at h
    have h1 : (0x7fffffff : UInt32).toNat = 2 ^ 31 - 1 := by decide
    have h2 : (0x7f800000 : UInt32).toNat = 2139095040 := by decide
    rw [h1, h2, Nat.and_two_pow_sub_one_eq_mod] at h
    omega
  have h2 := FP.f2d_nan x
  rw [h1] at h2
  replace h2 : FP.Core.dIsNaN (FP.f2d x) = false := h2
  rw [← Bool.not_eq_true, FP.Core.isNaN_bits] at h2
  unfold vf_n64
  rw [UInt64.le_iff_toNat_le, UInt64.toNat_and]
  have h3 : (0x7fffffffffffffff : UInt64).toNat = 2 ^ 63 - 1 := by decide
  have h4 : (0x7ff0000000000000 : UInt64).toNat = 9218868437227405312 := by decide
  rw [h3, h4, Nat.and_two_pow_sub_one_eq_mod]
  omega
theorem nan_b {x : UInt64} (h : vf_n64 x) : FP.dcmp x x = some .eq := by
  unfold vf_n64 at h
  have h2 : FP.Core.dIsNaN x = false := by
    rw [← Bool.not_eq_true, FP.Core.isNaN_bits]
    rw [UInt64.le_iff_toNat_le, UInt64.toNat_and] at h
    have h3 : (0x7fffffffffffffff : UInt64).toNat = 2 ^ 63 - 1 := by decide
    have h4 : (0x7ff0000000000000 : UInt64).toNat = 9218868437227405312 := by decide
    rw [h3, h4, Nat.and_two_pow_sub_one_eq_mod] at h
    omega
  exact FP.Core.dcmp_self (fun q => by rw [← Bool.not_eq_true, FP.Core.dIsNaN_iff] at h2; exact h2 q)
theorem lg_cmp_s (x : Int64) : lg_cmp x x = 0 := by
  unfold lg_cmp
  rw [if_neg (Int64.lt_irrefl), if_pos rfl]
/-- the law's locals at each turn -/
def lwL (b B i : Nat) : List (Nat × Value) := [(0, .ref b), (1, .ref B), (2, .ref (B + 312)), (3, .ref (B + 326)), (4, .ref (B + 327)), (5, .int (nI i))]
theorem lv_part {ls : Array Slot} {nL : Nat} {lv lv' : List (Nat × Value)} (h : lv_has ls nL lv) (hs : ∀ q ∈ lv', q ∈ lv) : lv_has ls nL lv' := ⟨h.1, h.2.1, fun q hq => h.2.2 q (hs q hq)⟩
/-- what stands through the whole law -/
def LawX (p : Program) (l : Launch) (s : State) (m : MethodId) (meth : Method) (c : Code) (R : Room) (sargs : Array Value) (b Ls : Nat) (xs : Nat → Int32) (B : Nat) (D : va_G) (G : GG) (L : GL) (adK adV adM : Nat → Nat) : Prop :=
  p.tables.exec = Jvm.exec ∧ c.code = code ∧ c.maxLocals = 9 ∧ (∀ w ∈ lwG, w.before sargs s = true) ∧ s.vm.findClass RL = some m.cls ∧ LwV B D G L adK adV adM s ∧ l.stackTraces = false ∧ va_X b Ls xs s s.heap ∧ b < s.heap.size ∧ s.heap.size ≤ B ∧ Ls ≤ 3072 ∧ 12 ≤ R.frames ∧ 432 ≤ R.locals
theorem vp_in_n {k n : Nat} (h : k < n) (hn : n ≤ 100000) : vp_in (nI k) n := by
  unfold vp_in
  rintro (q | q)
  · exact n_neg (by omega) q
  · rw [n_c (by omega)] at q
    omega
/-- the script's number k behind the place i -/
theorem la_ld {k : Nat} {K : Int} (hX : LawX p l s m meth c R sargs b Ls xs B D G L adK adV adM) (hS : va_S (ab B) s.heap H locs) (h0 : sl[0]? = some (.val (.ref b))) (h5 : sl[5]? = some (.val (.int (nI i)))) (hi : i + k < Ls) (hK : Int32.ofInt K = nI k)
    (hd : decode code pc = .ok (.aload_n 0, 1) ∧ decode code (pc + 1) = .ok (.iload 5, 2) ∧ decode code (pc + 3) = .ok (.iconst K, 1) ∧ decode code (pc + 4) = .ok (.iadd, 1) ∧ decode code (pc + 5) = .ok (.iaload, 1))
    (kk : W p l e R s m sargs below meth c H locs cells slots Q (F0 m (pc + 6) sl (.int (xs (i + k)) :: rest))) : W p l e R s m sargs below meth c H locs cells slots Q (F0 m pc sl rest) := by
  obtain ⟨hx, hb, hml, hts, hown, hE, hfl, hSc, hbl, hbB, hL, hRf, hRl⟩ := hX
  obtain ⟨d0, d1, d2, d3, d4⟩ := hd
  refine lv_aload_n hx hb d0 rfl h0 ?_
  refine lv_iload hx hb d1 h5 ?_
  refine lv_iconst (v := nI k) hx hb d2 hK ?_
  refine lv_iadd hx hb d3 ?_
  rw [n_add]
  refine va_sld hx hb hSc hbl (by show ¬ B ≤ b; omega) hS (vp_in_n hi (by omega)) d4 ?_
  rw [n_c (by omega)]
  exact kk
def bI (x : Int32) : Int32 := if x = 0 then 0 else 1
theorem bI_01 (x : Int32) : bI x = 0 ∨ bI x = 1 := by
  unfold bI
  by_cases h : x = 0
  · exact Or.inl (if_pos h)
  · exact Or.inr (if_neg h)
/-- the same, as a truth value -/
theorem la_ldb {k : Nat} {K : Int} (hX : LawX p l s m meth c R sargs b Ls xs B D G L adK adV adM) (hS : va_S (ab B) s.heap H locs) (h0 : sl[0]? = some (.val (.ref b))) (h5 : sl[5]? = some (.val (.int (nI i)))) (hi : i + k < Ls) (hK : Int32.ofInt K = nI k)
    (hd : decode code pc = .ok (.aload_n 0, 1) ∧ decode code (pc + 1) = .ok (.iload 5, 2) ∧ decode code (pc + 3) = .ok (.iconst K, 1) ∧ decode code (pc + 4) = .ok (.iadd, 1) ∧ decode code (pc + 5) = .ok (.iaload, 1))
    (hd2 : decode code (pc + 6) = .ok (.ifCond .eq 7, 3) ∧ decode code (pc + 9) = .ok (.iconst 1, 1) ∧ decode code (pc + 10) = .ok (.goto 4, 3) ∧ decode code (pc + 13) = .ok (.iconst 0, 1))
    (kk : W p l e R s m sargs below meth c H locs cells slots Q (F0 m (pc + 14) sl (.int (bI (xs (i + k))) :: rest))) : W p l e R s m sargs below meth c H locs cells slots Q (F0 m pc sl rest) := by
  refine la_ld hX hS h0 h5 hi hK hd ?_
  obtain ⟨hx, hb, hml, hts, hown, hE, hfl, hSc, hbl, hbB, hL, hRf, hRl⟩ := hX
  obtain ⟨d0, d1, d2, d3⟩ := hd2
  refine lv_if_eq (tgt := pc + 13) hx hb d0 (by omega) (fun h => ?_) (fun h => ?_)
  · refine lv_iconst (v := bI (xs (i + k))) hx hb d3 (by unfold bI; rw [if_pos h]; rfl) ?_
    exact kk
  · refine lv_iconst (v := bI (xs (i + k))) hx hb d1 (by unfold bI; rw [if_neg h]; rfl) ?_
    refine lv_goto (tgt := pc + 14) hx hb d2 (by omega) ?_
    exact kk
/-- a call of one of the law's own methods -/
theorem lc_wrap {y : MethodName} {bytes : ByteArray} {maxL n idx : Nat} {hh : List (Nat × Nat × Nat × Nat)} {as : List Value} {k : Int32} (hX : LawX p l s m meth c R sargs b Ls xs B D G L adK adV adM) (hlsz : sl.size = 9)
    (hM : WrM l B D G L adK adV adM y bytes maxL hh as hp f g k hp1 f1 g1) (hw : ([.codeWith y bytes maxL (some .int) hh, .methodLink RL idx y, .static y, .initialized y.cls] : List Jvm.Cond).all (fun w => decide (w ∈ lw_tbl) && goodWord w) = true)
    (hd : y.cls ≠ "java/lang/invoke/MethodHandle" ∧ y.cls ≠ "java/lang/invoke/VarHandle" ∧ (parseMethodDescriptor y.desc).map (fun d => d.parameters.length) = some n) (hn : as.length = n) (hm : maxL ≤ 5)
    (hrest : (rest.map fun v => v.category).sum ≤ 8) (hP : LwS B D G L hp f g H) (hS : va_S (ab B) s.heap H locs) (hcells : cells + 1 ≤ R.cells) (hslots : slots + 6 ≤ R.slots) (hdg : decode code pc = .ok (.invokestatic idx, 3))
    (kk : ∀ H1 locs1, LwS B D G L hp1 f1 g1 H1 → va_S (ab B) s.heap H1 locs1 → W p l e R s m sargs below meth c H1 locs1 (cells + 1) (slots + 6) Q (F0 m (pc + 3) sl (.int k :: rest))) : W p l e R s m sargs below meth c H locs cells slots Q (F0 m pc sl (as.reverse ++ rest)) := by
  obtain ⟨hx, hb, hml, hts, hown, hE, hfl, hSc, hbl, hbB, hL, hRf, hRl⟩ := hX
  have hin : ∀ w ∈ ([.codeWith y bytes maxL (some .int) hh, .methodLink RL idx y, .static y, .initialized y.cls] : List Jvm.Cond), w ∈ lwG := fun w hw0 => by
    have h := List.all_eq_true.mp hw w hw0
    simp only [Bool.and_eq_true, decide_eq_true_eq] at h
    exact List.mem_filter.mpr h
  have hG : GoodIn lwG (va_wsS RL idx y (Jvm.Cond.codeWith y bytes maxL (some .int) hh :: lwG)) := fun w hw0 => by
    unfold va_wsS at hw0
    rcases List.mem_append.mp hw0 with h | h
    · exact lwG_good w (hin w (List.mem_cons_of_mem _ h))
    · rcases List.mem_cons.mp h with h | h
      · exact lwG_good w (hin w (by rw [h]; exact List.mem_cons_self))
      · exact lwG_good w h
  have hr := vx_runSW (p := p) (l := l) (e := e) (R := R) (s := s) (m := m) (args := sargs) (below := below) (meth := meth) (c := c) (H := H) (locs := locs) (cells := cells) (slots := slots) (g := F0 m pc sl (as.reverse ++ rest)) (As := as) (rest := rest) ⟨hx, hb, hml, hown, hts⟩ hM (vx_cwSW n hts hG rfl rfl rfl hd ⟨by show 10 + 1 ≤ R.frames; omega, by show 8 + (maxL + 11) + 360 ≤ R.locals; omega⟩)
    ⟨fun a U g mk q => ⟨q.1, q.2.1, q.2.2.warm (State.WarmedH.refl U) (fun _ _ _ => rfl)⟩, fun U hU hW => ⟨rfl, by rw [hU]; exact hP, lw_henv hE hS U hU hW⟩⟩ rfl hn hlsz rfl (lv_room hrest) hdg ⟨hcells, hslots⟩
  intro T hT X
  obtain ⟨w, st₀, t, T', L1, h0, X', hL1, e1, e2, ⟨hw1, hP1, hF⟩, stp⟩ := hr T hT X
  cases hw1
  obtain ⟨k1, k2, k3⟩ := vx_keep h0 e1 hS (fun q _ h => h) (fun q h => h) hL1 hF
  obtain ⟨t2, a1, b1⟩ := kk T'.heap (locs ++ L1) (by rw [e1]; exact hP1) k3 T' rfl X'
  exact ⟨t2, stp t2 a1, b1⟩
theorem a10_0 : B + adr (10, 0, 0) = B + 312 := by
  obtain ⟨o309, o310, o311, o312, o3, o28, o257, o283⟩ := oth_at2
  rw [adr_of o312]
theorem r10_in : ((10, 0, 0) : RF) ∈ allR := List.mem_of_getElem? (i := 312) oth_at2.2.2.2.1
/-- a call of the reference -/
theorem lc_mod {μ idx : Nat} {as : List VL} {v : Option VL} (hX : LawX p l s m meth c R sargs b Ls xs B D G L adK adV adM) (hlsz : sl.size = 9)
    (hμ : μ < 290) (hst : (mus μ).2.1 = false) (hcl : clOf μ = 10) (hn : as.length = (mus μ).2.2) (hI : ∀ w ∈ as, okI w) (hc : Calls 9 μ (vR (10, 0, 0) :: as) hp (.inl v, hp1)) (hlk : Jvm.Cond.methodLink RL idx (nameOf μ) ∈ lwG)
    (hrest : (rest.map fun v => v.category).sum ≤ 8) (hP : LwS B D G L hp f g H) (hS : va_S (ab B) s.heap H locs) (hcells : cells ≤ R.cells) (hslots : slots ≤ R.slots) (hd : decode code pc = .ok (.invokevirtual idx, 3))
    (kk : ∀ H1 locs1, LwS B D G L hp1 f g H1 → va_S (ab B) s.heap H1 locs1 → W p l e R s m sargs below meth c H1 locs1 cells slots Q (F0 m (pc + 3) sl ((v.map (toV B adK)).toList ++ rest))) : W p l e R s m sargs below meth c H locs cells slots Q (F0 m pc sl ((as.map (toV B adK)).reverse ++ .ref (B + 312) :: rest)) := by
  obtain ⟨hx, hb, hml, hts, hown, hE, hfl, hSc, hbl, hbB, hL, hRf, hRl⟩ := hX
  have h := lc_call (p := p) (e := e) (below := below) (meth := meth) (Q := Q) (own := RL) (rest := rest) (jst_ok l) hx hb hml hlsz hts hown hE hμ hst r10_in (by decide) hcl hn hI hc hlk (by omega) (by omega) hrest hP hS hcells hslots hd kk
  rw [a10_0] at h
  exact h
/-- a call of the class itself -/
theorem lc_cls {μ idx : Nat} {as : List VL} {v : Option VL} (hX : LawX p l s m meth c R sargs b Ls xs B D G L adK adV adM) (hlsz : sl.size = 9)
    (hμ : μ < 290) (hst : (mus μ).2.1 = false) (hcl : clOf μ = 9) (hn : as.length = (mus μ).2.2) (hI : ∀ w ∈ as, okI w) (hc : Calls 9 μ (vR (9, 0, 0) :: as) hp (.inl v, hp1)) (hlk : Jvm.Cond.methodLink RL idx (nameOf μ) ∈ lwG)
    (hrest : (rest.map fun v => v.category).sum ≤ 8) (hP : LwS B D G L hp f g H) (hS : va_S (ab B) s.heap H locs) (hcells : cells ≤ R.cells) (hslots : slots ≤ R.slots) (hd : decode code pc = .ok (.invokevirtual idx, 3))
    (kk : ∀ H1 locs1, LwS B D G L hp1 f g H1 → va_S (ab B) s.heap H1 locs1 → W p l e R s m sargs below meth c H1 locs1 cells slots Q (F0 m (pc + 3) sl ((v.map (toV B adK)).toList ++ rest))) : W p l e R s m sargs below meth c H locs cells slots Q (F0 m pc sl ((as.map (toV B adK)).reverse ++ .ref B :: rest)) := by
  obtain ⟨hx, hb, hml, hts, hown, hE, hfl, hSc, hbl, hbB, hL, hRf, hRl⟩ := hX
  have h := lc_call (p := p) (e := e) (below := below) (meth := meth) (Q := Q) (own := RL) (rest := rest) (jst_ok l) hx hb hml hlsz hts hown hE hμ hst r9_in (by decide) hcl hn hI hc hlk (by omega) (by omega) hrest hP hS hcells hslots hd kk
  rw [a9_0] at h
  exact h
end LWR
