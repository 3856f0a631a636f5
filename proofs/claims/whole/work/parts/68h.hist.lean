section CT
variable {B i : Nat} {D : va_G} {G : GG} {E T : Nat → va_E}
theorem updE_cc {E : Nat → va_E} {i j : Nat} {e e' x : va_E} (h : i ≠ j) : updE (updE (updE E i e) j x) i e' = updE (updE E i e') j x := by
  funext q
  unfold updE
  by_cases h1 : q = i
  · rw [if_pos h1, if_neg (by omega), if_pos h1]
  · rw [if_neg h1, if_neg h1, if_neg h1]
theorem arrV_eq {c : ClassId} {n : Nat} {f g : Nat → Value} (h : ∀ j, j < n → f j = g j) : arrV c n f = arrV c n g := by
  unfold arrV
  congr 1
  apply congrArg
  funext j
  exact h j.val j.isLt
theorem PW_zq {B k a : Nat} {F : Nat → va_E} {D : va_G} {H : Heap} {cA : ClassId} {f g : Nat → Option Nat} (h : ∀ j, j < 8 → f j = g j) (hP : va_P D vwCl (PW B k (updE F a (zQ cA 8 f))) H) : va_P D vwCl (PW B k (updE F a (zQ cA 8 g))) H := by
  intro j q hq
  obtain ⟨hj, rfl⟩ := PW_inv hq
  have h0 := hP j _ (PW_at hj)
  by_cases e : j = a
  · subst e
    rw [updE_s] at h0 ⊢
    have e1 : H[B + j]? = some (vp_cell cA (8, .inr (.inr (.inr (.inr f))))) := h0
    show H[B + j]? = some (vp_cell cA (8, .inr (.inr (.inr (.inr g)))))
    rw [e1, vp_cell_q, vp_cell_q, arrV_eq (fun j hj => by rw [h j hj])]
  · rw [updE_n e] at h0 ⊢
    exact h0
def cw2 : List Jvm.Cond := [.methodLink (clsN 2) 3 objectInit, .classLink (clsN 2) 9 RX3, .fieldLink (clsN 2) 11 (clsN 2) (TT 2 0).2.1 (TT 2 0).2.2.1, .classLink (clsN 2) 9 (clsN 3), .code yX3_init cX3_init 1 none, .instanceMethod yX3_init]
theorem cw2_at {w : Jvm.Cond} (i : Nat) (h : cw2[i]? = some w) : w ∈ lwG := by
  have key : (cw2.all (fun w => decide (w ∈ lw_tbl) && goodWord w)) = true := by decide +kernel
  have h := List.all_eq_true.mp key w (List.mem_of_getElem? h)
  simp only [Bool.and_eq_true, decide_eq_true_eq] at h
  exact List.mem_filter.mpr h
theorem dcw2_0 : decode cX2_init 0 = .ok (.aload_n 0, 1) ∧ decode cX2_init 1 = .ok (.invokespecial 3, 3) ∧ decode cX2_init 4 = .ok (.aload_n 0, 1) ∧ decode cX2_init 5 = .ok (.bipush 8, 2) ∧ decode cX2_init 7 = .ok (.anewarray 9, 3) ∧ decode cX2_init 10 = .ok (.putfield 11, 3) ∧ decode cX2_init 13 = .ok (.iconst 0, 1) ∧ decode cX2_init 14 = .ok (.istore_n 1, 1) := by decide +kernel
theorem dcw2_1 : decode cX2_init 15 = .ok (.iload_n 1, 1) ∧ decode cX2_init 16 = .ok (.aload_n 0, 1) ∧ decode cX2_init 17 = .ok (.getfield 11, 3) ∧ decode cX2_init 20 = .ok (.arraylength, 1) ∧ decode cX2_init 21 = .ok (.if_icmp .ge 22, 3) ∧ decode cX2_init 24 = .ok (.aload_n 0, 1) ∧ decode cX2_init 25 = .ok (.getfield 11, 3) ∧ decode cX2_init 28 = .ok (.iload_n 1, 1) := by decide +kernel
theorem dcw2_2 : decode cX2_init 29 = .ok (.new 9, 3) ∧ decode cX2_init 32 = .ok (.dup, 1) ∧ decode cX2_init 33 = .ok (.invokespecial 17, 3) ∧ decode cX2_init 36 = .ok (.aastore, 1) ∧ decode cX2_init 37 = .ok (.iinc 1 1, 3) ∧ decode cX2_init 40 = .ok (.goto (-25), 3) ∧ decode cX2_init 43 = .ok (.return_, 1) := by decide +kernel
/-- the machines that are kept so far -/
def kpt (B i j : Nat) : Nat → Option Nat := fun q => if q < j then some (B + (i + (2 + 25 * q))) else none
theorem kpt_up {B i j : Nat} : va_up (kpt B i j) j (some (B + (i + (2 + 25 * j)))) = kpt B i (j + 1) := by
  funext q
  unfold va_up kpt
  by_cases h : q = j
  · rw [if_pos h, if_pos (by omega), h]
  · rw [if_neg h]
    by_cases h2 : q < j
    · rw [if_pos h2, if_pos (by omega)]
    · rw [if_neg h2, if_neg (by omega)]
/-- the world behind j machines -/
def hisF (B i j : Nat) (G : GG) (E T : Nat → va_E) : Nat → va_E := updE (updE (mixE i E T) i (.inr (2, [.ref (B + (i + 1)), .int 0, .int 0]))) (i + 1) (zQ G.2.2 8 (kpt B i j))
set_option maxHeartbeats 1000000 in
theorem ct_hist (l : Launch) (hT : HisH B G T i) (hE : E i = .inr (2, dfl 2)) : CTM l B D G yX2_init cX2_init 2 4 201 9872 i 202 [] T E := by
  obtain ⟨d_0, d_1, d_4, d_5, d_7, d_10, d_13, d_14⟩ := dcw2_0
  obtain ⟨d_15, d_16, d_17, d_20, d_21, d_24, d_25, d_28⟩ := dcw2_1
  obtain ⟨d_29, d_32, d_33, d_36, d_37, d_40, d_43⟩ := dcw2_2
  refine Met.ofW (cc := cX2_init) (maxL := 2) (ret := none) (by decide) rfl ?_
  intro p e s m args below meth c s₁ Bd hml hv
  obtain ⟨rfl, hsz, hP0, hK⟩ := hv
  have hx := Bd.exec
  have hb := Bd.bytes
  have hr := Bd.returns
  have hlocks := Bd.notSynchronized
  have hin : meth.name = "<init>" := (name_of_methodNamed Bd.named Bd.method).1
  have hts0 := atoms_spec (ws := Jvm.Cond.code yX2_init cX2_init 2 none :: lwG) Bd.pre
  have hts : ∀ w ∈ lwG, w.before ([.ref (B + i)] : List Value).toArray s = true := fun w hw => hts0 w (List.mem_cons_of_mem _ hw)
  have hown : s.vm.findClass (clsN 2) = some m.cls := findClass_of_methodNamed Bd.named
  have hBs : B ≤ s.heap.size := by omega
  have hS : va_S (ab B) s.heap s.heap [] := va_S.rf
  have hz : s.heap.size = B + (i + 1) := hsz
  have hP : va_P D vwCl (PW B (i + 1) (updE (mixE i E T) i (.inr (2, [.null, .int 0, .int 0])))) s.heap := by
    rw [← PW_congr (E := E)]
    · exact hP0
    · intro j hj
      by_cases q : j = i
      · rw [q, updE_s, hE]; rfl
      · rw [updE_n q, mixE_l (by omega)]
  have hl := lv_entry ([.ref (B + i)]) (n := 2) (Nat.le_of_ble_eq_true rfl)
  rw [lg_entry_eq]
  generalize (lg_sl ([.ref (B + i)]) ++ List.replicate (2 - (lg_sl ([.ref (B + i)])).length) Slot.unset).toArray = ls at hl ⊢
  have hl : lv_has ls 2 [(0, .ref (B + i))] := hl
  -- the loop
  have loop : ∀ (q j : Nat) (H : Heap) (locs : List Loc) (ls : Array Slot), j + q = 8 → va_P D vwCl (PW B (i + (2 + 25 * j)) (hisF B i j G E T)) H → H.size = B + (i + (2 + 25 * j)) → va_S (ab B) s.heap H locs → lv_has ls 2 [(1, .int (nI j)), (0, .ref (B + i))] →
      W p l e (headSpec (Jvm.Cond.code yX2_init cX2_init 2 none :: lwG) (rmC 4 201 9872)).room s m ([.ref (B + i)] : List Value).toArray below meth c H locs (1 + 25 * j) (8 + 1233 * j) (MQ below (fun _ st oc t => oc = .returned none ∧ t.heap.size = B + (i + 202) ∧ va_P D vwCl (PW B (i + 202) (mixE i E T)) t.heap ∧ va_F (ab B) st t) ([.ref (B + i)] : List Value).toArray s 201 9872 (ab B)) (F0 m 15 ls []) := by
    intro q
    induction q with
    | zero =>
      intro j H locs ls hj hP hz hS hl
      have hj8 : j = 8 := by omega
      subst hj8
      refine lv_iload_n hx hb d_15 rfl (lv_at hl 0 rfl) ?_
      refine lv_aload_n hx hb d_16 rfl (lv_at hl 1 rfl) ?_
      refine bw_get (k := i + 202) (c' := 2) (f := 0) (fs := [.ref (B + (i + 1)), .int 0, .int 0]) (v := .ref (B + (i + 1))) hx hb hts hown (by decide) (by decide) (hts _ (cw2_at 2 rfl)) rfl hK (by omega) ((updE_n (by omega)).trans updE_s) hP d_17 ?_
      have ha : (PW B (i + 202) (hisF B i 8 G E T))[i + 1]? = some (B + (i + 1), .inl (G.2.2, 8, .inr (.inr (.inr (.inr (kpt B i 8)))))) := by rw [PW_at (by omega)]; unfold hisF; rw [updE_s]; rfl
      refine va_alen (v := nI 8) hx hb hK.1 hP (i + 1) 2 ha rfl rfl d_20 ?_
      refine lv_icmp_ge (tgt := 43) hx hb d_21 (by decide) (fun _ => ?_) (fun z => absurd (show nI 8 ≤ nI 8 from Int32.le_refl _) z)
      have hP2 := PW_zq (g := fun j => some (B + (i + (2 + 25 * j)))) (fun j hj => by unfold kpt; rw [if_pos hj]) hP
      rw [updE_id ((updE_n (by omega)).trans ((mixE_g (by omega)).trans hT.2.1)), updE_id ((mixE_g (Nat.le_refl i)).trans hT.1)] at hP2
      refine W.widen (k := 201) (n := 9872) (Nat.le_of_ble_eq_true rfl) (Nat.le_of_ble_eq_true rfl) ?_
      exact W.vret hx hb hr (fun t ht hW => ⟨rfl, by rw [ht]; exact hz, by rw [ht]; exact hP2, hS.F ht⟩) hS.2.2 d_43 hlocks
    | succ q ih =>
      intro j H locs ls hj hP hz hS hl
      have hM := hT.2.2 j (by omega)
      refine lv_iload_n hx hb d_15 rfl (lv_at hl 0 rfl) ?_
      refine lv_aload_n hx hb d_16 rfl (lv_at hl 1 rfl) ?_
      refine bw_get (k := i + (2 + 25 * j)) (c' := 2) (f := 0) (fs := [.ref (B + (i + 1)), .int 0, .int 0]) (v := .ref (B + (i + 1))) hx hb hts hown (by decide) (by decide) (hts _ (cw2_at 2 rfl)) rfl hK (by omega) ((updE_n (by omega)).trans updE_s) hP d_17 ?_
      have ha : (PW B (i + (2 + 25 * j)) (hisF B i j G E T))[i + 1]? = some (B + (i + 1), .inl (G.2.2, 8, .inr (.inr (.inr (.inr (kpt B i j)))))) := by rw [PW_at (by omega)]; unfold hisF; rw [updE_s]; rfl
      refine va_alen (v := nI 8) hx hb hK.1 hP (i + 1) 2 ha rfl rfl d_20 ?_
      refine lv_icmp_ge (tgt := 43) hx hb d_21 (by decide) (fun z => absurd (show nI j < nI 8 from (n_lt (by omega) (by omega)).mpr (by omega)) (Int32.not_lt.mpr z)) (fun _ => ?_)
      refine lv_aload_n hx hb d_24 rfl (lv_at hl 1 rfl) ?_
      refine bw_get (k := i + (2 + 25 * j)) (c' := 2) (f := 0) (fs := [.ref (B + (i + 1)), .int 0, .int 0]) (v := .ref (B + (i + 1))) hx hb hts hown (by decide) (by decide) (hts _ (cw2_at 2 rfl)) rfl hK (by omega) ((updE_n (by omega)).trans updE_s) hP d_25 ?_
      refine lv_iload_n hx hb d_28 rfl (lv_at hl 0 rfl) ?_
      refine bw_new (c' := 3) hx hb hts hown (by decide) (hts _ (cw2_at 3 rfl)) hK hP hz hS hBs (by show 1 + 25 * j + 1 ≤ 201; omega) (by show 8 + 1233 * j + 10 ≤ 9872; omega) d_29 (fun H hP hz hS => ?_)
      refine lv_dup hx hb d_32 rfl ?_
      refine bw_callN (k := i + (2 + 25 * j)) (n := 0) (cnt := 25) (as := []) (rest := [.ref (B + (i + (2 + 25 * j))), .int (nI j), .ref (B + (i + 1))]) hx hb hml hl.1 hts hown (fun q hq => by unfold hisF; rw [updE_n (by omega), updE_n (by omega), mixE_g (by omega)]) (ct_mach l hM updE_s) (cw2_at 4 rfl) (clsW 3 (by decide)).2 (hK.2.1 _ (List.mem_of_getElem? (i := 1) rfl)) (cw2_at 5 rfl) rfl (by decide +kernel) rfl (by decide) (by show 3 + 1 ≤ 4; omega) (by show 36 * (3 + 1) ≤ 36 * 4; omega) hK hP hz hS (by show 1 + 25 * j + 1 + 24 ≤ 201; omega) (by show 8 + 1233 * j + 10 + 1223 ≤ 9872; omega) (Nat.le_of_ble_eq_true rfl) d_33 (fun H locs hP hz hS => ?_)
      rw [show i + (2 + 25 * j) + 25 = i + (2 + 25 * (j + 1)) by omega] at hP hz
      refine bw_aast (i := i + 1) (qk := i + (2 + 25 * j)) (f := kpt B i j) hx hb hK (by omega) (by unfold hisF; exact updE_s) (by omega) (by unfold hisF; rw [updE_n (by omega), updE_n (by omega), mixE_g (by omega)]; exact hM.1) (by omega) hP hz hS d_36 (fun H locs hP hz hS => ?_)
      have hF2 : updE (hisF B i j G E T) (i + 1) (zQ G.2.2 8 (va_up (kpt B i j) j (some (B + (i + (2 + 25 * j)))))) = hisF B i (j + 1) G E T := by
        unfold hisF
        rw [updE_updE, kpt_up]
      rw [hF2] at hP
      refine lv_iinc (v := nI (j + 1)) (lv' := [(1, .int (nI (j + 1))), (0, .ref (B + i))]) hx hb d_37 hl (k := 0) rfl (by rw [nI_succ]; rfl) (by decide) rfl (fun ls hl => ?_)
      refine lv_goto (tgt := 15) hx hb d_40 (by decide) ?_
      refine W.widen (k := 1 + 25 * (j + 1)) (n := 8 + 1233 * (j + 1)) (by omega) (show 8 + 1233 * j + 10 + 1223 ≤ 8 + 1233 * (j + 1) by omega) ?_
      exact ih (j + 1) H locs ls (by omega) hP hz hS hl
  refine lv_aload_n hx hb d_0 rfl (lv_at hl 0 rfl) ?_
  refine W.objInit hx hb hown (hts _ (cw2_at 0 rfl)) (hts _ (bwW_at 0 rfl)) (hts _ (bwW_at 1 rfl)) rfl (by rw [hml]; exact hl.1) rfl d_1 (by show 1 ≤ 4; omega) (by show 2 * 0 + 0 + 12 ≤ 36 * 4; omega) ?_
  refine W.eq (g2 := F0 m 4 ls []) rfl ?_
  refine lv_aload_n hx hb d_4 rfl (lv_at hl 0 rfl) ?_
  refine lv_bipush (v := 8) hx hb d_5 (by decide) ?_
  refine bw_newq hx hb hown (hts _ (cw2_at 1 rfl)) hK hP hz hS (by show 0 + 1 ≤ 201; omega) (by show 0 + 8 ≤ 9872; omega) d_7 (fun H hP hz hS => ?_)
  refine bw_putF (i := i) (c' := 2) (f := 0) (fs := [.null, .int 0, .int 0]) (v := .ref (B + (i + 1))) hx hb hts hown (by decide) (by decide) hin (hts _ (cw2_at 2 rfl)) rfl rfl rfl rfl (Nat.le_of_ble_eq_true rfl) hK (by omega) ((updE_n (by omega)).trans updE_s) hP hz hS d_10 (fun H locs hP hz hS => ?_)
  rw [updE_cc (by omega)] at hP
  have hk0 : kpt B i 0 = fun _ => none := by
    funext q
    unfold kpt
    rw [if_neg (by omega)]
  refine lv_iconst (v := nI 0) hx hb d_13 (by decide) ?_
  refine lv_istore_n (lv' := [(1, .int (nI 0)), (0, .ref (B + i))]) hx hb d_14 rfl hl (by decide) rfl (fun ls hl => ?_)
  refine W.widen (k := 1 + 25 * 0) (n := 8 + 1233 * 0) (Nat.le_of_ble_eq_true rfl) (Nat.le_of_ble_eq_true rfl) ?_
  refine loop 8 0 H locs ls rfl ?_ hz hS hl
  unfold hisF
  rw [hk0]
  exact hP
end CT
