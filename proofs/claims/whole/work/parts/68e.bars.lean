section CT
variable {B i : Nat} {D : va_G} {G : GG} {E T : Nat → va_E}
/-! the constructor of class 0 -/
def cw0 : List Jvm.Cond := [.methodLink (clsN 0) 3 objectInit, .classLink (clsN 0) 9 (clsN 7), .methodLink (clsN 0) 11 yX7_init, .code yX7_init cX7_init 2 none, .instanceMethod yX7_init, .fieldLink (clsN 0) 14 (clsN 0) (TT 0 1).2.1 (TT 0 1).2.2.1, .fieldLink (clsN 0) 20 (clsN 0) (TT 0 2).2.1 (TT 0 2).2.2.1, .fieldLink (clsN 0) 23 (clsN 0) (TT 0 3).2.1 (TT 0 3).2.2.1, .fieldLink (clsN 0) 26 (clsN 0) (TT 0 4).2.1 (TT 0 4).2.2.1, .fieldLink (clsN 0) 29 (clsN 0) (TT 0 0).2.1 (TT 0 0).2.2.1]
theorem cw0_at {w : Jvm.Cond} (i : Nat) (h : cw0[i]? = some w) : w ∈ lwG := by
  have key : (cw0.all (fun w => decide (w ∈ lw_tbl) && goodWord w)) = true := by decide +kernel
  have h := List.all_eq_true.mp key w (List.mem_of_getElem? h)
  simp only [Bool.and_eq_true, decide_eq_true_eq] at h
  exact List.mem_filter.mpr h
theorem dcw0_0 : decode cX0_init 0 = .ok (.aload_n 0, 1) ∧ decode cX0_init 1 = .ok (.invokespecial 3, 3) ∧ decode cX0_init 4 = .ok (.aload_n 0, 1) ∧ decode cX0_init 5 = .ok (.new 9, 3) ∧ decode cX0_init 8 = .ok (.dup, 1) ∧ decode cX0_init 9 = .ok (.bipush 26, 2) ∧ decode cX0_init 11 = .ok (.invokespecial 11, 3) ∧ decode cX0_init 14 = .ok (.putfield 14, 3) ∧ decode cX0_init 17 = .ok (.aload_n 0, 1) ∧ decode cX0_init 18 = .ok (.new 9, 3) := by decide +kernel
theorem dcw0_1 : decode cX0_init 21 = .ok (.dup, 1) ∧ decode cX0_init 22 = .ok (.bipush 26, 2) ∧ decode cX0_init 24 = .ok (.invokespecial 11, 3) ∧ decode cX0_init 27 = .ok (.putfield 20, 3) ∧ decode cX0_init 30 = .ok (.aload_n 0, 1) ∧ decode cX0_init 31 = .ok (.new 9, 3) ∧ decode cX0_init 34 = .ok (.dup, 1) ∧ decode cX0_init 35 = .ok (.bipush 26, 2) ∧ decode cX0_init 37 = .ok (.invokespecial 11, 3) ∧ decode cX0_init 40 = .ok (.putfield 23, 3) := by decide +kernel
theorem dcw0_2 : decode cX0_init 43 = .ok (.aload_n 0, 1) ∧ decode cX0_init 44 = .ok (.new 9, 3) ∧ decode cX0_init 47 = .ok (.dup, 1) ∧ decode cX0_init 48 = .ok (.bipush 26, 2) ∧ decode cX0_init 50 = .ok (.invokespecial 11, 3) ∧ decode cX0_init 53 = .ok (.putfield 26, 3) ∧ decode cX0_init 56 = .ok (.aload_n 0, 1) ∧ decode cX0_init 57 = .ok (.aload_n 1, 1) ∧ decode cX0_init 58 = .ok (.putfield 29, 3) ∧ decode cX0_init 61 = .ok (.return_, 1) := by decide +kernel
set_option maxHeartbeats 1000000 in
theorem ct_bars (l : Launch) {st : Nat} (hT : BarH B G T i st) (hE : E i = .inr (0, dfl 0)) : CTM l B D G yX0_init cX0_init 2 2 8 108 i 9 [.ref (B + st)] T E := by
  obtain ⟨d_0, d_1, d_4, d_5, d_8, d_9, d_11, d_14, d_17, d_18⟩ := dcw0_0
  obtain ⟨d_21, d_22, d_24, d_27, d_30, d_31, d_34, d_35, d_37, d_40⟩ := dcw0_1
  obtain ⟨d_43, d_44, d_47, d_48, d_50, d_53, d_56, d_57, d_58, d_61⟩ := dcw0_2
  refine Met.ofW (cc := cX0_init) (maxL := 2) (ret := none) (by decide) rfl ?_
  intro p e s m args below meth c s₁ Bd hml hv
  obtain ⟨rfl, hsz, hP0, hK⟩ := hv
  have hx := Bd.exec
  have hb := Bd.bytes
  have hr := Bd.returns
  have hlocks := Bd.notSynchronized
  have hin : meth.name = "<init>" := (name_of_methodNamed Bd.named Bd.method).1
  have hts0 := atoms_spec (ws := Jvm.Cond.code yX0_init cX0_init 2 none :: lwG) Bd.pre
  have hts : ∀ w ∈ lwG, w.before ([.ref (B + i), .ref (B + st)] : List Value).toArray s = true := fun w hw => hts0 w (List.mem_cons_of_mem _ hw)
  have hown : s.vm.findClass (clsN 0) = some m.cls := findClass_of_methodNamed Bd.named
  have hBs : B ≤ s.heap.size := by omega
  have hS : va_S (ab B) s.heap s.heap [] := va_S.rf
  have hz : s.heap.size = B + (i + 1) := hsz
  have hP : va_P D vwCl (PW B (i + 1) (updE (mixE i E T) i (.inr (0, [.null, .null, .null, .null, .null, .int 0, .int 0, .int 0, .int 0])))) s.heap := by
    rw [← PW_congr (E := E)]
    · exact hP0
    · intro j hj
      by_cases q : j = i
      · rw [q, updE_s, hE]; rfl
      · rw [updE_n q, mixE_l (by omega)]
  have hl := lv_entry ([.ref (B + i), .ref (B + st)]) (n := 2) (Nat.le_of_ble_eq_true rfl)
  rw [lg_entry_eq]
  generalize (lg_sl ([.ref (B + i), .ref (B + st)]) ++ List.replicate (2 - (lg_sl ([.ref (B + i), .ref (B + st)])).length) Slot.unset).toArray = ls at hl ⊢
  have hl : lv_has ls 2 [(0, .ref (B + i)), (1, .ref (B + st))] := hl
  refine lv_aload_n hx hb d_0 rfl (lv_at hl 0 rfl) ?_
  refine W.objInit hx hb hown (hts _ (cw0_at 0 rfl)) (hts _ (bwW_at 0 rfl)) (hts _ (bwW_at 1 rfl)) rfl (by rw [hml]; exact hl.1) rfl d_1 (by show 1 ≤ 2; omega) (by show 2 * 0 + 0 + 12 ≤ 36 * 2; omega) ?_
  refine W.eq (g2 := F0 m 4 ls []) rfl ?_
  refine lv_aload_n hx hb d_4 rfl (lv_at hl 0 rfl) ?_
  refine bw_new (c' := 7) hx hb hts hown (by decide) (hts _ (cw0_at 1 rfl)) hK hP hz hS hBs (by show 0 + 1 ≤ 8; omega) (by show 0 + 1 ≤ 108; omega) d_5 (fun H hP hz hS => ?_)
  refine W.widen (k := 1) (n := 1) (by omega) (show 0 + nF 7 ≤ 1 from Nat.le_of_ble_eq_true rfl) ?_
  refine lv_dup hx hb d_8 rfl ?_
  refine lv_bipush (v := nI 26) hx hb d_9 (by decide) ?_
  refine bw_call (k := i + 1) (n := 1) (cnt := 2) (as := [.int (nI 26)]) (rest := [.ref (B + (i + 1)), .ref (B + i)]) hx hb hml hl.1 hts hown (fun j hj => by rw [updE_n (by omega), mixE_g (by omega)]) (ct_row l hT.2.1 (by omega) (by omega) updE_s) (cw0_at 3 rfl) (clsW 7 (by decide)).2 (hts _ (cw0_at 2 rfl)) (cw0_at 4 rfl) rfl (by decide +kernel) rfl (by decide) (by show 1 + 1 ≤ 2; omega) (by show 36 * (1 + 1) ≤ 36 * 2; omega) hK hP hz hS (by show 1 + 1 ≤ 8; omega) (by show 1 + 26 ≤ 108; omega) (Nat.le_of_ble_eq_true rfl) d_11 (fun H locs hP hz hS => ?_)
  refine W.widen (k := 2) (n := 27) (by omega) (by omega) ?_
  replace hP : va_P D vwCl (PW B (i + 3) (updE (mixE i E T) i (.inr (0, [.null, .null, .null, .null, .null, .int 0, .int 0, .int 0, .int 0])))) H := hP
  replace hz : H.size = B + (i + 3) := hz
  refine bw_putF (c' := 0) (f := 1) (fs := [.null, .null, .null, .null, .null, .int 0, .int 0, .int 0, .int 0]) (v := .ref (B + (i + 1))) hx hb hts hown (by decide) (by decide) hin (hts _ (cw0_at 5 rfl)) rfl rfl rfl rfl (Nat.le_of_ble_eq_true rfl) hK (by omega) updE_s hP hz hS d_14 (fun H locs hP hz hS => ?_)
  rw [updE_updE] at hP
  replace hP : va_P D vwCl (PW B (i + 3) (updE (mixE i E T) i (.inr (0, [.null, .ref (B + (i + 1)), .null, .null, .null, .int 0, .int 0, .int 0, .int 0])))) H := hP
  replace hz : H.size = B + (i + 3) := hz
  refine lv_aload_n hx hb d_17 rfl (lv_at hl 0 rfl) ?_
  refine bw_new (c' := 7) hx hb hts hown (by decide) (hts _ (cw0_at 1 rfl)) hK hP hz hS hBs (by show 2 + 1 ≤ 8; omega) (by show 27 + 1 ≤ 108; omega) d_18 (fun H hP hz hS => ?_)
  refine W.widen (k := 3) (n := 28) (by omega) (show 27 + nF 7 ≤ 28 from Nat.le_of_ble_eq_true rfl) ?_
  refine lv_dup hx hb d_21 rfl ?_
  refine lv_bipush (v := nI 26) hx hb d_22 (by decide) ?_
  refine bw_call (k := i + 3) (n := 1) (cnt := 2) (as := [.int (nI 26)]) (rest := [.ref (B + (i + 3)), .ref (B + i)]) hx hb hml hl.1 hts hown (fun j hj => by rw [updE_n (by omega), mixE_g (by omega)]) (ct_row l hT.2.2.1 (by omega) (by omega) updE_s) (cw0_at 3 rfl) (clsW 7 (by decide)).2 (hts _ (cw0_at 2 rfl)) (cw0_at 4 rfl) rfl (by decide +kernel) rfl (by decide) (by show 1 + 1 ≤ 2; omega) (by show 36 * (1 + 1) ≤ 36 * 2; omega) hK hP hz hS (by show 3 + 1 ≤ 8; omega) (by show 28 + 26 ≤ 108; omega) (Nat.le_of_ble_eq_true rfl) d_24 (fun H locs hP hz hS => ?_)
  refine W.widen (k := 4) (n := 54) (by omega) (by omega) ?_
  replace hP : va_P D vwCl (PW B (i + 5) (updE (mixE i E T) i (.inr (0, [.null, .ref (B + (i + 1)), .null, .null, .null, .int 0, .int 0, .int 0, .int 0])))) H := hP
  replace hz : H.size = B + (i + 5) := hz
  refine bw_putF (c' := 0) (f := 2) (fs := [.null, .ref (B + (i + 1)), .null, .null, .null, .int 0, .int 0, .int 0, .int 0]) (v := .ref (B + (i + 3))) hx hb hts hown (by decide) (by decide) hin (hts _ (cw0_at 6 rfl)) rfl rfl rfl rfl (Nat.le_of_ble_eq_true rfl) hK (by omega) updE_s hP hz hS d_27 (fun H locs hP hz hS => ?_)
  rw [updE_updE] at hP
  replace hP : va_P D vwCl (PW B (i + 5) (updE (mixE i E T) i (.inr (0, [.null, .ref (B + (i + 1)), .ref (B + (i + 3)), .null, .null, .int 0, .int 0, .int 0, .int 0])))) H := hP
  replace hz : H.size = B + (i + 5) := hz
  refine lv_aload_n hx hb d_30 rfl (lv_at hl 0 rfl) ?_
  refine bw_new (c' := 7) hx hb hts hown (by decide) (hts _ (cw0_at 1 rfl)) hK hP hz hS hBs (by show 4 + 1 ≤ 8; omega) (by show 54 + 1 ≤ 108; omega) d_31 (fun H hP hz hS => ?_)
  refine W.widen (k := 5) (n := 55) (by omega) (show 54 + nF 7 ≤ 55 from Nat.le_of_ble_eq_true rfl) ?_
  refine lv_dup hx hb d_34 rfl ?_
  refine lv_bipush (v := nI 26) hx hb d_35 (by decide) ?_
  refine bw_call (k := i + 5) (n := 1) (cnt := 2) (as := [.int (nI 26)]) (rest := [.ref (B + (i + 5)), .ref (B + i)]) hx hb hml hl.1 hts hown (fun j hj => by rw [updE_n (by omega), mixE_g (by omega)]) (ct_row l hT.2.2.2.1 (by omega) (by omega) updE_s) (cw0_at 3 rfl) (clsW 7 (by decide)).2 (hts _ (cw0_at 2 rfl)) (cw0_at 4 rfl) rfl (by decide +kernel) rfl (by decide) (by show 1 + 1 ≤ 2; omega) (by show 36 * (1 + 1) ≤ 36 * 2; omega) hK hP hz hS (by show 5 + 1 ≤ 8; omega) (by show 55 + 26 ≤ 108; omega) (Nat.le_of_ble_eq_true rfl) d_37 (fun H locs hP hz hS => ?_)
  refine W.widen (k := 6) (n := 81) (by omega) (by omega) ?_
  replace hP : va_P D vwCl (PW B (i + 7) (updE (mixE i E T) i (.inr (0, [.null, .ref (B + (i + 1)), .ref (B + (i + 3)), .null, .null, .int 0, .int 0, .int 0, .int 0])))) H := hP
  replace hz : H.size = B + (i + 7) := hz
  refine bw_putF (c' := 0) (f := 3) (fs := [.null, .ref (B + (i + 1)), .ref (B + (i + 3)), .null, .null, .int 0, .int 0, .int 0, .int 0]) (v := .ref (B + (i + 5))) hx hb hts hown (by decide) (by decide) hin (hts _ (cw0_at 7 rfl)) rfl rfl rfl rfl (Nat.le_of_ble_eq_true rfl) hK (by omega) updE_s hP hz hS d_40 (fun H locs hP hz hS => ?_)
  rw [updE_updE] at hP
  replace hP : va_P D vwCl (PW B (i + 7) (updE (mixE i E T) i (.inr (0, [.null, .ref (B + (i + 1)), .ref (B + (i + 3)), .ref (B + (i + 5)), .null, .int 0, .int 0, .int 0, .int 0])))) H := hP
  replace hz : H.size = B + (i + 7) := hz
  refine lv_aload_n hx hb d_43 rfl (lv_at hl 0 rfl) ?_
  refine bw_new (c' := 7) hx hb hts hown (by decide) (hts _ (cw0_at 1 rfl)) hK hP hz hS hBs (by show 6 + 1 ≤ 8; omega) (by show 81 + 1 ≤ 108; omega) d_44 (fun H hP hz hS => ?_)
  refine W.widen (k := 7) (n := 82) (by omega) (show 81 + nF 7 ≤ 82 from Nat.le_of_ble_eq_true rfl) ?_
  refine lv_dup hx hb d_47 rfl ?_
  refine lv_bipush (v := nI 26) hx hb d_48 (by decide) ?_
  refine bw_call (k := i + 7) (n := 1) (cnt := 2) (as := [.int (nI 26)]) (rest := [.ref (B + (i + 7)), .ref (B + i)]) hx hb hml hl.1 hts hown (fun j hj => by rw [updE_n (by omega), mixE_g (by omega)]) (ct_row l hT.2.2.2.2 (by omega) (by omega) updE_s) (cw0_at 3 rfl) (clsW 7 (by decide)).2 (hts _ (cw0_at 2 rfl)) (cw0_at 4 rfl) rfl (by decide +kernel) rfl (by decide) (by show 1 + 1 ≤ 2; omega) (by show 36 * (1 + 1) ≤ 36 * 2; omega) hK hP hz hS (by show 7 + 1 ≤ 8; omega) (by show 82 + 26 ≤ 108; omega) (Nat.le_of_ble_eq_true rfl) d_50 (fun H locs hP hz hS => ?_)
  refine W.widen (k := 8) (n := 108) (by omega) (by omega) ?_
  replace hP : va_P D vwCl (PW B (i + 9) (updE (mixE i E T) i (.inr (0, [.null, .ref (B + (i + 1)), .ref (B + (i + 3)), .ref (B + (i + 5)), .null, .int 0, .int 0, .int 0, .int 0])))) H := hP
  replace hz : H.size = B + (i + 9) := hz
  refine bw_putF (c' := 0) (f := 4) (fs := [.null, .ref (B + (i + 1)), .ref (B + (i + 3)), .ref (B + (i + 5)), .null, .int 0, .int 0, .int 0, .int 0]) (v := .ref (B + (i + 7))) hx hb hts hown (by decide) (by decide) hin (hts _ (cw0_at 8 rfl)) rfl rfl rfl rfl (Nat.le_of_ble_eq_true rfl) hK (by omega) updE_s hP hz hS d_53 (fun H locs hP hz hS => ?_)
  rw [updE_updE] at hP
  replace hP : va_P D vwCl (PW B (i + 9) (updE (mixE i E T) i (.inr (0, [.null, .ref (B + (i + 1)), .ref (B + (i + 3)), .ref (B + (i + 5)), .ref (B + (i + 7)), .int 0, .int 0, .int 0, .int 0])))) H := hP
  replace hz : H.size = B + (i + 9) := hz
  refine lv_aload_n hx hb d_56 rfl (lv_at hl 0 rfl) ?_
  refine lv_aload_n hx hb d_57 rfl (lv_at hl 1 rfl) ?_
  refine bw_putF (c' := 0) (f := 0) (fs := [.null, .ref (B + (i + 1)), .ref (B + (i + 3)), .ref (B + (i + 5)), .ref (B + (i + 7)), .int 0, .int 0, .int 0, .int 0]) (v := .ref (B + st)) hx hb hts hown (by decide) (by decide) hin (hts _ (cw0_at 9 rfl)) rfl rfl rfl rfl (Nat.le_of_ble_eq_true rfl) hK (by omega) updE_s hP hz hS d_58 (fun H locs hP hz hS => ?_)
  rw [updE_updE] at hP
  replace hP : va_P D vwCl (PW B (i + 9) (updE (mixE i E T) i (.inr (0, [.ref (B + st), .ref (B + (i + 1)), .ref (B + (i + 3)), .ref (B + (i + 5)), .ref (B + (i + 7)), .int 0, .int 0, .int 0, .int 0])))) H := hP
  replace hz : H.size = B + (i + 9) := hz
  rw [updE_id ((mixE_g (Nat.le_refl i)).trans (hT.1))] at hP
  exact W.vret hx hb hr (fun t ht hW => ⟨rfl, by rw [ht]; exact hz, by rw [ht]; exact hP, hS.F ht⟩) hS.2.2 d_61 hlocks
end CT
