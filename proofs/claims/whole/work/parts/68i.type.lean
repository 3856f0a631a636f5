section CT
variable {B i : Nat} {D : va_G} {G : GG} {E T : Nat → va_E}
/-! the constructor of class 9 -/
def cw9 : List Jvm.Cond := [.methodLink (clsN 9) 1 objectInit, .classLink (clsN 9) 7 (clsN 7), .methodLink (clsN 9) 11 yX7_init, .code yX7_init cX7_init 2 none, .instanceMethod yX7_init, .fieldLink (clsN 9) 14 (clsN 9) (TT 9 0).2.1 (TT 9 0).2.2.1, .classLink (clsN 9) 18 (clsN 3), .code yX3_init cX3_init 1 none, .instanceMethod yX3_init, .fieldLink (clsN 9) 21 (clsN 9) (TT 9 3).2.1 (TT 9 3).2.2.1, .fieldLink (clsN 9) 25 (clsN 9) (TT 9 4).2.1 (TT 9 4).2.2.1, .classLink (clsN 9) 28 (clsN 5), .methodLink (clsN 9) 30 yX5_init, .code yX5_init cX5_init 3 none, .instanceMethod yX5_init, .fieldLink (clsN 9) 33 (clsN 9) (TT 9 5).2.1 (TT 9 5).2.2.1, .classLink (clsN 9) 37 (clsN 2), .methodLink (clsN 9) 39 yX2_init, .code yX2_init cX2_init 2 none, .instanceMethod yX2_init, .fieldLink (clsN 9) 40 (clsN 9) (TT 9 6).2.1 (TT 9 6).2.2.1, .classLink (clsN 9) 44 (clsN 8), .code yX8_init cX8_init 1 none, .instanceMethod yX8_init, .fieldLink (clsN 9) 47 (clsN 9) (TT 9 7).2.1 (TT 9 7).2.2.1, .fieldLink (clsN 9) 51 (clsN 9) (TT 9 8).2.1 (TT 9 8).2.2.1, .fieldLink (clsN 9) 54 (clsN 9) (TT 9 9).2.1 (TT 9 9).2.2.1, .fieldLink (clsN 9) 57 (clsN 9) (TT 9 11).2.1 (TT 9 11).2.2.1]
theorem cw9_at {w : Jvm.Cond} (i : Nat) (h : cw9[i]? = some w) : w ∈ lwG := by
  have key : (cw9.all (fun w => decide (w ∈ lw_tbl) && goodWord w)) = true := by decide +kernel
  have h := List.all_eq_true.mp key w (List.mem_of_getElem? h)
  simp only [Bool.and_eq_true, decide_eq_true_eq] at h
  exact List.mem_filter.mpr h
theorem dcw9_0 : decode cX9_init 0 = .ok (.aload_n 0, 1) ∧ decode cX9_init 1 = .ok (.invokespecial 1, 3) ∧ decode cX9_init 4 = .ok (.aload_n 0, 1) ∧ decode cX9_init 5 = .ok (.new 7, 3) ∧ decode cX9_init 8 = .ok (.dup, 1) ∧ decode cX9_init 9 = .ok (.sipush 500, 3) ∧ decode cX9_init 12 = .ok (.invokespecial 11, 3) ∧ decode cX9_init 15 = .ok (.putfield 14, 3) ∧ decode cX9_init 18 = .ok (.aload_n 0, 1) ∧ decode cX9_init 19 = .ok (.new 18, 3) := by decide +kernel
theorem dcw9_1 : decode cX9_init 22 = .ok (.dup, 1) ∧ decode cX9_init 23 = .ok (.invokespecial 20, 3) ∧ decode cX9_init 26 = .ok (.putfield 21, 3) ∧ decode cX9_init 29 = .ok (.aload_n 0, 1) ∧ decode cX9_init 30 = .ok (.new 18, 3) ∧ decode cX9_init 33 = .ok (.dup, 1) ∧ decode cX9_init 34 = .ok (.invokespecial 20, 3) ∧ decode cX9_init 37 = .ok (.putfield 25, 3) ∧ decode cX9_init 40 = .ok (.aload_n 0, 1) ∧ decode cX9_init 41 = .ok (.new 28, 3) := by decide +kernel
theorem dcw9_2 : decode cX9_init 44 = .ok (.dup, 1) ∧ decode cX9_init 45 = .ok (.aload_n 0, 1) ∧ decode cX9_init 46 = .ok (.getfield 14, 3) ∧ decode cX9_init 49 = .ok (.aload_n 0, 1) ∧ decode cX9_init 50 = .ok (.getfield 25, 3) ∧ decode cX9_init 53 = .ok (.invokespecial 30, 3) ∧ decode cX9_init 56 = .ok (.putfield 33, 3) ∧ decode cX9_init 59 = .ok (.aload_n 0, 1) ∧ decode cX9_init 60 = .ok (.new 37, 3) ∧ decode cX9_init 63 = .ok (.dup, 1) := by decide +kernel
theorem dcw9_3 : decode cX9_init 64 = .ok (.invokespecial 39, 3) ∧ decode cX9_init 67 = .ok (.putfield 40, 3) ∧ decode cX9_init 70 = .ok (.aload_n 0, 1) ∧ decode cX9_init 71 = .ok (.new 44, 3) ∧ decode cX9_init 74 = .ok (.dup, 1) ∧ decode cX9_init 75 = .ok (.invokespecial 46, 3) ∧ decode cX9_init 78 = .ok (.putfield 47, 3) ∧ decode cX9_init 81 = .ok (.aload_n 0, 1) ∧ decode cX9_init 82 = .ok (.new 44, 3) ∧ decode cX9_init 85 = .ok (.dup, 1) := by decide +kernel
theorem dcw9_4 : decode cX9_init 86 = .ok (.invokespecial 46, 3) ∧ decode cX9_init 89 = .ok (.putfield 51, 3) ∧ decode cX9_init 92 = .ok (.aload_n 0, 1) ∧ decode cX9_init 93 = .ok (.new 7, 3) ∧ decode cX9_init 96 = .ok (.dup, 1) ∧ decode cX9_init 97 = .ok (.bipush 40, 2) ∧ decode cX9_init 99 = .ok (.invokespecial 11, 3) ∧ decode cX9_init 102 = .ok (.putfield 54, 3) ∧ decode cX9_init 105 = .ok (.aload_n 0, 1) ∧ decode cX9_init 106 = .ok (.new 7, 3) := by decide +kernel
theorem dcw9_5 : decode cX9_init 109 = .ok (.dup, 1) ∧ decode cX9_init 110 = .ok (.bipush 41, 2) ∧ decode cX9_init 112 = .ok (.invokespecial 11, 3) ∧ decode cX9_init 115 = .ok (.putfield 57, 3) ∧ decode cX9_init 118 = .ok (.return_, 1) := by decide +kernel
set_option maxHeartbeats 1000000 in
theorem ct_type (l : Launch) (hT : TypH B G T i) (hE : E i = .inr (9, dfl 9)) : CTM l B D G yX9_init cX9_init 1 5 311 15404 i 312 [] T E := by
  obtain ⟨d_0, d_1, d_4, d_5, d_8, d_9, d_12, d_15, d_18, d_19⟩ := dcw9_0
  obtain ⟨d_22, d_23, d_26, d_29, d_30, d_33, d_34, d_37, d_40, d_41⟩ := dcw9_1
  obtain ⟨d_44, d_45, d_46, d_49, d_50, d_53, d_56, d_59, d_60, d_63⟩ := dcw9_2
  obtain ⟨d_64, d_67, d_70, d_71, d_74, d_75, d_78, d_81, d_82, d_85⟩ := dcw9_3
  obtain ⟨d_86, d_89, d_92, d_93, d_96, d_97, d_99, d_102, d_105, d_106⟩ := dcw9_4
  obtain ⟨d_109, d_110, d_112, d_115, d_118⟩ := dcw9_5
  refine Met.ofW (cc := cX9_init) (maxL := 1) (ret := none) (by decide) rfl ?_
  intro p e s m args below meth c s₁ Bd hml hv
  obtain ⟨rfl, hsz, hP0, hK⟩ := hv
  have hx := Bd.exec
  have hb := Bd.bytes
  have hr := Bd.returns
  have hlocks := Bd.notSynchronized
  have hin : meth.name = "<init>" := (name_of_methodNamed Bd.named Bd.method).1
  have hts0 := atoms_spec (ws := Jvm.Cond.code yX9_init cX9_init 1 none :: lwG) Bd.pre
  have hts : ∀ w ∈ lwG, w.before ([.ref (B + i)] : List Value).toArray s = true := fun w hw => hts0 w (List.mem_cons_of_mem _ hw)
  have hown : s.vm.findClass (clsN 9) = some m.cls := findClass_of_methodNamed Bd.named
  have hBs : B ≤ s.heap.size := by omega
  have hS : va_S (ab B) s.heap s.heap [] := va_S.rf
  have hz : s.heap.size = B + (i + 1) := hsz
  have hP : va_P D vwCl (PW B (i + 1) (updE (mixE i E T) i (.inr (9, [.null, .int 0, .int 0, .null, .null, .null, .null, .null, .null, .null, .int 0, .null])))) s.heap := by
    rw [← PW_congr (E := E)]
    · exact hP0
    · intro j hj
      by_cases q : j = i
      · rw [q, updE_s, hE]; rfl
      · rw [updE_n q, mixE_l (by omega)]
  have hl := lv_entry ([.ref (B + i)]) (n := 1) (Nat.le_of_ble_eq_true rfl)
  rw [lg_entry_eq]
  generalize (lg_sl ([.ref (B + i)]) ++ List.replicate (1 - (lg_sl ([.ref (B + i)])).length) Slot.unset).toArray = ls at hl ⊢
  have hl : lv_has ls 1 [(0, .ref (B + i))] := hl
  refine lv_aload_n hx hb d_0 rfl (lv_at hl 0 rfl) ?_
  refine W.objInit hx hb hown (hts _ (cw9_at 0 rfl)) (hts _ (bwW_at 0 rfl)) (hts _ (bwW_at 1 rfl)) rfl (by rw [hml]; exact hl.1) rfl d_1 (by show 1 ≤ 5; omega) (by show 2 * 0 + 0 + 12 ≤ 36 * 5; omega) ?_
  refine W.eq (g2 := F0 m 4 ls []) rfl ?_
  refine lv_aload_n hx hb d_4 rfl (lv_at hl 0 rfl) ?_
  refine bw_new (c' := 7) hx hb hts hown (by decide) (hts _ (cw9_at 1 rfl)) hK hP hz hS hBs (by show 0 + 1 ≤ 311; omega) (by show 0 + 1 ≤ 15404; omega) d_5 (fun H hP hz hS => ?_)
  refine W.widen (k := 1) (n := 1) (by omega) (show 0 + nF 7 ≤ 1 from Nat.le_of_ble_eq_true rfl) ?_
  refine lv_dup hx hb d_8 rfl ?_
  refine lv_sipush (v := nI 500) hx hb d_9 (by decide) ?_
  refine bw_call (k := i + 1) (n := 1) (cnt := 2) (as := [.int (nI 500)]) (rest := [.ref (B + (i + 1)), .ref (B + i)]) hx hb hml hl.1 hts hown (fun j hj => by rw [updE_n (by omega), mixE_g (by omega)]) (ct_row l hT.2.1 (by omega) (by omega) updE_s) (cw9_at 3 rfl) (clsW 7 (by decide)).2 (hts _ (cw9_at 2 rfl)) (cw9_at 4 rfl) rfl (by decide +kernel) rfl (by decide) (by show 1 + 1 ≤ 5; omega) (by show 36 * (1 + 1) ≤ 36 * 5; omega) hK hP hz hS (by show 1 + 1 ≤ 311; omega) (by show 1 + 500 ≤ 15404; omega) (Nat.le_of_ble_eq_true rfl) d_12 (fun H locs hP hz hS => ?_)
  refine W.widen (k := 2) (n := 501) (by omega) (by omega) ?_
  replace hP : va_P D vwCl (PW B (i + 3) (updE (mixE i E T) i (.inr (9, [.null, .int 0, .int 0, .null, .null, .null, .null, .null, .null, .null, .int 0, .null])))) H := hP
  replace hz : H.size = B + (i + 3) := hz
  refine bw_putF (c' := 9) (f := 0) (fs := [.null, .int 0, .int 0, .null, .null, .null, .null, .null, .null, .null, .int 0, .null]) (v := .ref (B + (i + 1))) hx hb hts hown (by decide) (by decide) hin (hts _ (cw9_at 5 rfl)) rfl rfl rfl rfl (Nat.le_of_ble_eq_true rfl) hK (by omega) updE_s hP hz hS d_15 (fun H locs hP hz hS => ?_)
  rw [updE_updE] at hP
  replace hP : va_P D vwCl (PW B (i + 3) (updE (mixE i E T) i (.inr (9, [.ref (B + (i + 1)), .int 0, .int 0, .null, .null, .null, .null, .null, .null, .null, .int 0, .null])))) H := hP
  replace hz : H.size = B + (i + 3) := hz
  refine lv_aload_n hx hb d_18 rfl (lv_at hl 0 rfl) ?_
  refine bw_new (c' := 3) hx hb hts hown (by decide) (hts _ (cw9_at 6 rfl)) hK hP hz hS hBs (by show 2 + 1 ≤ 311; omega) (by show 501 + 10 ≤ 15404; omega) d_19 (fun H hP hz hS => ?_)
  refine W.widen (k := 3) (n := 511) (by omega) (show 501 + nF 3 ≤ 511 from Nat.le_of_ble_eq_true rfl) ?_
  refine lv_dup hx hb d_22 rfl ?_
  refine bw_callN (k := i + 3) (n := 0) (cnt := 25) (as := []) (rest := [.ref (B + (i + 3)), .ref (B + i)]) hx hb hml hl.1 hts hown (fun j hj => by rw [updE_n (by omega), mixE_g (by omega)]) (ct_mach l hT.2.2.1 updE_s) (cw9_at 7 rfl) (clsW 3 (by decide)).2 (hK.2.1 _ (List.mem_of_getElem? (i := 0) rfl)) (cw9_at 8 rfl) rfl (by decide +kernel) rfl (by decide) (by show 3 + 1 ≤ 5; omega) (by show 36 * (3 + 1) ≤ 36 * 5; omega) hK hP hz hS (by show 3 + 24 ≤ 311; omega) (by show 511 + 1223 ≤ 15404; omega) (Nat.le_of_ble_eq_true rfl) d_23 (fun H locs hP hz hS => ?_)
  refine W.widen (k := 27) (n := 1734) (by omega) (by omega) ?_
  replace hP : va_P D vwCl (PW B (i + 28) (updE (mixE i E T) i (.inr (9, [.ref (B + (i + 1)), .int 0, .int 0, .null, .null, .null, .null, .null, .null, .null, .int 0, .null])))) H := hP
  replace hz : H.size = B + (i + 28) := hz
  refine bw_putF (c' := 9) (f := 3) (fs := [.ref (B + (i + 1)), .int 0, .int 0, .null, .null, .null, .null, .null, .null, .null, .int 0, .null]) (v := .ref (B + (i + 3))) hx hb hts hown (by decide) (by decide) hin (hts _ (cw9_at 9 rfl)) rfl rfl rfl rfl (Nat.le_of_ble_eq_true rfl) hK (by omega) updE_s hP hz hS d_26 (fun H locs hP hz hS => ?_)
  rw [updE_updE] at hP
  replace hP : va_P D vwCl (PW B (i + 28) (updE (mixE i E T) i (.inr (9, [.ref (B + (i + 1)), .int 0, .int 0, .ref (B + (i + 3)), .null, .null, .null, .null, .null, .null, .int 0, .null])))) H := hP
  replace hz : H.size = B + (i + 28) := hz
  refine lv_aload_n hx hb d_29 rfl (lv_at hl 0 rfl) ?_
  refine bw_new (c' := 3) hx hb hts hown (by decide) (hts _ (cw9_at 6 rfl)) hK hP hz hS hBs (by show 27 + 1 ≤ 311; omega) (by show 1734 + 10 ≤ 15404; omega) d_30 (fun H hP hz hS => ?_)
  refine W.widen (k := 28) (n := 1744) (by omega) (show 1734 + nF 3 ≤ 1744 from Nat.le_of_ble_eq_true rfl) ?_
  refine lv_dup hx hb d_33 rfl ?_
  refine bw_callN (k := i + 28) (n := 0) (cnt := 25) (as := []) (rest := [.ref (B + (i + 28)), .ref (B + i)]) hx hb hml hl.1 hts hown (fun j hj => by rw [updE_n (by omega), mixE_g (by omega)]) (ct_mach l hT.2.2.2.1 updE_s) (cw9_at 7 rfl) (clsW 3 (by decide)).2 (hK.2.1 _ (List.mem_of_getElem? (i := 0) rfl)) (cw9_at 8 rfl) rfl (by decide +kernel) rfl (by decide) (by show 3 + 1 ≤ 5; omega) (by show 36 * (3 + 1) ≤ 36 * 5; omega) hK hP hz hS (by show 28 + 24 ≤ 311; omega) (by show 1744 + 1223 ≤ 15404; omega) (Nat.le_of_ble_eq_true rfl) d_34 (fun H locs hP hz hS => ?_)
  refine W.widen (k := 52) (n := 2967) (by omega) (by omega) ?_
  replace hP : va_P D vwCl (PW B (i + 53) (updE (mixE i E T) i (.inr (9, [.ref (B + (i + 1)), .int 0, .int 0, .ref (B + (i + 3)), .null, .null, .null, .null, .null, .null, .int 0, .null])))) H := hP
  replace hz : H.size = B + (i + 53) := hz
  refine bw_putF (c' := 9) (f := 4) (fs := [.ref (B + (i + 1)), .int 0, .int 0, .ref (B + (i + 3)), .null, .null, .null, .null, .null, .null, .int 0, .null]) (v := .ref (B + (i + 28))) hx hb hts hown (by decide) (by decide) hin (hts _ (cw9_at 10 rfl)) rfl rfl rfl rfl (Nat.le_of_ble_eq_true rfl) hK (by omega) updE_s hP hz hS d_37 (fun H locs hP hz hS => ?_)
  rw [updE_updE] at hP
  replace hP : va_P D vwCl (PW B (i + 53) (updE (mixE i E T) i (.inr (9, [.ref (B + (i + 1)), .int 0, .int 0, .ref (B + (i + 3)), .ref (B + (i + 28)), .null, .null, .null, .null, .null, .int 0, .null])))) H := hP
  replace hz : H.size = B + (i + 53) := hz
  refine lv_aload_n hx hb d_40 rfl (lv_at hl 0 rfl) ?_
  refine bw_new (c' := 5) hx hb hts hown (by decide) (hts _ (cw9_at 11 rfl)) hK hP hz hS hBs (by show 52 + 1 ≤ 311; omega) (by show 2967 + 9 ≤ 15404; omega) d_41 (fun H hP hz hS => ?_)
  refine W.widen (k := 53) (n := 2976) (by omega) (show 2967 + nF 5 ≤ 2976 from Nat.le_of_ble_eq_true rfl) ?_
  refine lv_dup hx hb d_44 rfl ?_
  refine lv_aload_n hx hb d_45 rfl (lv_at hl 0 rfl) ?_
  refine bw_get (k := i + 54) (c' := 9) (f := 0) (fs := [.ref (B + (i + 1)), .int 0, .int 0, .ref (B + (i + 3)), .ref (B + (i + 28)), .null, .null, .null, .null, .null, .int 0, .null]) (v := .ref (B + (i + 1))) hx hb hts hown (by decide) (by decide) (hts _ (cw9_at 5 rfl)) rfl hK (by omega) ((updE_n (by omega)).trans updE_s) hP d_46 ?_
  refine lv_aload_n hx hb d_49 rfl (lv_at hl 0 rfl) ?_
  refine bw_get (k := i + 54) (c' := 9) (f := 4) (fs := [.ref (B + (i + 1)), .int 0, .int 0, .ref (B + (i + 3)), .ref (B + (i + 28)), .null, .null, .null, .null, .null, .int 0, .null]) (v := .ref (B + (i + 28))) hx hb hts hown (by decide) (by decide) (hts _ (cw9_at 10 rfl)) rfl hK (by omega) ((updE_n (by omega)).trans updE_s) hP d_50 ?_
  refine bw_call (k := i + 53) (n := 2) (cnt := 1) (as := [.ref (B + (i + 1)), .ref (B + (i + 28))]) (rest := [.ref (B + (i + 53)), .ref (B + i)]) hx hb hml hl.1 hts hown (fun j hj => by rw [updE_n (by omega), mixE_g (by omega)]) (ct_pars l hT.2.2.2.2.1 updE_s) (cw9_at 13 rfl) (clsW 5 (by decide)).2 (hts _ (cw9_at 12 rfl)) (cw9_at 14 rfl) rfl (by decide +kernel) rfl (by decide) (by show 1 + 1 ≤ 5; omega) (by show 36 * (1 + 1) ≤ 36 * 5; omega) hK hP hz hS (by show 53 + 0 ≤ 311; omega) (by show 2976 + 0 ≤ 15404; omega) (Nat.le_of_ble_eq_true rfl) d_53 (fun H locs hP hz hS => ?_)
  refine W.widen (k := 53) (n := 2976) (by omega) (by omega) ?_
  replace hP : va_P D vwCl (PW B (i + 54) (updE (mixE i E T) i (.inr (9, [.ref (B + (i + 1)), .int 0, .int 0, .ref (B + (i + 3)), .ref (B + (i + 28)), .null, .null, .null, .null, .null, .int 0, .null])))) H := hP
  replace hz : H.size = B + (i + 54) := hz
  refine bw_putF (c' := 9) (f := 5) (fs := [.ref (B + (i + 1)), .int 0, .int 0, .ref (B + (i + 3)), .ref (B + (i + 28)), .null, .null, .null, .null, .null, .int 0, .null]) (v := .ref (B + (i + 53))) hx hb hts hown (by decide) (by decide) hin (hts _ (cw9_at 15 rfl)) rfl rfl rfl rfl (Nat.le_of_ble_eq_true rfl) hK (by omega) updE_s hP hz hS d_56 (fun H locs hP hz hS => ?_)
  rw [updE_updE] at hP
  replace hP : va_P D vwCl (PW B (i + 54) (updE (mixE i E T) i (.inr (9, [.ref (B + (i + 1)), .int 0, .int 0, .ref (B + (i + 3)), .ref (B + (i + 28)), .ref (B + (i + 53)), .null, .null, .null, .null, .int 0, .null])))) H := hP
  replace hz : H.size = B + (i + 54) := hz
  refine lv_aload_n hx hb d_59 rfl (lv_at hl 0 rfl) ?_
  refine bw_new (c' := 2) hx hb hts hown (by decide) (hts _ (cw9_at 16 rfl)) hK hP hz hS hBs (by show 53 + 1 ≤ 311; omega) (by show 2976 + 3 ≤ 15404; omega) d_60 (fun H hP hz hS => ?_)
  refine W.widen (k := 54) (n := 2979) (by omega) (show 2976 + nF 2 ≤ 2979 from Nat.le_of_ble_eq_true rfl) ?_
  refine lv_dup hx hb d_63 rfl ?_
  refine bw_call (k := i + 54) (n := 0) (cnt := 202) (as := []) (rest := [.ref (B + (i + 54)), .ref (B + i)]) hx hb hml hl.1 hts hown (fun j hj => by rw [updE_n (by omega), mixE_g (by omega)]) (ct_hist l hT.2.2.2.2.2.1 updE_s) (cw9_at 18 rfl) (clsW 2 (by decide)).2 (hts _ (cw9_at 17 rfl)) (cw9_at 19 rfl) rfl (by decide +kernel) rfl (by decide) (by show 4 + 1 ≤ 5; omega) (by show 36 * (4 + 1) ≤ 36 * 5; omega) hK hP hz hS (by show 54 + 201 ≤ 311; omega) (by show 2979 + 9872 ≤ 15404; omega) (Nat.le_of_ble_eq_true rfl) d_64 (fun H locs hP hz hS => ?_)
  refine W.widen (k := 255) (n := 12851) (by omega) (by omega) ?_
  replace hP : va_P D vwCl (PW B (i + 256) (updE (mixE i E T) i (.inr (9, [.ref (B + (i + 1)), .int 0, .int 0, .ref (B + (i + 3)), .ref (B + (i + 28)), .ref (B + (i + 53)), .null, .null, .null, .null, .int 0, .null])))) H := hP
  replace hz : H.size = B + (i + 256) := hz
  refine bw_putF (c' := 9) (f := 6) (fs := [.ref (B + (i + 1)), .int 0, .int 0, .ref (B + (i + 3)), .ref (B + (i + 28)), .ref (B + (i + 53)), .null, .null, .null, .null, .int 0, .null]) (v := .ref (B + (i + 54))) hx hb hts hown (by decide) (by decide) hin (hts _ (cw9_at 20 rfl)) rfl rfl rfl rfl (Nat.le_of_ble_eq_true rfl) hK (by omega) updE_s hP hz hS d_67 (fun H locs hP hz hS => ?_)
  rw [updE_updE] at hP
  replace hP : va_P D vwCl (PW B (i + 256) (updE (mixE i E T) i (.inr (9, [.ref (B + (i + 1)), .int 0, .int 0, .ref (B + (i + 3)), .ref (B + (i + 28)), .ref (B + (i + 53)), .ref (B + (i + 54)), .null, .null, .null, .int 0, .null])))) H := hP
  replace hz : H.size = B + (i + 256) := hz
  refine lv_aload_n hx hb d_70 rfl (lv_at hl 0 rfl) ?_
  refine bw_new (c' := 8) hx hb hts hown (by decide) (hts _ (cw9_at 21 rfl)) hK hP hz hS hBs (by show 255 + 1 ≤ 311; omega) (by show 12851 + 2 ≤ 15404; omega) d_71 (fun H hP hz hS => ?_)
  refine W.widen (k := 256) (n := 12853) (by omega) (show 12851 + nF 8 ≤ 12853 from Nat.le_of_ble_eq_true rfl) ?_
  refine lv_dup hx hb d_74 rfl ?_
  refine bw_callN (k := i + 256) (n := 0) (cnt := 26) (as := []) (rest := [.ref (B + (i + 256)), .ref (B + i)]) hx hb hml hl.1 hts hown (fun j hj => by rw [updE_n (by omega), mixE_g (by omega)]) (ct_slot l hT.2.2.2.2.2.2.1 updE_s) (cw9_at 22 rfl) (clsW 8 (by decide)).2 (hK.2.1 _ (List.mem_of_getElem? (i := 2) rfl)) (cw9_at 23 rfl) rfl (by decide +kernel) rfl (by decide) (by show 4 + 1 ≤ 5; omega) (by show 36 * (4 + 1) ≤ 36 * 5; omega) hK hP hz hS (by show 256 + 25 ≤ 311; omega) (by show 12853 + 1233 ≤ 15404; omega) (Nat.le_of_ble_eq_true rfl) d_75 (fun H locs hP hz hS => ?_)
  refine W.widen (k := 281) (n := 14086) (by omega) (by omega) ?_
  replace hP : va_P D vwCl (PW B (i + 282) (updE (mixE i E T) i (.inr (9, [.ref (B + (i + 1)), .int 0, .int 0, .ref (B + (i + 3)), .ref (B + (i + 28)), .ref (B + (i + 53)), .ref (B + (i + 54)), .null, .null, .null, .int 0, .null])))) H := hP
  replace hz : H.size = B + (i + 282) := hz
  refine bw_putF (c' := 9) (f := 7) (fs := [.ref (B + (i + 1)), .int 0, .int 0, .ref (B + (i + 3)), .ref (B + (i + 28)), .ref (B + (i + 53)), .ref (B + (i + 54)), .null, .null, .null, .int 0, .null]) (v := .ref (B + (i + 256))) hx hb hts hown (by decide) (by decide) hin (hts _ (cw9_at 24 rfl)) rfl rfl rfl rfl (Nat.le_of_ble_eq_true rfl) hK (by omega) updE_s hP hz hS d_78 (fun H locs hP hz hS => ?_)
  rw [updE_updE] at hP
  replace hP : va_P D vwCl (PW B (i + 282) (updE (mixE i E T) i (.inr (9, [.ref (B + (i + 1)), .int 0, .int 0, .ref (B + (i + 3)), .ref (B + (i + 28)), .ref (B + (i + 53)), .ref (B + (i + 54)), .ref (B + (i + 256)), .null, .null, .int 0, .null])))) H := hP
  replace hz : H.size = B + (i + 282) := hz
  refine lv_aload_n hx hb d_81 rfl (lv_at hl 0 rfl) ?_
  refine bw_new (c' := 8) hx hb hts hown (by decide) (hts _ (cw9_at 21 rfl)) hK hP hz hS hBs (by show 281 + 1 ≤ 311; omega) (by show 14086 + 2 ≤ 15404; omega) d_82 (fun H hP hz hS => ?_)
  refine W.widen (k := 282) (n := 14088) (by omega) (show 14086 + nF 8 ≤ 14088 from Nat.le_of_ble_eq_true rfl) ?_
  refine lv_dup hx hb d_85 rfl ?_
  refine bw_callN (k := i + 282) (n := 0) (cnt := 26) (as := []) (rest := [.ref (B + (i + 282)), .ref (B + i)]) hx hb hml hl.1 hts hown (fun j hj => by rw [updE_n (by omega), mixE_g (by omega)]) (ct_slot l hT.2.2.2.2.2.2.2.1 updE_s) (cw9_at 22 rfl) (clsW 8 (by decide)).2 (hK.2.1 _ (List.mem_of_getElem? (i := 2) rfl)) (cw9_at 23 rfl) rfl (by decide +kernel) rfl (by decide) (by show 4 + 1 ≤ 5; omega) (by show 36 * (4 + 1) ≤ 36 * 5; omega) hK hP hz hS (by show 282 + 25 ≤ 311; omega) (by show 14088 + 1233 ≤ 15404; omega) (Nat.le_of_ble_eq_true rfl) d_86 (fun H locs hP hz hS => ?_)
  refine W.widen (k := 307) (n := 15321) (by omega) (by omega) ?_
  replace hP : va_P D vwCl (PW B (i + 308) (updE (mixE i E T) i (.inr (9, [.ref (B + (i + 1)), .int 0, .int 0, .ref (B + (i + 3)), .ref (B + (i + 28)), .ref (B + (i + 53)), .ref (B + (i + 54)), .ref (B + (i + 256)), .null, .null, .int 0, .null])))) H := hP
  replace hz : H.size = B + (i + 308) := hz
  refine bw_putF (c' := 9) (f := 8) (fs := [.ref (B + (i + 1)), .int 0, .int 0, .ref (B + (i + 3)), .ref (B + (i + 28)), .ref (B + (i + 53)), .ref (B + (i + 54)), .ref (B + (i + 256)), .null, .null, .int 0, .null]) (v := .ref (B + (i + 282))) hx hb hts hown (by decide) (by decide) hin (hts _ (cw9_at 25 rfl)) rfl rfl rfl rfl (Nat.le_of_ble_eq_true rfl) hK (by omega) updE_s hP hz hS d_89 (fun H locs hP hz hS => ?_)
  rw [updE_updE] at hP
  replace hP : va_P D vwCl (PW B (i + 308) (updE (mixE i E T) i (.inr (9, [.ref (B + (i + 1)), .int 0, .int 0, .ref (B + (i + 3)), .ref (B + (i + 28)), .ref (B + (i + 53)), .ref (B + (i + 54)), .ref (B + (i + 256)), .ref (B + (i + 282)), .null, .int 0, .null])))) H := hP
  replace hz : H.size = B + (i + 308) := hz
  refine lv_aload_n hx hb d_92 rfl (lv_at hl 0 rfl) ?_
  refine bw_new (c' := 7) hx hb hts hown (by decide) (hts _ (cw9_at 1 rfl)) hK hP hz hS hBs (by show 307 + 1 ≤ 311; omega) (by show 15321 + 1 ≤ 15404; omega) d_93 (fun H hP hz hS => ?_)
  refine W.widen (k := 308) (n := 15322) (by omega) (show 15321 + nF 7 ≤ 15322 from Nat.le_of_ble_eq_true rfl) ?_
  refine lv_dup hx hb d_96 rfl ?_
  refine lv_bipush (v := nI 40) hx hb d_97 (by decide) ?_
  refine bw_call (k := i + 308) (n := 1) (cnt := 2) (as := [.int (nI 40)]) (rest := [.ref (B + (i + 308)), .ref (B + i)]) hx hb hml hl.1 hts hown (fun j hj => by rw [updE_n (by omega), mixE_g (by omega)]) (ct_row l hT.2.2.2.2.2.2.2.2.1 (by omega) (by omega) updE_s) (cw9_at 3 rfl) (clsW 7 (by decide)).2 (hts _ (cw9_at 2 rfl)) (cw9_at 4 rfl) rfl (by decide +kernel) rfl (by decide) (by show 1 + 1 ≤ 5; omega) (by show 36 * (1 + 1) ≤ 36 * 5; omega) hK hP hz hS (by show 308 + 1 ≤ 311; omega) (by show 15322 + 40 ≤ 15404; omega) (Nat.le_of_ble_eq_true rfl) d_99 (fun H locs hP hz hS => ?_)
  refine W.widen (k := 309) (n := 15362) (by omega) (by omega) ?_
  replace hP : va_P D vwCl (PW B (i + 310) (updE (mixE i E T) i (.inr (9, [.ref (B + (i + 1)), .int 0, .int 0, .ref (B + (i + 3)), .ref (B + (i + 28)), .ref (B + (i + 53)), .ref (B + (i + 54)), .ref (B + (i + 256)), .ref (B + (i + 282)), .null, .int 0, .null])))) H := hP
  replace hz : H.size = B + (i + 310) := hz
  refine bw_putF (c' := 9) (f := 9) (fs := [.ref (B + (i + 1)), .int 0, .int 0, .ref (B + (i + 3)), .ref (B + (i + 28)), .ref (B + (i + 53)), .ref (B + (i + 54)), .ref (B + (i + 256)), .ref (B + (i + 282)), .null, .int 0, .null]) (v := .ref (B + (i + 308))) hx hb hts hown (by decide) (by decide) hin (hts _ (cw9_at 26 rfl)) rfl rfl rfl rfl (Nat.le_of_ble_eq_true rfl) hK (by omega) updE_s hP hz hS d_102 (fun H locs hP hz hS => ?_)
  rw [updE_updE] at hP
  replace hP : va_P D vwCl (PW B (i + 310) (updE (mixE i E T) i (.inr (9, [.ref (B + (i + 1)), .int 0, .int 0, .ref (B + (i + 3)), .ref (B + (i + 28)), .ref (B + (i + 53)), .ref (B + (i + 54)), .ref (B + (i + 256)), .ref (B + (i + 282)), .ref (B + (i + 308)), .int 0, .null])))) H := hP
  replace hz : H.size = B + (i + 310) := hz
  refine lv_aload_n hx hb d_105 rfl (lv_at hl 0 rfl) ?_
  refine bw_new (c' := 7) hx hb hts hown (by decide) (hts _ (cw9_at 1 rfl)) hK hP hz hS hBs (by show 309 + 1 ≤ 311; omega) (by show 15362 + 1 ≤ 15404; omega) d_106 (fun H hP hz hS => ?_)
  refine W.widen (k := 310) (n := 15363) (by omega) (show 15362 + nF 7 ≤ 15363 from Nat.le_of_ble_eq_true rfl) ?_
  refine lv_dup hx hb d_109 rfl ?_
  refine lv_bipush (v := nI 41) hx hb d_110 (by decide) ?_
  refine bw_call (k := i + 310) (n := 1) (cnt := 2) (as := [.int (nI 41)]) (rest := [.ref (B + (i + 310)), .ref (B + i)]) hx hb hml hl.1 hts hown (fun j hj => by rw [updE_n (by omega), mixE_g (by omega)]) (ct_row l hT.2.2.2.2.2.2.2.2.2 (by omega) (by omega) updE_s) (cw9_at 3 rfl) (clsW 7 (by decide)).2 (hts _ (cw9_at 2 rfl)) (cw9_at 4 rfl) rfl (by decide +kernel) rfl (by decide) (by show 1 + 1 ≤ 5; omega) (by show 36 * (1 + 1) ≤ 36 * 5; omega) hK hP hz hS (by show 310 + 1 ≤ 311; omega) (by show 15363 + 41 ≤ 15404; omega) (Nat.le_of_ble_eq_true rfl) d_112 (fun H locs hP hz hS => ?_)
  refine W.widen (k := 311) (n := 15404) (by omega) (by omega) ?_
  replace hP : va_P D vwCl (PW B (i + 312) (updE (mixE i E T) i (.inr (9, [.ref (B + (i + 1)), .int 0, .int 0, .ref (B + (i + 3)), .ref (B + (i + 28)), .ref (B + (i + 53)), .ref (B + (i + 54)), .ref (B + (i + 256)), .ref (B + (i + 282)), .ref (B + (i + 308)), .int 0, .null])))) H := hP
  replace hz : H.size = B + (i + 312) := hz
  refine bw_putF (c' := 9) (f := 11) (fs := [.ref (B + (i + 1)), .int 0, .int 0, .ref (B + (i + 3)), .ref (B + (i + 28)), .ref (B + (i + 53)), .ref (B + (i + 54)), .ref (B + (i + 256)), .ref (B + (i + 282)), .ref (B + (i + 308)), .int 0, .null]) (v := .ref (B + (i + 310))) hx hb hts hown (by decide) (by decide) hin (hts _ (cw9_at 27 rfl)) rfl rfl rfl rfl (Nat.le_of_ble_eq_true rfl) hK (by omega) updE_s hP hz hS d_115 (fun H locs hP hz hS => ?_)
  rw [updE_updE] at hP
  replace hP : va_P D vwCl (PW B (i + 312) (updE (mixE i E T) i (.inr (9, [.ref (B + (i + 1)), .int 0, .int 0, .ref (B + (i + 3)), .ref (B + (i + 28)), .ref (B + (i + 53)), .ref (B + (i + 54)), .ref (B + (i + 256)), .ref (B + (i + 282)), .ref (B + (i + 308)), .int 0, .ref (B + (i + 310))])))) H := hP
  replace hz : H.size = B + (i + 312) := hz
  rw [updE_id ((mixE_g (Nat.le_refl i)).trans (hT.1))] at hP
  exact W.vret hx hb hr (fun t ht hW => ⟨rfl, by rw [ht]; exact hz, by rw [ht]; exact hP, hS.F ht⟩) hS.2.2 d_118 hlocks
end CT
