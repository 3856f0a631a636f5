section CT
variable {B i : Nat} {D : va_G} {G : GG} {E T : Nat → va_E}
/-! the constructor of class 3 -/
def cw3 : List Jvm.Cond := [.methodLink (clsN 3) 3 objectInit, .classLink (clsN 3) 9 (clsN 7), .methodLink (clsN 3) 11 yX7_init, .code yX7_init cX7_init 2 none, .instanceMethod yX7_init, .fieldLink (clsN 3) 14 (clsN 3) (TT 3 0).2.1 (TT 3 0).2.2.1, .classLink (clsN 3) 20 (clsN 6), .methodLink (clsN 3) 22 yX6_init, .code yX6_init cX6_init 2 none, .instanceMethod yX6_init, .fieldLink (clsN 3) 25 (clsN 3) (TT 3 1).2.1 (TT 3 1).2.2.1, .classLink (clsN 3) 29 (clsN 4), .methodLink (clsN 3) 31 yX4_init, .code yX4_init cX4_init 2 none, .instanceMethod yX4_init, .fieldLink (clsN 3) 32 (clsN 3) (TT 3 2).2.1 (TT 3 2).2.2.1, .classLink (clsN 3) 36 (clsN 1), .methodLink (clsN 3) 38 yX1_init, .code yX1_init cX1_init 2 none, .instanceMethod yX1_init, .fieldLink (clsN 3) 39 (clsN 3) (TT 3 3).2.1 (TT 3 3).2.2.1, .classLink (clsN 3) 43 (clsN 0), .methodLink (clsN 3) 45 yX0_init, .code yX0_init cX0_init 2 none, .instanceMethod yX0_init, .fieldLink (clsN 3) 46 (clsN 3) (TT 3 4).2.1 (TT 3 4).2.2.1, .fieldLink (clsN 3) 50 (clsN 3) (TT 3 5).2.1 (TT 3 5).2.2.1]
theorem cw3_at {w : Jvm.Cond} (i : Nat) (h : cw3[i]? = some w) : w ∈ lwG := by
  have key : (cw3.all (fun w => decide (w ∈ lw_tbl) && goodWord w)) = true := by decide +kernel
  have h := List.all_eq_true.mp key w (List.mem_of_getElem? h)
  simp only [Bool.and_eq_true, decide_eq_true_eq] at h
  exact List.mem_filter.mpr h
theorem dcw3_0 : decode cX3_init 0 = .ok (.aload_n 0, 1) ∧ decode cX3_init 1 = .ok (.invokespecial 3, 3) ∧ decode cX3_init 4 = .ok (.aload_n 0, 1) ∧ decode cX3_init 5 = .ok (.new 9, 3) ∧ decode cX3_init 8 = .ok (.dup, 1) ∧ decode cX3_init 9 = .ok (.bipush 13, 2) ∧ decode cX3_init 11 = .ok (.invokespecial 11, 3) ∧ decode cX3_init 14 = .ok (.putfield 14, 3) ∧ decode cX3_init 17 = .ok (.aload_n 0, 1) ∧ decode cX3_init 18 = .ok (.new 20, 3) := by decide +kernel
theorem dcw3_1 : decode cX3_init 21 = .ok (.dup, 1) ∧ decode cX3_init 22 = .ok (.aload_n 0, 1) ∧ decode cX3_init 23 = .ok (.getfield 14, 3) ∧ decode cX3_init 26 = .ok (.invokespecial 22, 3) ∧ decode cX3_init 29 = .ok (.putfield 25, 3) ∧ decode cX3_init 32 = .ok (.aload_n 0, 1) ∧ decode cX3_init 33 = .ok (.new 29, 3) ∧ decode cX3_init 36 = .ok (.dup, 1) ∧ decode cX3_init 37 = .ok (.aload_n 0, 1) ∧ decode cX3_init 38 = .ok (.getfield 14, 3) := by decide +kernel
theorem dcw3_2 : decode cX3_init 41 = .ok (.invokespecial 31, 3) ∧ decode cX3_init 44 = .ok (.putfield 32, 3) ∧ decode cX3_init 47 = .ok (.aload_n 0, 1) ∧ decode cX3_init 48 = .ok (.new 36, 3) ∧ decode cX3_init 51 = .ok (.dup, 1) ∧ decode cX3_init 52 = .ok (.aload_n 0, 1) ∧ decode cX3_init 53 = .ok (.getfield 14, 3) ∧ decode cX3_init 56 = .ok (.invokespecial 38, 3) ∧ decode cX3_init 59 = .ok (.putfield 39, 3) ∧ decode cX3_init 62 = .ok (.aload_n 0, 1) := by decide +kernel
theorem dcw3_3 : decode cX3_init 63 = .ok (.new 43, 3) ∧ decode cX3_init 66 = .ok (.dup, 1) ∧ decode cX3_init 67 = .ok (.aload_n 0, 1) ∧ decode cX3_init 68 = .ok (.getfield 14, 3) ∧ decode cX3_init 71 = .ok (.invokespecial 45, 3) ∧ decode cX3_init 74 = .ok (.putfield 46, 3) ∧ decode cX3_init 77 = .ok (.aload_n 0, 1) ∧ decode cX3_init 78 = .ok (.new 9, 3) ∧ decode cX3_init 81 = .ok (.dup, 1) ∧ decode cX3_init 82 = .ok (.bipush 14, 2) := by decide +kernel
theorem dcw3_4 : decode cX3_init 84 = .ok (.invokespecial 11, 3) ∧ decode cX3_init 87 = .ok (.putfield 50, 3) ∧ decode cX3_init 90 = .ok (.return_, 1) := by decide +kernel
set_option maxHeartbeats 1000000 in
theorem ct_mach (l : Launch) (hT : MacH B G T i) (hE : E i = .inr (3, dfl 3)) : CTM l B D G yX3_init cX3_init 1 3 24 1223 i 25 [] T E := by
  obtain ⟨d_0, d_1, d_4, d_5, d_8, d_9, d_11, d_14, d_17, d_18⟩ := dcw3_0
  obtain ⟨d_21, d_22, d_23, d_26, d_29, d_32, d_33, d_36, d_37, d_38⟩ := dcw3_1
  obtain ⟨d_41, d_44, d_47, d_48, d_51, d_52, d_53, d_56, d_59, d_62⟩ := dcw3_2
  obtain ⟨d_63, d_66, d_67, d_68, d_71, d_74, d_77, d_78, d_81, d_82⟩ := dcw3_3
  obtain ⟨d_84, d_87, d_90⟩ := dcw3_4
  refine Met.ofW (cc := cX3_init) (maxL := 1) (ret := none) (by decide) rfl ?_
  intro p e s m args below meth c s₁ Bd hml hv
  obtain ⟨rfl, hsz, hP0, hK⟩ := hv
  have hx := Bd.exec
  have hb := Bd.bytes
  have hr := Bd.returns
  have hlocks := Bd.notSynchronized
  have hin : meth.name = "<init>" := (name_of_methodNamed Bd.named Bd.method).1
  have hts0 := atoms_spec (ws := Jvm.Cond.code yX3_init cX3_init 1 none :: lwG) Bd.pre
  have hts : ∀ w ∈ lwG, w.before ([.ref (B + i)] : List Value).toArray s = true := fun w hw => hts0 w (List.mem_cons_of_mem _ hw)
  have hown : s.vm.findClass (clsN 3) = some m.cls := findClass_of_methodNamed Bd.named
  have hBs : B ≤ s.heap.size := by omega
  have hS : va_S (ab B) s.heap s.heap [] := va_S.rf
  have hz : s.heap.size = B + (i + 1) := hsz
  have hP : va_P D vwCl (PW B (i + 1) (updE (mixE i E T) i (.inr (3, [.null, .null, .null, .null, .null, .null, .int 0, .int 0, .int 0, .int 0])))) s.heap := by
    rw [← PW_congr (E := E)]
    · exact hP0
    · intro j hj
      by_cases q : j = i
      · rw [q, updE_s, hE]; rfl
      · rw [updE_n q, mixE_l (by omega)]
  have hl := lv_entry ([.ref (B + i)]) (n := 1) (Nat.le_of_ble_eq_true rfl)
  rw [lg_entry_eq]
  generalize (lg_sl ([.ref (B + i)]) ++ List.replicate (1 - (lg_sl ([.ref (B + i)])).length) Slot.unset).toArray = ls at hl ⊢
  have hl : lv_has ls 1 [(0, .ref (B + i))] := hl
  refine lv_aload_n hx hb d_0 rfl (lv_at hl 0 rfl) ?_
  refine W.objInit hx hb hown (hts _ (cw3_at 0 rfl)) (hts _ (bwW_at 0 rfl)) (hts _ (bwW_at 1 rfl)) rfl (by rw [hml]; exact hl.1) rfl d_1 (by show 1 ≤ 3; omega) (by show 2 * 0 + 0 + 12 ≤ 36 * 3; omega) ?_
  refine W.eq (g2 := F0 m 4 ls []) rfl ?_
  refine lv_aload_n hx hb d_4 rfl (lv_at hl 0 rfl) ?_
  refine bw_new (c' := 7) hx hb hts hown (by decide) (hts _ (cw3_at 1 rfl)) hK hP hz hS hBs (by show 0 + 1 ≤ 24; omega) (by show 0 + 1 ≤ 1223; omega) d_5 (fun H hP hz hS => ?_)
  refine W.widen (k := 1) (n := 1) (by omega) (show 0 + nF 7 ≤ 1 from Nat.le_of_ble_eq_true rfl) ?_
  refine lv_dup hx hb d_8 rfl ?_
  refine lv_bipush (v := nI 13) hx hb d_9 (by decide) ?_
  refine bw_call (k := i + 1) (n := 1) (cnt := 2) (as := [.int (nI 13)]) (rest := [.ref (B + (i + 1)), .ref (B + i)]) hx hb hml hl.1 hts hown (fun j hj => by rw [updE_n (by omega), mixE_g (by omega)]) (ct_row l hT.2.1 (by omega) (by omega) updE_s) (cw3_at 3 rfl) (clsW 7 (by decide)).2 (hts _ (cw3_at 2 rfl)) (cw3_at 4 rfl) rfl (by decide +kernel) rfl (by decide) (by show 1 + 1 ≤ 3; omega) (by show 36 * (1 + 1) ≤ 36 * 3; omega) hK hP hz hS (by show 1 + 1 ≤ 24; omega) (by show 1 + 13 ≤ 1223; omega) (Nat.le_of_ble_eq_true rfl) d_11 (fun H locs hP hz hS => ?_)
  refine W.widen (k := 2) (n := 14) (by omega) (by omega) ?_
  replace hP : va_P D vwCl (PW B (i + 3) (updE (mixE i E T) i (.inr (3, [.null, .null, .null, .null, .null, .null, .int 0, .int 0, .int 0, .int 0])))) H := hP
  replace hz : H.size = B + (i + 3) := hz
  refine bw_putF (c' := 3) (f := 0) (fs := [.null, .null, .null, .null, .null, .null, .int 0, .int 0, .int 0, .int 0]) (v := .ref (B + (i + 1))) hx hb hts hown (by decide) (by decide) hin (hts _ (cw3_at 5 rfl)) rfl rfl rfl rfl (Nat.le_of_ble_eq_true rfl) hK (by omega) updE_s hP hz hS d_14 (fun H locs hP hz hS => ?_)
  rw [updE_updE] at hP
  replace hP : va_P D vwCl (PW B (i + 3) (updE (mixE i E T) i (.inr (3, [.ref (B + (i + 1)), .null, .null, .null, .null, .null, .int 0, .int 0, .int 0, .int 0])))) H := hP
  replace hz : H.size = B + (i + 3) := hz
  refine lv_aload_n hx hb d_17 rfl (lv_at hl 0 rfl) ?_
  refine bw_new (c' := 6) hx hb hts hown (by decide) (hts _ (cw3_at 6 rfl)) hK hP hz hS hBs (by show 2 + 1 ≤ 24; omega) (by show 14 + 5 ≤ 1223; omega) d_18 (fun H hP hz hS => ?_)
  refine W.widen (k := 3) (n := 19) (by omega) (show 14 + nF 6 ≤ 19 from Nat.le_of_ble_eq_true rfl) ?_
  refine lv_dup hx hb d_21 rfl ?_
  refine lv_aload_n hx hb d_22 rfl (lv_at hl 0 rfl) ?_
  refine bw_get (k := i + 4) (c' := 3) (f := 0) (fs := [.ref (B + (i + 1)), .null, .null, .null, .null, .null, .int 0, .int 0, .int 0, .int 0]) (v := .ref (B + (i + 1))) hx hb hts hown (by decide) (by decide) (hts _ (cw3_at 5 rfl)) rfl hK (by omega) ((updE_n (by omega)).trans updE_s) hP d_23 ?_
  refine bw_call (k := i + 3) (n := 1) (cnt := 3) (as := [.ref (B + (i + 1))]) (rest := [.ref (B + (i + 3)), .ref (B + i)]) hx hb hml hl.1 hts hown (fun j hj => by rw [updE_n (by omega), mixE_g (by omega)]) (ct_ribb l hT.2.2.1 updE_s) (cw3_at 8 rfl) (clsW 6 (by decide)).2 (hts _ (cw3_at 7 rfl)) (cw3_at 9 rfl) rfl (by decide +kernel) rfl (by decide) (by show 2 + 1 ≤ 3; omega) (by show 36 * (2 + 1) ≤ 36 * 3; omega) hK hP hz hS (by show 3 + 2 ≤ 24; omega) (by show 19 + 61 ≤ 1223; omega) (Nat.le_of_ble_eq_true rfl) d_26 (fun H locs hP hz hS => ?_)
  refine W.widen (k := 5) (n := 80) (by omega) (by omega) ?_
  replace hP : va_P D vwCl (PW B (i + 6) (updE (mixE i E T) i (.inr (3, [.ref (B + (i + 1)), .null, .null, .null, .null, .null, .int 0, .int 0, .int 0, .int 0])))) H := hP
  replace hz : H.size = B + (i + 6) := hz
  refine bw_putF (c' := 3) (f := 1) (fs := [.ref (B + (i + 1)), .null, .null, .null, .null, .null, .int 0, .int 0, .int 0, .int 0]) (v := .ref (B + (i + 3))) hx hb hts hown (by decide) (by decide) hin (hts _ (cw3_at 10 rfl)) rfl rfl rfl rfl (Nat.le_of_ble_eq_true rfl) hK (by omega) updE_s hP hz hS d_29 (fun H locs hP hz hS => ?_)
  rw [updE_updE] at hP
  replace hP : va_P D vwCl (PW B (i + 6) (updE (mixE i E T) i (.inr (3, [.ref (B + (i + 1)), .ref (B + (i + 3)), .null, .null, .null, .null, .int 0, .int 0, .int 0, .int 0])))) H := hP
  replace hz : H.size = B + (i + 6) := hz
  refine lv_aload_n hx hb d_32 rfl (lv_at hl 0 rfl) ?_
  refine bw_new (c' := 4) hx hb hts hown (by decide) (hts _ (cw3_at 11 rfl)) hK hP hz hS hBs (by show 5 + 1 ≤ 24; omega) (by show 80 + 3 ≤ 1223; omega) d_33 (fun H hP hz hS => ?_)
  refine W.widen (k := 6) (n := 83) (by omega) (show 80 + nF 4 ≤ 83 from Nat.le_of_ble_eq_true rfl) ?_
  refine lv_dup hx hb d_36 rfl ?_
  refine lv_aload_n hx hb d_37 rfl (lv_at hl 0 rfl) ?_
  refine bw_get (k := i + 7) (c' := 3) (f := 0) (fs := [.ref (B + (i + 1)), .ref (B + (i + 3)), .null, .null, .null, .null, .int 0, .int 0, .int 0, .int 0]) (v := .ref (B + (i + 1))) hx hb hts hown (by decide) (by decide) (hts _ (cw3_at 5 rfl)) rfl hK (by omega) ((updE_n (by omega)).trans updE_s) hP d_38 ?_
  refine bw_call (k := i + 6) (n := 1) (cnt := 5) (as := [.ref (B + (i + 1))]) (rest := [.ref (B + (i + 6)), .ref (B + i)]) hx hb hml hl.1 hts hown (fun j hj => by rw [updE_n (by omega), mixE_g (by omega)]) (ct_page l hT.2.2.2.1 updE_s) (cw3_at 13 rfl) (clsW 4 (by decide)).2 (hts _ (cw3_at 12 rfl)) (cw3_at 14 rfl) rfl (by decide +kernel) rfl (by decide) (by show 2 + 1 ≤ 3; omega) (by show 36 * (2 + 1) ≤ 36 * 3; omega) hK hP hz hS (by show 6 + 4 ≤ 24; omega) (by show 83 + 962 ≤ 1223; omega) (Nat.le_of_ble_eq_true rfl) d_41 (fun H locs hP hz hS => ?_)
  refine W.widen (k := 10) (n := 1045) (by omega) (by omega) ?_
  replace hP : va_P D vwCl (PW B (i + 11) (updE (mixE i E T) i (.inr (3, [.ref (B + (i + 1)), .ref (B + (i + 3)), .null, .null, .null, .null, .int 0, .int 0, .int 0, .int 0])))) H := hP
  replace hz : H.size = B + (i + 11) := hz
  refine bw_putF (c' := 3) (f := 2) (fs := [.ref (B + (i + 1)), .ref (B + (i + 3)), .null, .null, .null, .null, .int 0, .int 0, .int 0, .int 0]) (v := .ref (B + (i + 6))) hx hb hts hown (by decide) (by decide) hin (hts _ (cw3_at 15 rfl)) rfl rfl rfl rfl (Nat.le_of_ble_eq_true rfl) hK (by omega) updE_s hP hz hS d_44 (fun H locs hP hz hS => ?_)
  rw [updE_updE] at hP
  replace hP : va_P D vwCl (PW B (i + 11) (updE (mixE i E T) i (.inr (3, [.ref (B + (i + 1)), .ref (B + (i + 3)), .ref (B + (i + 6)), .null, .null, .null, .int 0, .int 0, .int 0, .int 0])))) H := hP
  replace hz : H.size = B + (i + 11) := hz
  refine lv_aload_n hx hb d_47 rfl (lv_at hl 0 rfl) ?_
  refine bw_new (c' := 1) hx hb hts hown (by decide) (hts _ (cw3_at 16 rfl)) hK hP hz hS hBs (by show 10 + 1 ≤ 24; omega) (by show 1045 + 5 ≤ 1223; omega) d_48 (fun H hP hz hS => ?_)
  refine W.widen (k := 11) (n := 1050) (by omega) (show 1045 + nF 1 ≤ 1050 from Nat.le_of_ble_eq_true rfl) ?_
  refine lv_dup hx hb d_51 rfl ?_
  refine lv_aload_n hx hb d_52 rfl (lv_at hl 0 rfl) ?_
  refine bw_get (k := i + 12) (c' := 3) (f := 0) (fs := [.ref (B + (i + 1)), .ref (B + (i + 3)), .ref (B + (i + 6)), .null, .null, .null, .int 0, .int 0, .int 0, .int 0]) (v := .ref (B + (i + 1))) hx hb hts hown (by decide) (by decide) (hts _ (cw3_at 5 rfl)) rfl hK (by omega) ((updE_n (by omega)).trans updE_s) hP d_53 ?_
  refine bw_call (k := i + 11) (n := 1) (cnt := 3) (as := [.ref (B + (i + 1))]) (rest := [.ref (B + (i + 11)), .ref (B + i)]) hx hb hml hl.1 hts hown (fun j hj => by rw [updE_n (by omega), mixE_g (by omega)]) (ct_carr l hT.2.2.2.2.1 updE_s) (cw3_at 18 rfl) (clsW 1 (by decide)).2 (hts _ (cw3_at 17 rfl)) (cw3_at 19 rfl) rfl (by decide +kernel) rfl (by decide) (by show 2 + 1 ≤ 3; omega) (by show 36 * (2 + 1) ≤ 36 * 3; omega) hK hP hz hS (by show 11 + 2 ≤ 24; omega) (by show 1050 + 41 ≤ 1223; omega) (Nat.le_of_ble_eq_true rfl) d_56 (fun H locs hP hz hS => ?_)
  refine W.widen (k := 13) (n := 1091) (by omega) (by omega) ?_
  replace hP : va_P D vwCl (PW B (i + 14) (updE (mixE i E T) i (.inr (3, [.ref (B + (i + 1)), .ref (B + (i + 3)), .ref (B + (i + 6)), .null, .null, .null, .int 0, .int 0, .int 0, .int 0])))) H := hP
  replace hz : H.size = B + (i + 14) := hz
  refine bw_putF (c' := 3) (f := 3) (fs := [.ref (B + (i + 1)), .ref (B + (i + 3)), .ref (B + (i + 6)), .null, .null, .null, .int 0, .int 0, .int 0, .int 0]) (v := .ref (B + (i + 11))) hx hb hts hown (by decide) (by decide) hin (hts _ (cw3_at 20 rfl)) rfl rfl rfl rfl (Nat.le_of_ble_eq_true rfl) hK (by omega) updE_s hP hz hS d_59 (fun H locs hP hz hS => ?_)
  rw [updE_updE] at hP
  replace hP : va_P D vwCl (PW B (i + 14) (updE (mixE i E T) i (.inr (3, [.ref (B + (i + 1)), .ref (B + (i + 3)), .ref (B + (i + 6)), .ref (B + (i + 11)), .null, .null, .int 0, .int 0, .int 0, .int 0])))) H := hP
  replace hz : H.size = B + (i + 14) := hz
  refine lv_aload_n hx hb d_62 rfl (lv_at hl 0 rfl) ?_
  refine bw_new (c' := 0) hx hb hts hown (by decide) (hts _ (cw3_at 21 rfl)) hK hP hz hS hBs (by show 13 + 1 ≤ 24; omega) (by show 1091 + 9 ≤ 1223; omega) d_63 (fun H hP hz hS => ?_)
  refine W.widen (k := 14) (n := 1100) (by omega) (show 1091 + nF 0 ≤ 1100 from Nat.le_of_ble_eq_true rfl) ?_
  refine lv_dup hx hb d_66 rfl ?_
  refine lv_aload_n hx hb d_67 rfl (lv_at hl 0 rfl) ?_
  refine bw_get (k := i + 15) (c' := 3) (f := 0) (fs := [.ref (B + (i + 1)), .ref (B + (i + 3)), .ref (B + (i + 6)), .ref (B + (i + 11)), .null, .null, .int 0, .int 0, .int 0, .int 0]) (v := .ref (B + (i + 1))) hx hb hts hown (by decide) (by decide) (hts _ (cw3_at 5 rfl)) rfl hK (by omega) ((updE_n (by omega)).trans updE_s) hP d_68 ?_
  refine bw_call (k := i + 14) (n := 1) (cnt := 9) (as := [.ref (B + (i + 1))]) (rest := [.ref (B + (i + 14)), .ref (B + i)]) hx hb hml hl.1 hts hown (fun j hj => by rw [updE_n (by omega), mixE_g (by omega)]) (ct_bars l hT.2.2.2.2.2.1 updE_s) (cw3_at 23 rfl) (clsW 0 (by decide)).2 (hts _ (cw3_at 22 rfl)) (cw3_at 24 rfl) rfl (by decide +kernel) rfl (by decide) (by show 2 + 1 ≤ 3; omega) (by show 36 * (2 + 1) ≤ 36 * 3; omega) hK hP hz hS (by show 14 + 8 ≤ 24; omega) (by show 1100 + 108 ≤ 1223; omega) (Nat.le_of_ble_eq_true rfl) d_71 (fun H locs hP hz hS => ?_)
  refine W.widen (k := 22) (n := 1208) (by omega) (by omega) ?_
  replace hP : va_P D vwCl (PW B (i + 23) (updE (mixE i E T) i (.inr (3, [.ref (B + (i + 1)), .ref (B + (i + 3)), .ref (B + (i + 6)), .ref (B + (i + 11)), .null, .null, .int 0, .int 0, .int 0, .int 0])))) H := hP
  replace hz : H.size = B + (i + 23) := hz
  refine bw_putF (c' := 3) (f := 4) (fs := [.ref (B + (i + 1)), .ref (B + (i + 3)), .ref (B + (i + 6)), .ref (B + (i + 11)), .null, .null, .int 0, .int 0, .int 0, .int 0]) (v := .ref (B + (i + 14))) hx hb hts hown (by decide) (by decide) hin (hts _ (cw3_at 25 rfl)) rfl rfl rfl rfl (Nat.le_of_ble_eq_true rfl) hK (by omega) updE_s hP hz hS d_74 (fun H locs hP hz hS => ?_)
  rw [updE_updE] at hP
  replace hP : va_P D vwCl (PW B (i + 23) (updE (mixE i E T) i (.inr (3, [.ref (B + (i + 1)), .ref (B + (i + 3)), .ref (B + (i + 6)), .ref (B + (i + 11)), .ref (B + (i + 14)), .null, .int 0, .int 0, .int 0, .int 0])))) H := hP
  replace hz : H.size = B + (i + 23) := hz
  refine lv_aload_n hx hb d_77 rfl (lv_at hl 0 rfl) ?_
  refine bw_new (c' := 7) hx hb hts hown (by decide) (hts _ (cw3_at 1 rfl)) hK hP hz hS hBs (by show 22 + 1 ≤ 24; omega) (by show 1208 + 1 ≤ 1223; omega) d_78 (fun H hP hz hS => ?_)
  refine W.widen (k := 23) (n := 1209) (by omega) (show 1208 + nF 7 ≤ 1209 from Nat.le_of_ble_eq_true rfl) ?_
  refine lv_dup hx hb d_81 rfl ?_
  refine lv_bipush (v := nI 14) hx hb d_82 (by decide) ?_
  refine bw_call (k := i + 23) (n := 1) (cnt := 2) (as := [.int (nI 14)]) (rest := [.ref (B + (i + 23)), .ref (B + i)]) hx hb hml hl.1 hts hown (fun j hj => by rw [updE_n (by omega), mixE_g (by omega)]) (ct_row l hT.2.2.2.2.2.2 (by omega) (by omega) updE_s) (cw3_at 3 rfl) (clsW 7 (by decide)).2 (hts _ (cw3_at 2 rfl)) (cw3_at 4 rfl) rfl (by decide +kernel) rfl (by decide) (by show 1 + 1 ≤ 3; omega) (by show 36 * (1 + 1) ≤ 36 * 3; omega) hK hP hz hS (by show 23 + 1 ≤ 24; omega) (by show 1209 + 14 ≤ 1223; omega) (Nat.le_of_ble_eq_true rfl) d_84 (fun H locs hP hz hS => ?_)
  refine W.widen (k := 24) (n := 1223) (by omega) (by omega) ?_
  replace hP : va_P D vwCl (PW B (i + 25) (updE (mixE i E T) i (.inr (3, [.ref (B + (i + 1)), .ref (B + (i + 3)), .ref (B + (i + 6)), .ref (B + (i + 11)), .ref (B + (i + 14)), .null, .int 0, .int 0, .int 0, .int 0])))) H := hP
  replace hz : H.size = B + (i + 25) := hz
  refine bw_putF (c' := 3) (f := 5) (fs := [.ref (B + (i + 1)), .ref (B + (i + 3)), .ref (B + (i + 6)), .ref (B + (i + 11)), .ref (B + (i + 14)), .null, .int 0, .int 0, .int 0, .int 0]) (v := .ref (B + (i + 23))) hx hb hts hown (by decide) (by decide) hin (hts _ (cw3_at 26 rfl)) rfl rfl rfl rfl (Nat.le_of_ble_eq_true rfl) hK (by omega) updE_s hP hz hS d_87 (fun H locs hP hz hS => ?_)
  rw [updE_updE] at hP
  replace hP : va_P D vwCl (PW B (i + 25) (updE (mixE i E T) i (.inr (3, [.ref (B + (i + 1)), .ref (B + (i + 3)), .ref (B + (i + 6)), .ref (B + (i + 11)), .ref (B + (i + 14)), .ref (B + (i + 23)), .int 0, .int 0, .int 0, .int 0])))) H := hP
  replace hz : H.size = B + (i + 25) := hz
  rw [updE_id ((mixE_g (Nat.le_refl i)).trans (hT.1))] at hP
  exact W.vret hx hb hr (fun t ht hW => ⟨rfl, by rw [ht]; exact hz, by rw [ht]; exact hP, hS.F ht⟩) hS.2.2 d_90 hlocks
end CT
