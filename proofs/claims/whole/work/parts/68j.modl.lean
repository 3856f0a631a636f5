section CT
variable {B i : Nat} {D : va_G} {G : GG} {E T : Nat → va_E}
/-! the constructor of class 10 -/
def cw10 : List Jvm.Cond := [.methodLink (clsN 10) 1 objectInit, .fieldLink (clsN 10) 7 (clsN 10) (TT 10 3).2.1 (TT 10 3).2.2.1, .fieldLink (clsN 10) 13 (clsN 10) (TT 10 4).2.1 (TT 10 4).2.2.1, .fieldLink (clsN 10) 16 (clsN 10) (TT 10 5).2.1 (TT 10 5).2.2.1, .fieldLink (clsN 10) 19 (clsN 10) (TT 10 6).2.1 (TT 10 6).2.2.1, .fieldLink (clsN 10) 22 (clsN 10) (TT 10 7).2.1 (TT 10 7).2.2.1, .fieldLink (clsN 10) 25 (clsN 10) (TT 10 9).2.1 (TT 10 9).2.2.1, .fieldLink (clsN 10) 29 (clsN 10) (TT 10 10).2.1 (TT 10 10).2.2.1, .fieldLink (clsN 10) 32 (clsN 10) (TT 10 13).2.1 (TT 10 13).2.2.1, .fieldLink (clsN 10) 36 (clsN 10) (TT 10 21).2.1 (TT 10 21).2.2.1, .fieldLink (clsN 10) 39 (clsN 10) (TT 10 22).2.1 (TT 10 22).2.2.1, .fieldLink (clsN 10) 42 (clsN 10) (TT 10 23).2.1 (TT 10 23).2.2.1, .fieldLink (clsN 10) 45 (clsN 10) (TT 10 26).2.1 (TT 10 26).2.2.1, .fieldLink (clsN 10) 48 (clsN 10) (TT 10 27).2.1 (TT 10 27).2.2.1, .fieldLink (clsN 10) 51 (clsN 10) (TT 10 29).2.1 (TT 10 29).2.2.1]
theorem cw10_at {w : Jvm.Cond} (i : Nat) (h : cw10[i]? = some w) : w ∈ lwG := by
  have key : (cw10.all (fun w => decide (w ∈ lw_tbl) && goodWord w)) = true := by decide +kernel
  have h := List.all_eq_true.mp key w (List.mem_of_getElem? h)
  simp only [Bool.and_eq_true, decide_eq_true_eq] at h
  exact List.mem_filter.mpr h
theorem dcw10_0 : decode cX10_init 0 = .ok (.aload_n 0, 1) ∧ decode cX10_init 1 = .ok (.invokespecial 1, 3) ∧ decode cX10_init 4 = .ok (.aload_n 0, 1) ∧ decode cX10_init 5 = .ok (.bipush 26, 2) ∧ decode cX10_init 7 = .ok (.newarray .int, 2) ∧ decode cX10_init 9 = .ok (.putfield 7, 3) ∧ decode cX10_init 12 = .ok (.aload_n 0, 1) ∧ decode cX10_init 13 = .ok (.bipush 26, 2) ∧ decode cX10_init 15 = .ok (.newarray .int, 2) ∧ decode cX10_init 17 = .ok (.putfield 13, 3) := by decide +kernel
theorem dcw10_1 : decode cX10_init 20 = .ok (.aload_n 0, 1) ∧ decode cX10_init 21 = .ok (.sipush 1150, 3) ∧ decode cX10_init 24 = .ok (.newarray .int, 2) ∧ decode cX10_init 26 = .ok (.putfield 16, 3) ∧ decode cX10_init 29 = .ok (.aload_n 0, 1) ∧ decode cX10_init 30 = .ok (.sipush 1150, 3) ∧ decode cX10_init 33 = .ok (.newarray .int, 2) ∧ decode cX10_init 35 = .ok (.putfield 19, 3) ∧ decode cX10_init 38 = .ok (.aload_n 0, 1) ∧ decode cX10_init 39 = .ok (.sipush 11500, 3) := by decide +kernel
theorem dcw10_2 : decode cX10_init 42 = .ok (.newarray .int, 2) ∧ decode cX10_init 44 = .ok (.putfield 22, 3) ∧ decode cX10_init 47 = .ok (.aload_n 0, 1) ∧ decode cX10_init 48 = .ok (.iconst 2, 1) ∧ decode cX10_init 49 = .ok (.newarray .boolean, 2) ∧ decode cX10_init 51 = .ok (.putfield 25, 3) ∧ decode cX10_init 54 = .ok (.aload_n 0, 1) ∧ decode cX10_init 55 = .ok (.sipush 500, 3) ∧ decode cX10_init 58 = .ok (.newarray .int, 2) ∧ decode cX10_init 60 = .ok (.putfield 29, 3) := by decide +kernel
theorem dcw10_3 : decode cX10_init 63 = .ok (.aload_n 0, 1) ∧ decode cX10_init 64 = .ok (.iconst (-1), 1) ∧ decode cX10_init 65 = .ok (.putfield 32, 3) ∧ decode cX10_init 68 = .ok (.aload_n 0, 1) ∧ decode cX10_init 69 = .ok (.sipush 1150, 3) ∧ decode cX10_init 72 = .ok (.newarray .int, 2) ∧ decode cX10_init 74 = .ok (.putfield 36, 3) ∧ decode cX10_init 77 = .ok (.aload_n 0, 1) ∧ decode cX10_init 78 = .ok (.bipush 26, 2) ∧ decode cX10_init 80 = .ok (.newarray .int, 2) := by decide +kernel
theorem dcw10_4 : decode cX10_init 82 = .ok (.putfield 39, 3) ∧ decode cX10_init 85 = .ok (.aload_n 0, 1) ∧ decode cX10_init 86 = .ok (.bipush 26, 2) ∧ decode cX10_init 88 = .ok (.newarray .int, 2) ∧ decode cX10_init 90 = .ok (.putfield 42, 3) ∧ decode cX10_init 93 = .ok (.aload_n 0, 1) ∧ decode cX10_init 94 = .ok (.bipush 41, 2) ∧ decode cX10_init 96 = .ok (.newarray .int, 2) ∧ decode cX10_init 98 = .ok (.putfield 45, 3) ∧ decode cX10_init 101 = .ok (.aload_n 0, 1) := by decide +kernel
theorem dcw10_5 : decode cX10_init 102 = .ok (.bipush 41, 2) ∧ decode cX10_init 104 = .ok (.newarray .int, 2) ∧ decode cX10_init 106 = .ok (.putfield 48, 3) ∧ decode cX10_init 109 = .ok (.aload_n 0, 1) ∧ decode cX10_init 110 = .ok (.bipush 60, 2) ∧ decode cX10_init 112 = .ok (.newarray .int, 2) ∧ decode cX10_init 114 = .ok (.putfield 51, 3) ∧ decode cX10_init 117 = .ok (.return_, 1) := by decide +kernel
set_option maxHeartbeats 1000000 in
theorem ct_modl (l : Launch) (hT : ModH B G T i) (hE : E i = .inr (10, dfl 10)) : CTM l B D G yX10_init cX10_init 1 1 13 15698 i 14 [] T E := by
  obtain ⟨d_0, d_1, d_4, d_5, d_7, d_9, d_12, d_13, d_15, d_17⟩ := dcw10_0
  obtain ⟨d_20, d_21, d_24, d_26, d_29, d_30, d_33, d_35, d_38, d_39⟩ := dcw10_1
  obtain ⟨d_42, d_44, d_47, d_48, d_49, d_51, d_54, d_55, d_58, d_60⟩ := dcw10_2
  obtain ⟨d_63, d_64, d_65, d_68, d_69, d_72, d_74, d_77, d_78, d_80⟩ := dcw10_3
  obtain ⟨d_82, d_85, d_86, d_88, d_90, d_93, d_94, d_96, d_98, d_101⟩ := dcw10_4
  obtain ⟨d_102, d_104, d_106, d_109, d_110, d_112, d_114, d_117⟩ := dcw10_5
  refine Met.ofW (cc := cX10_init) (maxL := 1) (ret := none) (by decide) rfl ?_
  intro p e s m args below meth c s₁ Bd hml hv
  obtain ⟨rfl, hsz, hP0, hK⟩ := hv
  have hx := Bd.exec
  have hb := Bd.bytes
  have hr := Bd.returns
  have hlocks := Bd.notSynchronized
  have hin : meth.name = "<init>" := (name_of_methodNamed Bd.named Bd.method).1
  have hts0 := atoms_spec (ws := Jvm.Cond.code yX10_init cX10_init 1 none :: lwG) Bd.pre
  have hts : ∀ w ∈ lwG, w.before ([.ref (B + i)] : List Value).toArray s = true := fun w hw => hts0 w (List.mem_cons_of_mem _ hw)
  have hown : s.vm.findClass (clsN 10) = some m.cls := findClass_of_methodNamed Bd.named
  have hBs : B ≤ s.heap.size := by omega
  have hS : va_S (ab B) s.heap s.heap [] := va_S.rf
  have hz : s.heap.size = B + (i + 1) := hsz
  have hP : va_P D vwCl (PW B (i + 1) (updE (mixE i E T) i (.inr (10, [.int 0, .int 0, .int 0, .null, .null, .null, .null, .null, .int 0, .null, .null, .int 0, .int 0, .int 0, .int 0, .int 0, .int 0, .int 0, .int 0, .int 0, .int 0, .null, .null, .null, .int 0, .int 0, .null, .null, .int 0, .null, .int 0])))) s.heap := by
    rw [← PW_congr (E := E)]
    · exact hP0
    · intro j hj
      by_cases q : j = i
      · rw [q, updE_s, hE]; rfl
      · rw [updE_n q, mixE_l (by omega)]
  have hl := lv_entry ([.ref (B + i)]) (n := 1) (Nat.le_of_ble_eq_true rfl)
  rw [lg_entry_eq]
  generalize (lg_sl ([.ref (B + i)]) ++ List.replicate (1 - (lg_sl ([.ref (B + i)])).length) Slot.unset).toArray = ls at hl ⊢
  have hl : lv_has ls 1 [(0, .ref (B + i))] := hl
  refine lv_aload_n hx hb d_0 rfl (lv_at hl 0 rfl) ?_
  refine W.objInit hx hb hown (hts _ (cw10_at 0 rfl)) (hts _ (bwW_at 0 rfl)) (hts _ (bwW_at 1 rfl)) rfl (by rw [hml]; exact hl.1) rfl d_1 (by show 1 ≤ 1; omega) (by show 2 * 0 + 0 + 12 ≤ 36 * 1; omega) ?_
  refine W.eq (g2 := F0 m 4 ls []) rfl ?_
  refine lv_aload_n hx hb d_4 rfl (lv_at hl 0 rfl) ?_
  refine lv_bipush (v := nI 26) hx hb d_5 (by decide) ?_
  refine bw_newi hx hb hts hK hP hz hS 26 (by omega) (by show 0 + 1 ≤ 13; omega) (by show 0 + 26 ≤ 15698; omega) d_7 (fun H hP hz hS => ?_)
  refine W.widen (k := 1) (n := 26) (by omega) (by omega) ?_
  rw [PW_congr (E' := updE (mixE i E T) i (.inr (10, [.int 0, .int 0, .int 0, .null, .null, .null, .null, .null, .int 0, .null, .null, .int 0, .int 0, .int 0, .int 0, .int 0, .int 0, .int 0, .int 0, .int 0, .int 0, .null, .null, .null, .int 0, .int 0, .null, .null, .int 0, .null, .int 0]))) (fun j hj => by
    by_cases q : j = i + 1
    · rw [q, updE_s, updE_n (by omega), mixE_g (by omega)]; exact (hT.2.1).symm
    · rw [updE_n q])] at hP
  replace hP : va_P D vwCl (PW B (i + 2) (updE (mixE i E T) i (.inr (10, [.int 0, .int 0, .int 0, .null, .null, .null, .null, .null, .int 0, .null, .null, .int 0, .int 0, .int 0, .int 0, .int 0, .int 0, .int 0, .int 0, .int 0, .int 0, .null, .null, .null, .int 0, .int 0, .null, .null, .int 0, .null, .int 0])))) H := hP
  replace hz : H.size = B + (i + 2) := hz
  refine bw_putF (c' := 10) (f := 3) (fs := [.int 0, .int 0, .int 0, .null, .null, .null, .null, .null, .int 0, .null, .null, .int 0, .int 0, .int 0, .int 0, .int 0, .int 0, .int 0, .int 0, .int 0, .int 0, .null, .null, .null, .int 0, .int 0, .null, .null, .int 0, .null, .int 0]) (v := .ref (B + (i + 1))) hx hb hts hown (by decide) (by decide) hin (hts _ (cw10_at 1 rfl)) rfl rfl rfl rfl (Nat.le_of_ble_eq_true rfl) hK (by omega) updE_s hP hz hS d_9 (fun H locs hP hz hS => ?_)
  rw [updE_updE] at hP
  replace hP : va_P D vwCl (PW B (i + 2) (updE (mixE i E T) i (.inr (10, [.int 0, .int 0, .int 0, .ref (B + (i + 1)), .null, .null, .null, .null, .int 0, .null, .null, .int 0, .int 0, .int 0, .int 0, .int 0, .int 0, .int 0, .int 0, .int 0, .int 0, .null, .null, .null, .int 0, .int 0, .null, .null, .int 0, .null, .int 0])))) H := hP
  replace hz : H.size = B + (i + 2) := hz
  refine lv_aload_n hx hb d_12 rfl (lv_at hl 0 rfl) ?_
  refine lv_bipush (v := nI 26) hx hb d_13 (by decide) ?_
  refine bw_newi hx hb hts hK hP hz hS 26 (by omega) (by show 1 + 1 ≤ 13; omega) (by show 26 + 26 ≤ 15698; omega) d_15 (fun H hP hz hS => ?_)
  refine W.widen (k := 2) (n := 52) (by omega) (by omega) ?_
  rw [PW_congr (E' := updE (mixE i E T) i (.inr (10, [.int 0, .int 0, .int 0, .ref (B + (i + 1)), .null, .null, .null, .null, .int 0, .null, .null, .int 0, .int 0, .int 0, .int 0, .int 0, .int 0, .int 0, .int 0, .int 0, .int 0, .null, .null, .null, .int 0, .int 0, .null, .null, .int 0, .null, .int 0]))) (fun j hj => by
    by_cases q : j = i + 2
    · rw [q, updE_s, updE_n (by omega), mixE_g (by omega)]; exact (hT.2.2.1).symm
    · rw [updE_n q])] at hP
  replace hP : va_P D vwCl (PW B (i + 3) (updE (mixE i E T) i (.inr (10, [.int 0, .int 0, .int 0, .ref (B + (i + 1)), .null, .null, .null, .null, .int 0, .null, .null, .int 0, .int 0, .int 0, .int 0, .int 0, .int 0, .int 0, .int 0, .int 0, .int 0, .null, .null, .null, .int 0, .int 0, .null, .null, .int 0, .null, .int 0])))) H := hP
  replace hz : H.size = B + (i + 3) := hz
  refine bw_putF (c' := 10) (f := 4) (fs := [.int 0, .int 0, .int 0, .ref (B + (i + 1)), .null, .null, .null, .null, .int 0, .null, .null, .int 0, .int 0, .int 0, .int 0, .int 0, .int 0, .int 0, .int 0, .int 0, .int 0, .null, .null, .null, .int 0, .int 0, .null, .null, .int 0, .null, .int 0]) (v := .ref (B + (i + 2))) hx hb hts hown (by decide) (by decide) hin (hts _ (cw10_at 2 rfl)) rfl rfl rfl rfl (Nat.le_of_ble_eq_true rfl) hK (by omega) updE_s hP hz hS d_17 (fun H locs hP hz hS => ?_)
  rw [updE_updE] at hP
  replace hP : va_P D vwCl (PW B (i + 3) (updE (mixE i E T) i (.inr (10, [.int 0, .int 0, .int 0, .ref (B + (i + 1)), .ref (B + (i + 2)), .null, .null, .null, .int 0, .null, .null, .int 0, .int 0, .int 0, .int 0, .int 0, .int 0, .int 0, .int 0, .int 0, .int 0, .null, .null, .null, .int 0, .int 0, .null, .null, .int 0, .null, .int 0])))) H := hP
  replace hz : H.size = B + (i + 3) := hz
  refine lv_aload_n hx hb d_20 rfl (lv_at hl 0 rfl) ?_
  refine lv_sipush (v := nI 1150) hx hb d_21 (by decide) ?_
  refine bw_newi hx hb hts hK hP hz hS 1150 (by omega) (by show 2 + 1 ≤ 13; omega) (by show 52 + 1150 ≤ 15698; omega) d_24 (fun H hP hz hS => ?_)
  refine W.widen (k := 3) (n := 1202) (by omega) (by omega) ?_
  rw [PW_congr (E' := updE (mixE i E T) i (.inr (10, [.int 0, .int 0, .int 0, .ref (B + (i + 1)), .ref (B + (i + 2)), .null, .null, .null, .int 0, .null, .null, .int 0, .int 0, .int 0, .int 0, .int 0, .int 0, .int 0, .int 0, .int 0, .int 0, .null, .null, .null, .int 0, .int 0, .null, .null, .int 0, .null, .int 0]))) (fun j hj => by
    by_cases q : j = i + 3
    · rw [q, updE_s, updE_n (by omega), mixE_g (by omega)]; exact (hT.2.2.2.1).symm
    · rw [updE_n q])] at hP
  replace hP : va_P D vwCl (PW B (i + 4) (updE (mixE i E T) i (.inr (10, [.int 0, .int 0, .int 0, .ref (B + (i + 1)), .ref (B + (i + 2)), .null, .null, .null, .int 0, .null, .null, .int 0, .int 0, .int 0, .int 0, .int 0, .int 0, .int 0, .int 0, .int 0, .int 0, .null, .null, .null, .int 0, .int 0, .null, .null, .int 0, .null, .int 0])))) H := hP
  replace hz : H.size = B + (i + 4) := hz
  refine bw_putF (c' := 10) (f := 5) (fs := [.int 0, .int 0, .int 0, .ref (B + (i + 1)), .ref (B + (i + 2)), .null, .null, .null, .int 0, .null, .null, .int 0, .int 0, .int 0, .int 0, .int 0, .int 0, .int 0, .int 0, .int 0, .int 0, .null, .null, .null, .int 0, .int 0, .null, .null, .int 0, .null, .int 0]) (v := .ref (B + (i + 3))) hx hb hts hown (by decide) (by decide) hin (hts _ (cw10_at 3 rfl)) rfl rfl rfl rfl (Nat.le_of_ble_eq_true rfl) hK (by omega) updE_s hP hz hS d_26 (fun H locs hP hz hS => ?_)
  rw [updE_updE] at hP
  replace hP : va_P D vwCl (PW B (i + 4) (updE (mixE i E T) i (.inr (10, [.int 0, .int 0, .int 0, .ref (B + (i + 1)), .ref (B + (i + 2)), .ref (B + (i + 3)), .null, .null, .int 0, .null, .null, .int 0, .int 0, .int 0, .int 0, .int 0, .int 0, .int 0, .int 0, .int 0, .int 0, .null, .null, .null, .int 0, .int 0, .null, .null, .int 0, .null, .int 0])))) H := hP
  replace hz : H.size = B + (i + 4) := hz
  refine lv_aload_n hx hb d_29 rfl (lv_at hl 0 rfl) ?_
  refine lv_sipush (v := nI 1150) hx hb d_30 (by decide) ?_
  refine bw_newi hx hb hts hK hP hz hS 1150 (by omega) (by show 3 + 1 ≤ 13; omega) (by show 1202 + 1150 ≤ 15698; omega) d_33 (fun H hP hz hS => ?_)
  refine W.widen (k := 4) (n := 2352) (by omega) (by omega) ?_
  rw [PW_congr (E' := updE (mixE i E T) i (.inr (10, [.int 0, .int 0, .int 0, .ref (B + (i + 1)), .ref (B + (i + 2)), .ref (B + (i + 3)), .null, .null, .int 0, .null, .null, .int 0, .int 0, .int 0, .int 0, .int 0, .int 0, .int 0, .int 0, .int 0, .int 0, .null, .null, .null, .int 0, .int 0, .null, .null, .int 0, .null, .int 0]))) (fun j hj => by
    by_cases q : j = i + 4
    · rw [q, updE_s, updE_n (by omega), mixE_g (by omega)]; exact (hT.2.2.2.2.1).symm
    · rw [updE_n q])] at hP
  replace hP : va_P D vwCl (PW B (i + 5) (updE (mixE i E T) i (.inr (10, [.int 0, .int 0, .int 0, .ref (B + (i + 1)), .ref (B + (i + 2)), .ref (B + (i + 3)), .null, .null, .int 0, .null, .null, .int 0, .int 0, .int 0, .int 0, .int 0, .int 0, .int 0, .int 0, .int 0, .int 0, .null, .null, .null, .int 0, .int 0, .null, .null, .int 0, .null, .int 0])))) H := hP
  replace hz : H.size = B + (i + 5) := hz
  refine bw_putF (c' := 10) (f := 6) (fs := [.int 0, .int 0, .int 0, .ref (B + (i + 1)), .ref (B + (i + 2)), .ref (B + (i + 3)), .null, .null, .int 0, .null, .null, .int 0, .int 0, .int 0, .int 0, .int 0, .int 0, .int 0, .int 0, .int 0, .int 0, .null, .null, .null, .int 0, .int 0, .null, .null, .int 0, .null, .int 0]) (v := .ref (B + (i + 4))) hx hb hts hown (by decide) (by decide) hin (hts _ (cw10_at 4 rfl)) rfl rfl rfl rfl (Nat.le_of_ble_eq_true rfl) hK (by omega) updE_s hP hz hS d_35 (fun H locs hP hz hS => ?_)
  rw [updE_updE] at hP
  replace hP : va_P D vwCl (PW B (i + 5) (updE (mixE i E T) i (.inr (10, [.int 0, .int 0, .int 0, .ref (B + (i + 1)), .ref (B + (i + 2)), .ref (B + (i + 3)), .ref (B + (i + 4)), .null, .int 0, .null, .null, .int 0, .int 0, .int 0, .int 0, .int 0, .int 0, .int 0, .int 0, .int 0, .int 0, .null, .null, .null, .int 0, .int 0, .null, .null, .int 0, .null, .int 0])))) H := hP
  replace hz : H.size = B + (i + 5) := hz
  refine lv_aload_n hx hb d_38 rfl (lv_at hl 0 rfl) ?_
  refine lv_sipush (v := nI 11500) hx hb d_39 (by decide) ?_
  refine bw_newi hx hb hts hK hP hz hS 11500 (by omega) (by show 4 + 1 ≤ 13; omega) (by show 2352 + 11500 ≤ 15698; omega) d_42 (fun H hP hz hS => ?_)
  refine W.widen (k := 5) (n := 13852) (by omega) (by omega) ?_
  rw [PW_congr (E' := updE (mixE i E T) i (.inr (10, [.int 0, .int 0, .int 0, .ref (B + (i + 1)), .ref (B + (i + 2)), .ref (B + (i + 3)), .ref (B + (i + 4)), .null, .int 0, .null, .null, .int 0, .int 0, .int 0, .int 0, .int 0, .int 0, .int 0, .int 0, .int 0, .int 0, .null, .null, .null, .int 0, .int 0, .null, .null, .int 0, .null, .int 0]))) (fun j hj => by
    by_cases q : j = i + 5
    · rw [q, updE_s, updE_n (by omega), mixE_g (by omega)]; exact (hT.2.2.2.2.2.1).symm
    · rw [updE_n q])] at hP
  replace hP : va_P D vwCl (PW B (i + 6) (updE (mixE i E T) i (.inr (10, [.int 0, .int 0, .int 0, .ref (B + (i + 1)), .ref (B + (i + 2)), .ref (B + (i + 3)), .ref (B + (i + 4)), .null, .int 0, .null, .null, .int 0, .int 0, .int 0, .int 0, .int 0, .int 0, .int 0, .int 0, .int 0, .int 0, .null, .null, .null, .int 0, .int 0, .null, .null, .int 0, .null, .int 0])))) H := hP
  replace hz : H.size = B + (i + 6) := hz
  refine bw_putF (c' := 10) (f := 7) (fs := [.int 0, .int 0, .int 0, .ref (B + (i + 1)), .ref (B + (i + 2)), .ref (B + (i + 3)), .ref (B + (i + 4)), .null, .int 0, .null, .null, .int 0, .int 0, .int 0, .int 0, .int 0, .int 0, .int 0, .int 0, .int 0, .int 0, .null, .null, .null, .int 0, .int 0, .null, .null, .int 0, .null, .int 0]) (v := .ref (B + (i + 5))) hx hb hts hown (by decide) (by decide) hin (hts _ (cw10_at 5 rfl)) rfl rfl rfl rfl (Nat.le_of_ble_eq_true rfl) hK (by omega) updE_s hP hz hS d_44 (fun H locs hP hz hS => ?_)
  rw [updE_updE] at hP
  replace hP : va_P D vwCl (PW B (i + 6) (updE (mixE i E T) i (.inr (10, [.int 0, .int 0, .int 0, .ref (B + (i + 1)), .ref (B + (i + 2)), .ref (B + (i + 3)), .ref (B + (i + 4)), .ref (B + (i + 5)), .int 0, .null, .null, .int 0, .int 0, .int 0, .int 0, .int 0, .int 0, .int 0, .int 0, .int 0, .int 0, .null, .null, .null, .int 0, .int 0, .null, .null, .int 0, .null, .int 0])))) H := hP
  replace hz : H.size = B + (i + 6) := hz
  refine lv_aload_n hx hb d_47 rfl (lv_at hl 0 rfl) ?_
  refine lv_iconst (v := nI 2) hx hb d_48 (by decide) ?_
  refine bw_newz hx hb hts hK hP hz hS 2 (by omega) (by show 5 + 1 ≤ 13; omega) (by show 13852 + 2 ≤ 15698; omega) d_49 (fun H hP hz hS => ?_)
  refine W.widen (k := 6) (n := 13854) (by omega) (by omega) ?_
  rw [PW_congr (E' := updE (mixE i E T) i (.inr (10, [.int 0, .int 0, .int 0, .ref (B + (i + 1)), .ref (B + (i + 2)), .ref (B + (i + 3)), .ref (B + (i + 4)), .ref (B + (i + 5)), .int 0, .null, .null, .int 0, .int 0, .int 0, .int 0, .int 0, .int 0, .int 0, .int 0, .int 0, .int 0, .null, .null, .null, .int 0, .int 0, .null, .null, .int 0, .null, .int 0]))) (fun j hj => by
    by_cases q : j = i + 6
    · rw [q, updE_s, updE_n (by omega), mixE_g (by omega)]; exact (hT.2.2.2.2.2.2.1).symm
    · rw [updE_n q])] at hP
  replace hP : va_P D vwCl (PW B (i + 7) (updE (mixE i E T) i (.inr (10, [.int 0, .int 0, .int 0, .ref (B + (i + 1)), .ref (B + (i + 2)), .ref (B + (i + 3)), .ref (B + (i + 4)), .ref (B + (i + 5)), .int 0, .null, .null, .int 0, .int 0, .int 0, .int 0, .int 0, .int 0, .int 0, .int 0, .int 0, .int 0, .null, .null, .null, .int 0, .int 0, .null, .null, .int 0, .null, .int 0])))) H := hP
  replace hz : H.size = B + (i + 7) := hz
  refine bw_putF (c' := 10) (f := 9) (fs := [.int 0, .int 0, .int 0, .ref (B + (i + 1)), .ref (B + (i + 2)), .ref (B + (i + 3)), .ref (B + (i + 4)), .ref (B + (i + 5)), .int 0, .null, .null, .int 0, .int 0, .int 0, .int 0, .int 0, .int 0, .int 0, .int 0, .int 0, .int 0, .null, .null, .null, .int 0, .int 0, .null, .null, .int 0, .null, .int 0]) (v := .ref (B + (i + 6))) hx hb hts hown (by decide) (by decide) hin (hts _ (cw10_at 6 rfl)) rfl rfl rfl rfl (Nat.le_of_ble_eq_true rfl) hK (by omega) updE_s hP hz hS d_51 (fun H locs hP hz hS => ?_)
  rw [updE_updE] at hP
  replace hP : va_P D vwCl (PW B (i + 7) (updE (mixE i E T) i (.inr (10, [.int 0, .int 0, .int 0, .ref (B + (i + 1)), .ref (B + (i + 2)), .ref (B + (i + 3)), .ref (B + (i + 4)), .ref (B + (i + 5)), .int 0, .ref (B + (i + 6)), .null, .int 0, .int 0, .int 0, .int 0, .int 0, .int 0, .int 0, .int 0, .int 0, .int 0, .null, .null, .null, .int 0, .int 0, .null, .null, .int 0, .null, .int 0])))) H := hP
  replace hz : H.size = B + (i + 7) := hz
  refine lv_aload_n hx hb d_54 rfl (lv_at hl 0 rfl) ?_
  refine lv_sipush (v := nI 500) hx hb d_55 (by decide) ?_
  refine bw_newi hx hb hts hK hP hz hS 500 (by omega) (by show 6 + 1 ≤ 13; omega) (by show 13854 + 500 ≤ 15698; omega) d_58 (fun H hP hz hS => ?_)
  refine W.widen (k := 7) (n := 14354) (by omega) (by omega) ?_
  rw [PW_congr (E' := updE (mixE i E T) i (.inr (10, [.int 0, .int 0, .int 0, .ref (B + (i + 1)), .ref (B + (i + 2)), .ref (B + (i + 3)), .ref (B + (i + 4)), .ref (B + (i + 5)), .int 0, .ref (B + (i + 6)), .null, .int 0, .int 0, .int 0, .int 0, .int 0, .int 0, .int 0, .int 0, .int 0, .int 0, .null, .null, .null, .int 0, .int 0, .null, .null, .int 0, .null, .int 0]))) (fun j hj => by
    by_cases q : j = i + 7
    · rw [q, updE_s, updE_n (by omega), mixE_g (by omega)]; exact (hT.2.2.2.2.2.2.2.1).symm
    · rw [updE_n q])] at hP
  replace hP : va_P D vwCl (PW B (i + 8) (updE (mixE i E T) i (.inr (10, [.int 0, .int 0, .int 0, .ref (B + (i + 1)), .ref (B + (i + 2)), .ref (B + (i + 3)), .ref (B + (i + 4)), .ref (B + (i + 5)), .int 0, .ref (B + (i + 6)), .null, .int 0, .int 0, .int 0, .int 0, .int 0, .int 0, .int 0, .int 0, .int 0, .int 0, .null, .null, .null, .int 0, .int 0, .null, .null, .int 0, .null, .int 0])))) H := hP
  replace hz : H.size = B + (i + 8) := hz
  refine bw_putF (c' := 10) (f := 10) (fs := [.int 0, .int 0, .int 0, .ref (B + (i + 1)), .ref (B + (i + 2)), .ref (B + (i + 3)), .ref (B + (i + 4)), .ref (B + (i + 5)), .int 0, .ref (B + (i + 6)), .null, .int 0, .int 0, .int 0, .int 0, .int 0, .int 0, .int 0, .int 0, .int 0, .int 0, .null, .null, .null, .int 0, .int 0, .null, .null, .int 0, .null, .int 0]) (v := .ref (B + (i + 7))) hx hb hts hown (by decide) (by decide) hin (hts _ (cw10_at 7 rfl)) rfl rfl rfl rfl (Nat.le_of_ble_eq_true rfl) hK (by omega) updE_s hP hz hS d_60 (fun H locs hP hz hS => ?_)
  rw [updE_updE] at hP
  replace hP : va_P D vwCl (PW B (i + 8) (updE (mixE i E T) i (.inr (10, [.int 0, .int 0, .int 0, .ref (B + (i + 1)), .ref (B + (i + 2)), .ref (B + (i + 3)), .ref (B + (i + 4)), .ref (B + (i + 5)), .int 0, .ref (B + (i + 6)), .ref (B + (i + 7)), .int 0, .int 0, .int 0, .int 0, .int 0, .int 0, .int 0, .int 0, .int 0, .int 0, .null, .null, .null, .int 0, .int 0, .null, .null, .int 0, .null, .int 0])))) H := hP
  replace hz : H.size = B + (i + 8) := hz
  refine lv_aload_n hx hb d_63 rfl (lv_at hl 0 rfl) ?_
  refine lv_iconst (v := m1) hx hb d_64 (by decide) ?_
  refine bw_put (c' := 10) (f := 13) (fs := [.int 0, .int 0, .int 0, .ref (B + (i + 1)), .ref (B + (i + 2)), .ref (B + (i + 3)), .ref (B + (i + 4)), .ref (B + (i + 5)), .int 0, .ref (B + (i + 6)), .ref (B + (i + 7)), .int 0, .int 0, .int 0, .int 0, .int 0, .int 0, .int 0, .int 0, .int 0, .int 0, .null, .null, .null, .int 0, .int 0, .null, .null, .int 0, .null, .int 0]) (v := .int m1) hx hb hts hown (by decide) (by decide) (hts _ (cw10_at 8 rfl)) rfl rfl rfl rfl (Nat.le_of_ble_eq_true rfl) hK (by omega) updE_s hP hz hS d_65 (fun H locs hP hz hS => ?_)
  rw [updE_updE] at hP
  replace hP : va_P D vwCl (PW B (i + 8) (updE (mixE i E T) i (.inr (10, [.int 0, .int 0, .int 0, .ref (B + (i + 1)), .ref (B + (i + 2)), .ref (B + (i + 3)), .ref (B + (i + 4)), .ref (B + (i + 5)), .int 0, .ref (B + (i + 6)), .ref (B + (i + 7)), .int 0, .int 0, .int m1, .int 0, .int 0, .int 0, .int 0, .int 0, .int 0, .int 0, .null, .null, .null, .int 0, .int 0, .null, .null, .int 0, .null, .int 0])))) H := hP
  replace hz : H.size = B + (i + 8) := hz
  refine lv_aload_n hx hb d_68 rfl (lv_at hl 0 rfl) ?_
  refine lv_sipush (v := nI 1150) hx hb d_69 (by decide) ?_
  refine bw_newi hx hb hts hK hP hz hS 1150 (by omega) (by show 7 + 1 ≤ 13; omega) (by show 14354 + 1150 ≤ 15698; omega) d_72 (fun H hP hz hS => ?_)
  refine W.widen (k := 8) (n := 15504) (by omega) (by omega) ?_
  rw [PW_congr (E' := updE (mixE i E T) i (.inr (10, [.int 0, .int 0, .int 0, .ref (B + (i + 1)), .ref (B + (i + 2)), .ref (B + (i + 3)), .ref (B + (i + 4)), .ref (B + (i + 5)), .int 0, .ref (B + (i + 6)), .ref (B + (i + 7)), .int 0, .int 0, .int m1, .int 0, .int 0, .int 0, .int 0, .int 0, .int 0, .int 0, .null, .null, .null, .int 0, .int 0, .null, .null, .int 0, .null, .int 0]))) (fun j hj => by
    by_cases q : j = i + 8
    · rw [q, updE_s, updE_n (by omega), mixE_g (by omega)]; exact (hT.2.2.2.2.2.2.2.2.1).symm
    · rw [updE_n q])] at hP
  replace hP : va_P D vwCl (PW B (i + 9) (updE (mixE i E T) i (.inr (10, [.int 0, .int 0, .int 0, .ref (B + (i + 1)), .ref (B + (i + 2)), .ref (B + (i + 3)), .ref (B + (i + 4)), .ref (B + (i + 5)), .int 0, .ref (B + (i + 6)), .ref (B + (i + 7)), .int 0, .int 0, .int m1, .int 0, .int 0, .int 0, .int 0, .int 0, .int 0, .int 0, .null, .null, .null, .int 0, .int 0, .null, .null, .int 0, .null, .int 0])))) H := hP
  replace hz : H.size = B + (i + 9) := hz
  refine bw_putF (c' := 10) (f := 21) (fs := [.int 0, .int 0, .int 0, .ref (B + (i + 1)), .ref (B + (i + 2)), .ref (B + (i + 3)), .ref (B + (i + 4)), .ref (B + (i + 5)), .int 0, .ref (B + (i + 6)), .ref (B + (i + 7)), .int 0, .int 0, .int m1, .int 0, .int 0, .int 0, .int 0, .int 0, .int 0, .int 0, .null, .null, .null, .int 0, .int 0, .null, .null, .int 0, .null, .int 0]) (v := .ref (B + (i + 8))) hx hb hts hown (by decide) (by decide) hin (hts _ (cw10_at 9 rfl)) rfl rfl rfl rfl (Nat.le_of_ble_eq_true rfl) hK (by omega) updE_s hP hz hS d_74 (fun H locs hP hz hS => ?_)
  rw [updE_updE] at hP
  replace hP : va_P D vwCl (PW B (i + 9) (updE (mixE i E T) i (.inr (10, [.int 0, .int 0, .int 0, .ref (B + (i + 1)), .ref (B + (i + 2)), .ref (B + (i + 3)), .ref (B + (i + 4)), .ref (B + (i + 5)), .int 0, .ref (B + (i + 6)), .ref (B + (i + 7)), .int 0, .int 0, .int m1, .int 0, .int 0, .int 0, .int 0, .int 0, .int 0, .int 0, .ref (B + (i + 8)), .null, .null, .int 0, .int 0, .null, .null, .int 0, .null, .int 0])))) H := hP
  replace hz : H.size = B + (i + 9) := hz
  refine lv_aload_n hx hb d_77 rfl (lv_at hl 0 rfl) ?_
  refine lv_bipush (v := nI 26) hx hb d_78 (by decide) ?_
  refine bw_newi hx hb hts hK hP hz hS 26 (by omega) (by show 8 + 1 ≤ 13; omega) (by show 15504 + 26 ≤ 15698; omega) d_80 (fun H hP hz hS => ?_)
  refine W.widen (k := 9) (n := 15530) (by omega) (by omega) ?_
  rw [PW_congr (E' := updE (mixE i E T) i (.inr (10, [.int 0, .int 0, .int 0, .ref (B + (i + 1)), .ref (B + (i + 2)), .ref (B + (i + 3)), .ref (B + (i + 4)), .ref (B + (i + 5)), .int 0, .ref (B + (i + 6)), .ref (B + (i + 7)), .int 0, .int 0, .int m1, .int 0, .int 0, .int 0, .int 0, .int 0, .int 0, .int 0, .ref (B + (i + 8)), .null, .null, .int 0, .int 0, .null, .null, .int 0, .null, .int 0]))) (fun j hj => by
    by_cases q : j = i + 9
    · rw [q, updE_s, updE_n (by omega), mixE_g (by omega)]; exact (hT.2.2.2.2.2.2.2.2.2.1).symm
    · rw [updE_n q])] at hP
  replace hP : va_P D vwCl (PW B (i + 10) (updE (mixE i E T) i (.inr (10, [.int 0, .int 0, .int 0, .ref (B + (i + 1)), .ref (B + (i + 2)), .ref (B + (i + 3)), .ref (B + (i + 4)), .ref (B + (i + 5)), .int 0, .ref (B + (i + 6)), .ref (B + (i + 7)), .int 0, .int 0, .int m1, .int 0, .int 0, .int 0, .int 0, .int 0, .int 0, .int 0, .ref (B + (i + 8)), .null, .null, .int 0, .int 0, .null, .null, .int 0, .null, .int 0])))) H := hP
  replace hz : H.size = B + (i + 10) := hz
  refine bw_putF (c' := 10) (f := 22) (fs := [.int 0, .int 0, .int 0, .ref (B + (i + 1)), .ref (B + (i + 2)), .ref (B + (i + 3)), .ref (B + (i + 4)), .ref (B + (i + 5)), .int 0, .ref (B + (i + 6)), .ref (B + (i + 7)), .int 0, .int 0, .int m1, .int 0, .int 0, .int 0, .int 0, .int 0, .int 0, .int 0, .ref (B + (i + 8)), .null, .null, .int 0, .int 0, .null, .null, .int 0, .null, .int 0]) (v := .ref (B + (i + 9))) hx hb hts hown (by decide) (by decide) hin (hts _ (cw10_at 10 rfl)) rfl rfl rfl rfl (Nat.le_of_ble_eq_true rfl) hK (by omega) updE_s hP hz hS d_82 (fun H locs hP hz hS => ?_)
  rw [updE_updE] at hP
  replace hP : va_P D vwCl (PW B (i + 10) (updE (mixE i E T) i (.inr (10, [.int 0, .int 0, .int 0, .ref (B + (i + 1)), .ref (B + (i + 2)), .ref (B + (i + 3)), .ref (B + (i + 4)), .ref (B + (i + 5)), .int 0, .ref (B + (i + 6)), .ref (B + (i + 7)), .int 0, .int 0, .int m1, .int 0, .int 0, .int 0, .int 0, .int 0, .int 0, .int 0, .ref (B + (i + 8)), .ref (B + (i + 9)), .null, .int 0, .int 0, .null, .null, .int 0, .null, .int 0])))) H := hP
  replace hz : H.size = B + (i + 10) := hz
  refine lv_aload_n hx hb d_85 rfl (lv_at hl 0 rfl) ?_
  refine lv_bipush (v := nI 26) hx hb d_86 (by decide) ?_
  refine bw_newi hx hb hts hK hP hz hS 26 (by omega) (by show 9 + 1 ≤ 13; omega) (by show 15530 + 26 ≤ 15698; omega) d_88 (fun H hP hz hS => ?_)
  refine W.widen (k := 10) (n := 15556) (by omega) (by omega) ?_
  rw [PW_congr (E' := updE (mixE i E T) i (.inr (10, [.int 0, .int 0, .int 0, .ref (B + (i + 1)), .ref (B + (i + 2)), .ref (B + (i + 3)), .ref (B + (i + 4)), .ref (B + (i + 5)), .int 0, .ref (B + (i + 6)), .ref (B + (i + 7)), .int 0, .int 0, .int m1, .int 0, .int 0, .int 0, .int 0, .int 0, .int 0, .int 0, .ref (B + (i + 8)), .ref (B + (i + 9)), .null, .int 0, .int 0, .null, .null, .int 0, .null, .int 0]))) (fun j hj => by
    by_cases q : j = i + 10
    · rw [q, updE_s, updE_n (by omega), mixE_g (by omega)]; exact (hT.2.2.2.2.2.2.2.2.2.2.1).symm
    · rw [updE_n q])] at hP
  replace hP : va_P D vwCl (PW B (i + 11) (updE (mixE i E T) i (.inr (10, [.int 0, .int 0, .int 0, .ref (B + (i + 1)), .ref (B + (i + 2)), .ref (B + (i + 3)), .ref (B + (i + 4)), .ref (B + (i + 5)), .int 0, .ref (B + (i + 6)), .ref (B + (i + 7)), .int 0, .int 0, .int m1, .int 0, .int 0, .int 0, .int 0, .int 0, .int 0, .int 0, .ref (B + (i + 8)), .ref (B + (i + 9)), .null, .int 0, .int 0, .null, .null, .int 0, .null, .int 0])))) H := hP
  replace hz : H.size = B + (i + 11) := hz
  refine bw_putF (c' := 10) (f := 23) (fs := [.int 0, .int 0, .int 0, .ref (B + (i + 1)), .ref (B + (i + 2)), .ref (B + (i + 3)), .ref (B + (i + 4)), .ref (B + (i + 5)), .int 0, .ref (B + (i + 6)), .ref (B + (i + 7)), .int 0, .int 0, .int m1, .int 0, .int 0, .int 0, .int 0, .int 0, .int 0, .int 0, .ref (B + (i + 8)), .ref (B + (i + 9)), .null, .int 0, .int 0, .null, .null, .int 0, .null, .int 0]) (v := .ref (B + (i + 10))) hx hb hts hown (by decide) (by decide) hin (hts _ (cw10_at 11 rfl)) rfl rfl rfl rfl (Nat.le_of_ble_eq_true rfl) hK (by omega) updE_s hP hz hS d_90 (fun H locs hP hz hS => ?_)
  rw [updE_updE] at hP
  replace hP : va_P D vwCl (PW B (i + 11) (updE (mixE i E T) i (.inr (10, [.int 0, .int 0, .int 0, .ref (B + (i + 1)), .ref (B + (i + 2)), .ref (B + (i + 3)), .ref (B + (i + 4)), .ref (B + (i + 5)), .int 0, .ref (B + (i + 6)), .ref (B + (i + 7)), .int 0, .int 0, .int m1, .int 0, .int 0, .int 0, .int 0, .int 0, .int 0, .int 0, .ref (B + (i + 8)), .ref (B + (i + 9)), .ref (B + (i + 10)), .int 0, .int 0, .null, .null, .int 0, .null, .int 0])))) H := hP
  replace hz : H.size = B + (i + 11) := hz
  refine lv_aload_n hx hb d_93 rfl (lv_at hl 0 rfl) ?_
  refine lv_bipush (v := nI 41) hx hb d_94 (by decide) ?_
  refine bw_newi hx hb hts hK hP hz hS 41 (by omega) (by show 10 + 1 ≤ 13; omega) (by show 15556 + 41 ≤ 15698; omega) d_96 (fun H hP hz hS => ?_)
  refine W.widen (k := 11) (n := 15597) (by omega) (by omega) ?_
  rw [PW_congr (E' := updE (mixE i E T) i (.inr (10, [.int 0, .int 0, .int 0, .ref (B + (i + 1)), .ref (B + (i + 2)), .ref (B + (i + 3)), .ref (B + (i + 4)), .ref (B + (i + 5)), .int 0, .ref (B + (i + 6)), .ref (B + (i + 7)), .int 0, .int 0, .int m1, .int 0, .int 0, .int 0, .int 0, .int 0, .int 0, .int 0, .ref (B + (i + 8)), .ref (B + (i + 9)), .ref (B + (i + 10)), .int 0, .int 0, .null, .null, .int 0, .null, .int 0]))) (fun j hj => by
    by_cases q : j = i + 11
    · rw [q, updE_s, updE_n (by omega), mixE_g (by omega)]; exact (hT.2.2.2.2.2.2.2.2.2.2.2.1).symm
    · rw [updE_n q])] at hP
  replace hP : va_P D vwCl (PW B (i + 12) (updE (mixE i E T) i (.inr (10, [.int 0, .int 0, .int 0, .ref (B + (i + 1)), .ref (B + (i + 2)), .ref (B + (i + 3)), .ref (B + (i + 4)), .ref (B + (i + 5)), .int 0, .ref (B + (i + 6)), .ref (B + (i + 7)), .int 0, .int 0, .int m1, .int 0, .int 0, .int 0, .int 0, .int 0, .int 0, .int 0, .ref (B + (i + 8)), .ref (B + (i + 9)), .ref (B + (i + 10)), .int 0, .int 0, .null, .null, .int 0, .null, .int 0])))) H := hP
  replace hz : H.size = B + (i + 12) := hz
  refine bw_putF (c' := 10) (f := 26) (fs := [.int 0, .int 0, .int 0, .ref (B + (i + 1)), .ref (B + (i + 2)), .ref (B + (i + 3)), .ref (B + (i + 4)), .ref (B + (i + 5)), .int 0, .ref (B + (i + 6)), .ref (B + (i + 7)), .int 0, .int 0, .int m1, .int 0, .int 0, .int 0, .int 0, .int 0, .int 0, .int 0, .ref (B + (i + 8)), .ref (B + (i + 9)), .ref (B + (i + 10)), .int 0, .int 0, .null, .null, .int 0, .null, .int 0]) (v := .ref (B + (i + 11))) hx hb hts hown (by decide) (by decide) hin (hts _ (cw10_at 12 rfl)) rfl rfl rfl rfl (Nat.le_of_ble_eq_true rfl) hK (by omega) updE_s hP hz hS d_98 (fun H locs hP hz hS => ?_)
  rw [updE_updE] at hP
  replace hP : va_P D vwCl (PW B (i + 12) (updE (mixE i E T) i (.inr (10, [.int 0, .int 0, .int 0, .ref (B + (i + 1)), .ref (B + (i + 2)), .ref (B + (i + 3)), .ref (B + (i + 4)), .ref (B + (i + 5)), .int 0, .ref (B + (i + 6)), .ref (B + (i + 7)), .int 0, .int 0, .int m1, .int 0, .int 0, .int 0, .int 0, .int 0, .int 0, .int 0, .ref (B + (i + 8)), .ref (B + (i + 9)), .ref (B + (i + 10)), .int 0, .int 0, .ref (B + (i + 11)), .null, .int 0, .null, .int 0])))) H := hP
  replace hz : H.size = B + (i + 12) := hz
  refine lv_aload_n hx hb d_101 rfl (lv_at hl 0 rfl) ?_
  refine lv_bipush (v := nI 41) hx hb d_102 (by decide) ?_
  refine bw_newi hx hb hts hK hP hz hS 41 (by omega) (by show 11 + 1 ≤ 13; omega) (by show 15597 + 41 ≤ 15698; omega) d_104 (fun H hP hz hS => ?_)
  refine W.widen (k := 12) (n := 15638) (by omega) (by omega) ?_
  rw [PW_congr (E' := updE (mixE i E T) i (.inr (10, [.int 0, .int 0, .int 0, .ref (B + (i + 1)), .ref (B + (i + 2)), .ref (B + (i + 3)), .ref (B + (i + 4)), .ref (B + (i + 5)), .int 0, .ref (B + (i + 6)), .ref (B + (i + 7)), .int 0, .int 0, .int m1, .int 0, .int 0, .int 0, .int 0, .int 0, .int 0, .int 0, .ref (B + (i + 8)), .ref (B + (i + 9)), .ref (B + (i + 10)), .int 0, .int 0, .ref (B + (i + 11)), .null, .int 0, .null, .int 0]))) (fun j hj => by
    by_cases q : j = i + 12
    · rw [q, updE_s, updE_n (by omega), mixE_g (by omega)]; exact (hT.2.2.2.2.2.2.2.2.2.2.2.2.1).symm
    · rw [updE_n q])] at hP
  replace hP : va_P D vwCl (PW B (i + 13) (updE (mixE i E T) i (.inr (10, [.int 0, .int 0, .int 0, .ref (B + (i + 1)), .ref (B + (i + 2)), .ref (B + (i + 3)), .ref (B + (i + 4)), .ref (B + (i + 5)), .int 0, .ref (B + (i + 6)), .ref (B + (i + 7)), .int 0, .int 0, .int m1, .int 0, .int 0, .int 0, .int 0, .int 0, .int 0, .int 0, .ref (B + (i + 8)), .ref (B + (i + 9)), .ref (B + (i + 10)), .int 0, .int 0, .ref (B + (i + 11)), .null, .int 0, .null, .int 0])))) H := hP
  replace hz : H.size = B + (i + 13) := hz
  refine bw_putF (c' := 10) (f := 27) (fs := [.int 0, .int 0, .int 0, .ref (B + (i + 1)), .ref (B + (i + 2)), .ref (B + (i + 3)), .ref (B + (i + 4)), .ref (B + (i + 5)), .int 0, .ref (B + (i + 6)), .ref (B + (i + 7)), .int 0, .int 0, .int m1, .int 0, .int 0, .int 0, .int 0, .int 0, .int 0, .int 0, .ref (B + (i + 8)), .ref (B + (i + 9)), .ref (B + (i + 10)), .int 0, .int 0, .ref (B + (i + 11)), .null, .int 0, .null, .int 0]) (v := .ref (B + (i + 12))) hx hb hts hown (by decide) (by decide) hin (hts _ (cw10_at 13 rfl)) rfl rfl rfl rfl (Nat.le_of_ble_eq_true rfl) hK (by omega) updE_s hP hz hS d_106 (fun H locs hP hz hS => ?_)
  rw [updE_updE] at hP
  replace hP : va_P D vwCl (PW B (i + 13) (updE (mixE i E T) i (.inr (10, [.int 0, .int 0, .int 0, .ref (B + (i + 1)), .ref (B + (i + 2)), .ref (B + (i + 3)), .ref (B + (i + 4)), .ref (B + (i + 5)), .int 0, .ref (B + (i + 6)), .ref (B + (i + 7)), .int 0, .int 0, .int m1, .int 0, .int 0, .int 0, .int 0, .int 0, .int 0, .int 0, .ref (B + (i + 8)), .ref (B + (i + 9)), .ref (B + (i + 10)), .int 0, .int 0, .ref (B + (i + 11)), .ref (B + (i + 12)), .int 0, .null, .int 0])))) H := hP
  replace hz : H.size = B + (i + 13) := hz
  refine lv_aload_n hx hb d_109 rfl (lv_at hl 0 rfl) ?_
  refine lv_bipush (v := nI 60) hx hb d_110 (by decide) ?_
  refine bw_newi hx hb hts hK hP hz hS 60 (by omega) (by show 12 + 1 ≤ 13; omega) (by show 15638 + 60 ≤ 15698; omega) d_112 (fun H hP hz hS => ?_)
  refine W.widen (k := 13) (n := 15698) (by omega) (by omega) ?_
  rw [PW_congr (E' := updE (mixE i E T) i (.inr (10, [.int 0, .int 0, .int 0, .ref (B + (i + 1)), .ref (B + (i + 2)), .ref (B + (i + 3)), .ref (B + (i + 4)), .ref (B + (i + 5)), .int 0, .ref (B + (i + 6)), .ref (B + (i + 7)), .int 0, .int 0, .int m1, .int 0, .int 0, .int 0, .int 0, .int 0, .int 0, .int 0, .ref (B + (i + 8)), .ref (B + (i + 9)), .ref (B + (i + 10)), .int 0, .int 0, .ref (B + (i + 11)), .ref (B + (i + 12)), .int 0, .null, .int 0]))) (fun j hj => by
    by_cases q : j = i + 13
    · rw [q, updE_s, updE_n (by omega), mixE_g (by omega)]; exact (hT.2.2.2.2.2.2.2.2.2.2.2.2.2).symm
    · rw [updE_n q])] at hP
  replace hP : va_P D vwCl (PW B (i + 14) (updE (mixE i E T) i (.inr (10, [.int 0, .int 0, .int 0, .ref (B + (i + 1)), .ref (B + (i + 2)), .ref (B + (i + 3)), .ref (B + (i + 4)), .ref (B + (i + 5)), .int 0, .ref (B + (i + 6)), .ref (B + (i + 7)), .int 0, .int 0, .int m1, .int 0, .int 0, .int 0, .int 0, .int 0, .int 0, .int 0, .ref (B + (i + 8)), .ref (B + (i + 9)), .ref (B + (i + 10)), .int 0, .int 0, .ref (B + (i + 11)), .ref (B + (i + 12)), .int 0, .null, .int 0])))) H := hP
  replace hz : H.size = B + (i + 14) := hz
  refine bw_putF (c' := 10) (f := 29) (fs := [.int 0, .int 0, .int 0, .ref (B + (i + 1)), .ref (B + (i + 2)), .ref (B + (i + 3)), .ref (B + (i + 4)), .ref (B + (i + 5)), .int 0, .ref (B + (i + 6)), .ref (B + (i + 7)), .int 0, .int 0, .int m1, .int 0, .int 0, .int 0, .int 0, .int 0, .int 0, .int 0, .ref (B + (i + 8)), .ref (B + (i + 9)), .ref (B + (i + 10)), .int 0, .int 0, .ref (B + (i + 11)), .ref (B + (i + 12)), .int 0, .null, .int 0]) (v := .ref (B + (i + 13))) hx hb hts hown (by decide) (by decide) hin (hts _ (cw10_at 14 rfl)) rfl rfl rfl rfl (Nat.le_of_ble_eq_true rfl) hK (by omega) updE_s hP hz hS d_114 (fun H locs hP hz hS => ?_)
  rw [updE_updE] at hP
  replace hP : va_P D vwCl (PW B (i + 14) (updE (mixE i E T) i (.inr (10, [.int 0, .int 0, .int 0, .ref (B + (i + 1)), .ref (B + (i + 2)), .ref (B + (i + 3)), .ref (B + (i + 4)), .ref (B + (i + 5)), .int 0, .ref (B + (i + 6)), .ref (B + (i + 7)), .int 0, .int 0, .int m1, .int 0, .int 0, .int 0, .int 0, .int 0, .int 0, .int 0, .ref (B + (i + 8)), .ref (B + (i + 9)), .ref (B + (i + 10)), .int 0, .int 0, .ref (B + (i + 11)), .ref (B + (i + 12)), .int 0, .ref (B + (i + 13)), .int 0])))) H := hP
  replace hz : H.size = B + (i + 14) := hz
  rw [updE_id ((mixE_g (Nat.le_refl i)).trans (hT.1))] at hP
  exact W.vret hx hb hr (fun t ht hW => ⟨rfl, by rw [ht]; exact hz, by rw [ht]; exact hP, hS.F ht⟩) hS.2.2 d_117 hlocks
end CT
