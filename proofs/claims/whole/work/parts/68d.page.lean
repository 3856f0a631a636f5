section CT
variable {B i : Nat} {D : va_G} {G : GG} {E T : Nat → va_E}
/-! the constructor of class 4 -/
def cw4 : List Jvm.Cond := [.methodLink (clsN 4) 3 objectInit, .classLink (clsN 4) 9 (clsN 7), .methodLink (clsN 4) 11 yX7_init, .code yX7_init cX7_init 2 none, .instanceMethod yX7_init, .fieldLink (clsN 4) 14 (clsN 4) (TT 4 1).2.1 (TT 4 1).2.2.1, .fieldLink (clsN 4) 20 (clsN 4) (TT 4 2).2.1 (TT 4 2).2.2.1, .fieldLink (clsN 4) 23 (clsN 4) (TT 4 0).2.1 (TT 4 0).2.2.1]
theorem cw4_at {w : Jvm.Cond} (i : Nat) (h : cw4[i]? = some w) : w ∈ lwG := by
  have key : (cw4.all (fun w => decide (w ∈ lw_tbl) && goodWord w)) = true := by decide +kernel
  have h := List.all_eq_true.mp key w (List.mem_of_getElem? h)
  simp only [Bool.and_eq_true, decide_eq_true_eq] at h
  exact List.mem_filter.mpr h
theorem dcw4_0 : decode cX4_init 0 = .ok (.aload_n 0, 1) ∧ decode cX4_init 1 = .ok (.invokespecial 3, 3) ∧ decode cX4_init 4 = .ok (.aload_n 0, 1) ∧ decode cX4_init 5 = .ok (.new 9, 3) ∧ decode cX4_init 8 = .ok (.dup, 1) ∧ decode cX4_init 9 = .ok (.sipush 480, 3) ∧ decode cX4_init 12 = .ok (.invokespecial 11, 3) ∧ decode cX4_init 15 = .ok (.putfield 14, 3) ∧ decode cX4_init 18 = .ok (.aload_n 0, 1) ∧ decode cX4_init 19 = .ok (.new 9, 3) := by decide +kernel
theorem dcw4_1 : decode cX4_init 22 = .ok (.dup, 1) ∧ decode cX4_init 23 = .ok (.sipush 480, 3) ∧ decode cX4_init 26 = .ok (.invokespecial 11, 3) ∧ decode cX4_init 29 = .ok (.putfield 20, 3) ∧ decode cX4_init 32 = .ok (.aload_n 0, 1) ∧ decode cX4_init 33 = .ok (.aload_n 1, 1) ∧ decode cX4_init 34 = .ok (.putfield 23, 3) ∧ decode cX4_init 37 = .ok (.return_, 1) := by decide +kernel
set_option maxHeartbeats 1000000 in
theorem ct_page (l : Launch) {st : Nat} (hT : PagH B G T i st) (hE : E i = .inr (4, dfl 4)) : CTM l B D G yX4_init cX4_init 2 2 4 962 i 5 [.ref (B + st)] T E := by
  obtain ⟨d_0, d_1, d_4, d_5, d_8, d_9, d_12, d_15, d_18, d_19⟩ := dcw4_0
  obtain ⟨d_22, d_23, d_26, d_29, d_32, d_33, d_34, d_37⟩ := dcw4_1
  refine Met.ofW (cc := cX4_init) (maxL := 2) (ret := none) (by decide) rfl ?_
  intro p e s m args below meth c s₁ Bd hml hv
  obtain ⟨rfl, hsz, hP0, hK⟩ := hv
  have hx := Bd.exec
  have hb := Bd.bytes
  have hr := Bd.returns
  have hlocks := Bd.notSynchronized
  have hin : meth.name = "<init>" := (name_of_methodNamed Bd.named Bd.method).1
  have hts0 := atoms_spec (ws := Jvm.Cond.code yX4_init cX4_init 2 none :: lwG) Bd.pre
  have hts : ∀ w ∈ lwG, w.before ([.ref (B + i), .ref (B + st)] : List Value).toArray s = true := fun w hw => hts0 w (List.mem_cons_of_mem _ hw)
  have hown : s.vm.findClass (clsN 4) = some m.cls := findClass_of_methodNamed Bd.named
  have hBs : B ≤ s.heap.size := by omega
  have hS : va_S (ab B) s.heap s.heap [] := va_S.rf
  have hz : s.heap.size = B + (i + 1) := hsz
  have hP : va_P D vwCl (PW B (i + 1) (updE (mixE i E T) i (.inr (4, [.null, .null, .null])))) s.heap := by
    rw [← PW_congr (E := E)]
    · exact hP0
    · intro j hj
      by_cases q : j = i
      · rw [q, updE_s, hE]; rfl
      · rw [updE_n q, mixE_l (by omega)]
  have hl := lv_entry ([.ref (B + i), .ref (B + st)]) (n := 2) (Nat.le_of_ble_eq_true rfl)
  rw [lg_entry_eq]
  generalize (lg_sl ([.ref (B + i), .ref (B + st)]) ++ List.replicate (2 - (lg_sl ([.ref (B + i), .ref (B + st)])).length) Slot.unset).toArray = ls at hl ⊢
  have hl : lv_has ls 2 [(0, .ref (B + i)), (1, .ref (B + st))] := hl
  refine lv_aload_n hx hb d_0 rfl (lv_at hl 0 rfl) ?_
  refine W.objInit hx hb hown (hts _ (cw4_at 0 rfl)) (hts _ (bwW_at 0 rfl)) (hts _ (bwW_at 1 rfl)) rfl (by rw [hml]; exact hl.1) rfl d_1 (by show 1 ≤ 2; omega) (by show 2 * 0 + 0 + 12 ≤ 36 * 2; omega) ?_
  refine W.eq (g2 := F0 m 4 ls []) rfl ?_
  refine lv_aload_n hx hb d_4 rfl (lv_at hl 0 rfl) ?_
  refine bw_new (c' := 7) hx hb hts hown (by decide) (hts _ (cw4_at 1 rfl)) hK hP hz hS hBs (by show 0 + 1 ≤ 4; omega) (by show 0 + 1 ≤ 962; omega) d_5 (fun H hP hz hS => ?_)
  refine W.widen (k := 1) (n := 1) (by omega) (show 0 + nF 7 ≤ 1 from Nat.le_of_ble_eq_true rfl) ?_
  refine lv_dup hx hb d_8 rfl ?_
  refine lv_sipush (v := nI 480) hx hb d_9 (by decide) ?_
  refine bw_call (k := i + 1) (n := 1) (cnt := 2) (as := [.int (nI 480)]) (rest := [.ref (B + (i + 1)), .ref (B + i)]) hx hb hml hl.1 hts hown (fun j hj => by rw [updE_n (by omega), mixE_g (by omega)]) (ct_row l hT.2.1 (by omega) (by omega) updE_s) (cw4_at 3 rfl) (clsW 7 (by decide)).2 (hts _ (cw4_at 2 rfl)) (cw4_at 4 rfl) rfl (by decide +kernel) rfl (by decide) (by show 1 + 1 ≤ 2; omega) (by show 36 * (1 + 1) ≤ 36 * 2; omega) hK hP hz hS (by show 1 + 1 ≤ 4; omega) (by show 1 + 480 ≤ 962; omega) (Nat.le_of_ble_eq_true rfl) d_12 (fun H locs hP hz hS => ?_)
  refine W.widen (k := 2) (n := 481) (by omega) (by omega) ?_
  replace hP : va_P D vwCl (PW B (i + 3) (updE (mixE i E T) i (.inr (4, [.null, .null, .null])))) H := hP
  replace hz : H.size = B + (i + 3) := hz
  refine bw_putF (c' := 4) (f := 1) (fs := [.null, .null, .null]) (v := .ref (B + (i + 1))) hx hb hts hown (by decide) (by decide) hin (hts _ (cw4_at 5 rfl)) rfl rfl rfl rfl (Nat.le_of_ble_eq_true rfl) hK (by omega) updE_s hP hz hS d_15 (fun H locs hP hz hS => ?_)
  rw [updE_updE] at hP
  replace hP : va_P D vwCl (PW B (i + 3) (updE (mixE i E T) i (.inr (4, [.null, .ref (B + (i + 1)), .null])))) H := hP
  replace hz : H.size = B + (i + 3) := hz
  refine lv_aload_n hx hb d_18 rfl (lv_at hl 0 rfl) ?_
  refine bw_new (c' := 7) hx hb hts hown (by decide) (hts _ (cw4_at 1 rfl)) hK hP hz hS hBs (by show 2 + 1 ≤ 4; omega) (by show 481 + 1 ≤ 962; omega) d_19 (fun H hP hz hS => ?_)
  refine W.widen (k := 3) (n := 482) (by omega) (show 481 + nF 7 ≤ 482 from Nat.le_of_ble_eq_true rfl) ?_
  refine lv_dup hx hb d_22 rfl ?_
  refine lv_sipush (v := nI 480) hx hb d_23 (by decide) ?_
  refine bw_call (k := i + 3) (n := 1) (cnt := 2) (as := [.int (nI 480)]) (rest := [.ref (B + (i + 3)), .ref (B + i)]) hx hb hml hl.1 hts hown (fun j hj => by rw [updE_n (by omega), mixE_g (by omega)]) (ct_row l hT.2.2 (by omega) (by omega) updE_s) (cw4_at 3 rfl) (clsW 7 (by decide)).2 (hts _ (cw4_at 2 rfl)) (cw4_at 4 rfl) rfl (by decide +kernel) rfl (by decide) (by show 1 + 1 ≤ 2; omega) (by show 36 * (1 + 1) ≤ 36 * 2; omega) hK hP hz hS (by show 3 + 1 ≤ 4; omega) (by show 482 + 480 ≤ 962; omega) (Nat.le_of_ble_eq_true rfl) d_26 (fun H locs hP hz hS => ?_)
  refine W.widen (k := 4) (n := 962) (by omega) (by omega) ?_
  replace hP : va_P D vwCl (PW B (i + 5) (updE (mixE i E T) i (.inr (4, [.null, .ref (B + (i + 1)), .null])))) H := hP
  replace hz : H.size = B + (i + 5) := hz
  refine bw_putF (c' := 4) (f := 2) (fs := [.null, .ref (B + (i + 1)), .null]) (v := .ref (B + (i + 3))) hx hb hts hown (by decide) (by decide) hin (hts _ (cw4_at 6 rfl)) rfl rfl rfl rfl (Nat.le_of_ble_eq_true rfl) hK (by omega) updE_s hP hz hS d_29 (fun H locs hP hz hS => ?_)
  rw [updE_updE] at hP
  replace hP : va_P D vwCl (PW B (i + 5) (updE (mixE i E T) i (.inr (4, [.null, .ref (B + (i + 1)), .ref (B + (i + 3))])))) H := hP
  replace hz : H.size = B + (i + 5) := hz
  refine lv_aload_n hx hb d_32 rfl (lv_at hl 0 rfl) ?_
  refine lv_aload_n hx hb d_33 rfl (lv_at hl 1 rfl) ?_
  refine bw_putF (c' := 4) (f := 0) (fs := [.null, .ref (B + (i + 1)), .ref (B + (i + 3))]) (v := .ref (B + st)) hx hb hts hown (by decide) (by decide) hin (hts _ (cw4_at 7 rfl)) rfl rfl rfl rfl (Nat.le_of_ble_eq_true rfl) hK (by omega) updE_s hP hz hS d_34 (fun H locs hP hz hS => ?_)
  rw [updE_updE] at hP
  replace hP : va_P D vwCl (PW B (i + 5) (updE (mixE i E T) i (.inr (4, [.ref (B + st), .ref (B + (i + 1)), .ref (B + (i + 3))])))) H := hP
  replace hz : H.size = B + (i + 5) := hz
  rw [updE_id ((mixE_g (Nat.le_refl i)).trans (hT.1))] at hP
  exact W.vret hx hb hr (fun t ht hW => ⟨rfl, by rw [ht]; exact hz, by rw [ht]; exact hP, hS.F ht⟩) hS.2.2 d_37 hlocks
end CT
