section CT
variable {B i : Nat} {D : va_G} {G : GG} {E T : Nat → va_E}
/-! the constructor of class 5 -/
def cw5 : List Jvm.Cond := [.methodLink (clsN 5) 3 objectInit, .fieldLink (clsN 5) 9 (clsN 5) (TT 5 8).2.1 (TT 5 8).2.2.1, .fieldLink (clsN 5) 15 (clsN 5) (TT 5 0).2.1 (TT 5 0).2.2.1, .fieldLink (clsN 5) 19 (clsN 5) (TT 5 1).2.1 (TT 5 1).2.2.1]
theorem cw5_at {w : Jvm.Cond} (i : Nat) (h : cw5[i]? = some w) : w ∈ lwG := by
  have key : (cw5.all (fun w => decide (w ∈ lw_tbl) && goodWord w)) = true := by decide +kernel
  have h := List.all_eq_true.mp key w (List.mem_of_getElem? h)
  simp only [Bool.and_eq_true, decide_eq_true_eq] at h
  exact List.mem_filter.mpr h
theorem dcw5_0 : decode cX5_init 0 = .ok (.aload_n 0, 1) ∧ decode cX5_init 1 = .ok (.invokespecial 3, 3) ∧ decode cX5_init 4 = .ok (.aload_n 0, 1) ∧ decode cX5_init 5 = .ok (.iconst (-1), 1) ∧ decode cX5_init 6 = .ok (.putfield 9, 3) ∧ decode cX5_init 9 = .ok (.aload_n 0, 1) ∧ decode cX5_init 10 = .ok (.aload_n 1, 1) ∧ decode cX5_init 11 = .ok (.putfield 15, 3) ∧ decode cX5_init 14 = .ok (.aload_n 0, 1) ∧ decode cX5_init 15 = .ok (.aload_n 2, 1) := by decide +kernel
theorem dcw5_1 : decode cX5_init 16 = .ok (.putfield 19, 3) ∧ decode cX5_init 19 = .ok (.return_, 1) := by decide +kernel
set_option maxHeartbeats 1000000 in
theorem ct_pars (l : Launch) {st tg : Nat} (hT : ParH B T i st tg) (hE : E i = .inr (5, dfl 5)) : CTM l B D G yX5_init cX5_init 3 1 0 0 i 1 [.ref (B + st), .ref (B + tg)] T E := by
  obtain ⟨d_0, d_1, d_4, d_5, d_6, d_9, d_10, d_11, d_14, d_15⟩ := dcw5_0
  obtain ⟨d_16, d_19⟩ := dcw5_1
  refine Met.ofW (cc := cX5_init) (maxL := 3) (ret := none) (by decide) rfl ?_
  intro p e s m args below meth c s₁ Bd hml hv
  obtain ⟨rfl, hsz, hP0, hK⟩ := hv
  have hx := Bd.exec
  have hb := Bd.bytes
  have hr := Bd.returns
  have hlocks := Bd.notSynchronized
  have hin : meth.name = "<init>" := (name_of_methodNamed Bd.named Bd.method).1
  have hts0 := atoms_spec (ws := Jvm.Cond.code yX5_init cX5_init 3 none :: lwG) Bd.pre
  have hts : ∀ w ∈ lwG, w.before ([.ref (B + i), .ref (B + st), .ref (B + tg)] : List Value).toArray s = true := fun w hw => hts0 w (List.mem_cons_of_mem _ hw)
  have hown : s.vm.findClass (clsN 5) = some m.cls := findClass_of_methodNamed Bd.named
  have hBs : B ≤ s.heap.size := by omega
  have hS : va_S (ab B) s.heap s.heap [] := va_S.rf
  have hz : s.heap.size = B + (i + 1) := hsz
  have hP : va_P D vwCl (PW B (i + 1) (updE (mixE i E T) i (.inr (5, [.null, .null, .int 0, .int 0, .int 0, .int 0, .int 0, .int 0, .int 0])))) s.heap := by
    rw [← PW_congr (E := E)]
    · exact hP0
    · intro j hj
      by_cases q : j = i
      · rw [q, updE_s, hE]; rfl
      · rw [updE_n q, mixE_l (by omega)]
  have hl := lv_entry ([.ref (B + i), .ref (B + st), .ref (B + tg)]) (n := 3) (Nat.le_of_ble_eq_true rfl)
  rw [lg_entry_eq]
  generalize (lg_sl ([.ref (B + i), .ref (B + st), .ref (B + tg)]) ++ List.replicate (3 - (lg_sl ([.ref (B + i), .ref (B + st), .ref (B + tg)])).length) Slot.unset).toArray = ls at hl ⊢
  have hl : lv_has ls 3 [(0, .ref (B + i)), (1, .ref (B + st)), (2, .ref (B + tg))] := hl
  refine lv_aload_n hx hb d_0 rfl (lv_at hl 0 rfl) ?_
  refine W.objInit hx hb hown (hts _ (cw5_at 0 rfl)) (hts _ (bwW_at 0 rfl)) (hts _ (bwW_at 1 rfl)) rfl (by rw [hml]; exact hl.1) rfl d_1 (by show 1 ≤ 1; omega) (by show 2 * 0 + 0 + 12 ≤ 36 * 1; omega) ?_
  refine W.eq (g2 := F0 m 4 ls []) rfl ?_
  refine lv_aload_n hx hb d_4 rfl (lv_at hl 0 rfl) ?_
  refine lv_iconst (v := m1) hx hb d_5 (by decide) ?_
  refine bw_put (c' := 5) (f := 8) (fs := [.null, .null, .int 0, .int 0, .int 0, .int 0, .int 0, .int 0, .int 0]) (v := .int m1) hx hb hts hown (by decide) (by decide) (hts _ (cw5_at 1 rfl)) rfl rfl rfl rfl (Nat.le_of_ble_eq_true rfl) hK (by omega) updE_s hP hz hS d_6 (fun H locs hP hz hS => ?_)
  rw [updE_updE] at hP
  replace hP : va_P D vwCl (PW B (i + 1) (updE (mixE i E T) i (.inr (5, [.null, .null, .int 0, .int 0, .int 0, .int 0, .int 0, .int 0, .int m1])))) H := hP
  replace hz : H.size = B + (i + 1) := hz
  refine lv_aload_n hx hb d_9 rfl (lv_at hl 0 rfl) ?_
  refine lv_aload_n hx hb d_10 rfl (lv_at hl 1 rfl) ?_
  refine bw_putF (c' := 5) (f := 0) (fs := [.null, .null, .int 0, .int 0, .int 0, .int 0, .int 0, .int 0, .int m1]) (v := .ref (B + st)) hx hb hts hown (by decide) (by decide) hin (hts _ (cw5_at 2 rfl)) rfl rfl rfl rfl (Nat.le_of_ble_eq_true rfl) hK (by omega) updE_s hP hz hS d_11 (fun H locs hP hz hS => ?_)
  rw [updE_updE] at hP
  replace hP : va_P D vwCl (PW B (i + 1) (updE (mixE i E T) i (.inr (5, [.ref (B + st), .null, .int 0, .int 0, .int 0, .int 0, .int 0, .int 0, .int m1])))) H := hP
  replace hz : H.size = B + (i + 1) := hz
  refine lv_aload_n hx hb d_14 rfl (lv_at hl 0 rfl) ?_
  refine lv_aload_n hx hb d_15 rfl (lv_at hl 2 rfl) ?_
  refine bw_putF (c' := 5) (f := 1) (fs := [.ref (B + st), .null, .int 0, .int 0, .int 0, .int 0, .int 0, .int 0, .int m1]) (v := .ref (B + tg)) hx hb hts hown (by decide) (by decide) hin (hts _ (cw5_at 3 rfl)) rfl rfl rfl rfl (Nat.le_of_ble_eq_true rfl) hK (by omega) updE_s hP hz hS d_16 (fun H locs hP hz hS => ?_)
  rw [updE_updE] at hP
  replace hP : va_P D vwCl (PW B (i + 1) (updE (mixE i E T) i (.inr (5, [.ref (B + st), .ref (B + tg), .int 0, .int 0, .int 0, .int 0, .int 0, .int 0, .int m1])))) H := hP
  replace hz : H.size = B + (i + 1) := hz
  rw [updE_id ((mixE_g (Nat.le_refl i)).trans (hT))] at hP
  exact W.vret hx hb hr (fun t ht hW => ⟨rfl, by rw [ht]; exact hz, by rw [ht]; exact hP, hS.F ht⟩) hS.2.2 d_19 hlocks
/-! the constructor of class 8 -/
def cw8 : List Jvm.Cond := [.methodLink (clsN 8) 1 objectInit, .classLink (clsN 8) 7 (clsN 3), .code yX3_init cX3_init 1 none, .instanceMethod yX3_init, .fieldLink (clsN 8) 10 (clsN 8) (TT 8 0).2.1 (TT 8 0).2.2.1]
theorem cw8_at {w : Jvm.Cond} (i : Nat) (h : cw8[i]? = some w) : w ∈ lwG := by
  have key : (cw8.all (fun w => decide (w ∈ lw_tbl) && goodWord w)) = true := by decide +kernel
  have h := List.all_eq_true.mp key w (List.mem_of_getElem? h)
  simp only [Bool.and_eq_true, decide_eq_true_eq] at h
  exact List.mem_filter.mpr h
theorem dcw8_0 : decode cX8_init 0 = .ok (.aload_n 0, 1) ∧ decode cX8_init 1 = .ok (.invokespecial 1, 3) ∧ decode cX8_init 4 = .ok (.aload_n 0, 1) ∧ decode cX8_init 5 = .ok (.new 7, 3) ∧ decode cX8_init 8 = .ok (.dup, 1) ∧ decode cX8_init 9 = .ok (.invokespecial 9, 3) ∧ decode cX8_init 12 = .ok (.putfield 10, 3) ∧ decode cX8_init 15 = .ok (.return_, 1) := by decide +kernel
set_option maxHeartbeats 1000000 in
theorem ct_slot (l : Launch) (hT : SloH B G T i) (hE : E i = .inr (8, dfl 8)) : CTM l B D G yX8_init cX8_init 1 4 25 1233 i 26 [] T E := by
  obtain ⟨d_0, d_1, d_4, d_5, d_8, d_9, d_12, d_15⟩ := dcw8_0
  refine Met.ofW (cc := cX8_init) (maxL := 1) (ret := none) (by decide) rfl ?_
  intro p e s m args below meth c s₁ Bd hml hv
  obtain ⟨rfl, hsz, hP0, hK⟩ := hv
  have hx := Bd.exec
  have hb := Bd.bytes
  have hr := Bd.returns
  have hlocks := Bd.notSynchronized
  have hin : meth.name = "<init>" := (name_of_methodNamed Bd.named Bd.method).1
  have hts0 := atoms_spec (ws := Jvm.Cond.code yX8_init cX8_init 1 none :: lwG) Bd.pre
  have hts : ∀ w ∈ lwG, w.before ([.ref (B + i)] : List Value).toArray s = true := fun w hw => hts0 w (List.mem_cons_of_mem _ hw)
  have hown : s.vm.findClass (clsN 8) = some m.cls := findClass_of_methodNamed Bd.named
  have hBs : B ≤ s.heap.size := by omega
  have hS : va_S (ab B) s.heap s.heap [] := va_S.rf
  have hz : s.heap.size = B + (i + 1) := hsz
  have hP : va_P D vwCl (PW B (i + 1) (updE (mixE i E T) i (.inr (8, [.null, .int 0])))) s.heap := by
    rw [← PW_congr (E := E)]
    · exact hP0
    · intro j hj
      by_cases q : j = i
      · rw [q, updE_s, hE]; rfl
      · rw [updE_n q, mixE_l (by omega)]
  have hl := lv_entry ([.ref (B + i)]) (n := 1) (Nat.le_of_ble_eq_true rfl)
  rw [lg_entry_eq]
  generalize (lg_sl ([.ref (B + i)]) ++ List.replicate (1 - (lg_sl ([.ref (B + i)])).length) Slot.unset).toArray = ls at hl ⊢
  have hl : lv_has ls 1 [(0, .ref (B + i))] := hl
  refine lv_aload_n hx hb d_0 rfl (lv_at hl 0 rfl) ?_
  refine W.objInit hx hb hown (hts _ (cw8_at 0 rfl)) (hts _ (bwW_at 0 rfl)) (hts _ (bwW_at 1 rfl)) rfl (by rw [hml]; exact hl.1) rfl d_1 (by show 1 ≤ 4; omega) (by show 2 * 0 + 0 + 12 ≤ 36 * 4; omega) ?_
  refine W.eq (g2 := F0 m 4 ls []) rfl ?_
  refine lv_aload_n hx hb d_4 rfl (lv_at hl 0 rfl) ?_
  refine bw_new (c' := 3) hx hb hts hown (by decide) (hts _ (cw8_at 1 rfl)) hK hP hz hS hBs (by show 0 + 1 ≤ 25; omega) (by show 0 + 10 ≤ 1233; omega) d_5 (fun H hP hz hS => ?_)
  refine W.widen (k := 1) (n := 10) (by omega) (show 0 + nF 3 ≤ 10 from Nat.le_of_ble_eq_true rfl) ?_
  refine lv_dup hx hb d_8 rfl ?_
  refine bw_callN (k := i + 1) (n := 0) (cnt := 25) (as := []) (rest := [.ref (B + (i + 1)), .ref (B + i)]) hx hb hml hl.1 hts hown (fun j hj => by rw [updE_n (by omega), mixE_g (by omega)]) (ct_mach l hT.2 updE_s) (cw8_at 2 rfl) (clsW 3 (by decide)).2 (hK.2.1 _ (List.mem_of_getElem? (i := 3) rfl)) (cw8_at 3 rfl) rfl (by decide +kernel) rfl (by decide) (by show 3 + 1 ≤ 4; omega) (by show 36 * (3 + 1) ≤ 36 * 4; omega) hK hP hz hS (by show 1 + 24 ≤ 25; omega) (by show 10 + 1223 ≤ 1233; omega) (Nat.le_of_ble_eq_true rfl) d_9 (fun H locs hP hz hS => ?_)
  refine W.widen (k := 25) (n := 1233) (by omega) (by omega) ?_
  replace hP : va_P D vwCl (PW B (i + 26) (updE (mixE i E T) i (.inr (8, [.null, .int 0])))) H := hP
  replace hz : H.size = B + (i + 26) := hz
  refine bw_putF (c' := 8) (f := 0) (fs := [.null, .int 0]) (v := .ref (B + (i + 1))) hx hb hts hown (by decide) (by decide) hin (hts _ (cw8_at 4 rfl)) rfl rfl rfl rfl (Nat.le_of_ble_eq_true rfl) hK (by omega) updE_s hP hz hS d_12 (fun H locs hP hz hS => ?_)
  rw [updE_updE] at hP
  replace hP : va_P D vwCl (PW B (i + 26) (updE (mixE i E T) i (.inr (8, [.ref (B + (i + 1)), .int 0])))) H := hP
  replace hz : H.size = B + (i + 26) := hz
  rw [updE_id ((mixE_g (Nat.le_refl i)).trans (hT.1))] at hP
  exact W.vret hx hb hr (fun t ht hW => ⟨rfl, by rw [ht]; exact hz, by rw [ht]; exact hP, hS.F ht⟩) hS.2.2 d_15 hlocks
end CT
