section CT
variable {B i : Nat} {D : va_G} {G : GG} {E T : Nat → va_E}
theorem dcw7 : decode cX7_init 0 = .ok (.aload_n 0, 1) ∧ decode cX7_init 1 = .ok (.invokespecial 1, 3) ∧ decode cX7_init 4 = .ok (.aload_n 0, 1) ∧ decode cX7_init 5 = .ok (.iconst 0, 1) ∧ decode cX7_init 6 = .ok (.iload_n 1, 1) ∧ decode cX7_init 7 = .ok (.invokestatic 7, 3) ∧ decode cX7_init 10 = .ok (.newarray .int, 2) ∧ decode cX7_init 12 = .ok (.putfield 13, 3) ∧ decode cX7_init 15 = .ok (.return_, 1) := by decide +kernel
def cw7 : List Jvm.Cond := [.methodLink (clsN 7) 1 objectInit, .methodLink (clsN 7) 7 Lib.Math.max.name, .fieldLink (clsN 7) 13 (clsN 7) (TT 7 0).2.1 (TT 7 0).2.2.1]
theorem cw7_at {w : Jvm.Cond} (i : Nat) (h : cw7[i]? = some w) : w ∈ lwG := by
  have key : (cw7.all (fun w => decide (w ∈ lw_tbl) && goodWord w)) = true := by decide +kernel
  have h := List.all_eq_true.mp key w (List.mem_of_getElem? h)
  simp only [Bool.and_eq_true, decide_eq_true_eq] at h
  exact List.mem_filter.mpr h
theorem ct_row (l : Launch) {N : Nat} (hT : RowH B G T i N) (hN : 0 < N) (hN2 : N ≤ 20000) (hE : E i = .inr (7, dfl 7)) : CTM l B D G yX7_init cX7_init 2 1 1 N i 2 [.int (nI N)] T E := by
  obtain ⟨d_0, d_1, d_4, d_5, d_6, d_7, d_10, d_12, d_15⟩ := dcw7
  refine Met.ofW (cc := cX7_init) (maxL := 2) (ret := none) (by decide) rfl ?_
  intro p e s m args below meth c s₁ Bd hml hv
  obtain ⟨rfl, hsz, hP0, hK⟩ := hv
  have hx := Bd.exec
  have hb := Bd.bytes
  have hr := Bd.returns
  have hlocks := Bd.notSynchronized
  have hin : meth.name = "<init>" := (name_of_methodNamed Bd.named Bd.method).1
  have hts0 := atoms_spec (ws := Jvm.Cond.code yX7_init cX7_init 2 none :: lwG) Bd.pre
  have hts : ∀ w ∈ lwG, w.before ([.ref (B + i), .int (nI N)] : List Value).toArray s = true := fun w hw => hts0 w (List.mem_cons_of_mem _ hw)
  have hown : s.vm.findClass (clsN 7) = some m.cls := findClass_of_methodNamed Bd.named
  have hBs : B ≤ s.heap.size := by omega
  have hS : va_S (ab B) s.heap s.heap [] := va_S.rf
  have hz : s.heap.size = B + (i + 1) := hsz
  have hP : va_P D vwCl (PW B (i + 1) (updE (mixE i E T) i (.inr (7, [.null])))) s.heap := by
    rw [← PW_congr (E := E)]
    · exact hP0
    · intro j hj
      by_cases q : j = i
      · rw [q, updE_s, hE]; rfl
      · rw [updE_n q, mixE_l (by omega)]
  have hl := lv_entry ([.ref (B + i), .int (nI N)]) (n := 2) (Nat.le_of_ble_eq_true rfl)
  rw [lg_entry_eq]
  generalize (lg_sl ([.ref (B + i), .int (nI N)]) ++ List.replicate (2 - (lg_sl ([.ref (B + i), .int (nI N)])).length) Slot.unset).toArray = ls at hl ⊢
  have hl : lv_has ls 2 [(0, .ref (B + i)), (1, .int (nI N))] := hl
  refine lv_aload_n hx hb d_0 rfl (lv_at hl 0 rfl) ?_
  refine W.objInit hx hb hown (hts _ (cw7_at 0 rfl)) (hts _ (bwW_at 0 rfl)) (hts _ (bwW_at 1 rfl)) rfl (by rw [hml]; exact hl.1) rfl d_1 (by show 1 ≤ 1; omega) (by show 2 * 0 + 0 + 12 ≤ 36 * 1; omega) ?_
  refine W.eq (g2 := F0 m 4 ls []) rfl ?_
  refine lv_aload_n hx hb d_4 rfl (lv_at hl 0 rfl) ?_
  refine lv_iconst (v := nI 0) hx hb d_5 (by decide) ?_
  refine lv_iload_n hx hb d_6 rfl (lv_at hl 1 rfl) ?_
  refine va_mmax hx hb (by rw [hml]; exact hl.1.symm) hown (hts _ (cw7_at 1 rfl)) (hts _ (bwW_at 4 rfl)) (hts _ (bwW_at 5 rfl)) (hts _ (bwW_at 6 rfl)) (by show 1 ≤ 1; omega) (by show 1 + 13 ≤ 36 * 1; omega) (Nat.zero_le _) (Nat.zero_le _) d_7 ?_
  rw [if_pos ((n_lt (by omega) (by omega)).mpr hN)]
  refine bw_newi hx hb hts hK hP hz hS N hN2 (by show 0 + 1 ≤ 1; omega) (by show 0 + N ≤ N; omega) d_10 (fun H hP hz hS => ?_)
  refine W.widen (k := 1) (n := N) (by omega) (by omega) ?_
  rw [PW_congr (E' := updE (mixE i E T) i (.inr (7, [.null]))) (fun j hj => by
    by_cases q : j = i + 1
    · rw [q, updE_s, updE_n (by omega), mixE_g (by omega)]; exact hT.2.symm
    · rw [updE_n q])] at hP
  replace hP : va_P D vwCl (PW B (i + 2) (updE (mixE i E T) i (.inr (7, [.null])))) H := hP
  replace hz : H.size = B + (i + 2) := hz
  refine bw_putF (c' := 7) (f := 0) (fs := [.null]) (v := .ref (B + (i + 1))) hx hb hts hown (by decide) (by decide) hin (hts _ (cw7_at 2 rfl)) rfl rfl rfl rfl (Nat.le_of_ble_eq_true rfl) hK (by omega) updE_s hP hz hS d_12 (fun H locs hP hz hS => ?_)
  rw [updE_updE] at hP
  replace hP : va_P D vwCl (PW B (i + 2) (updE (mixE i E T) i (.inr (7, [.ref (B + (i + 1))])))) H := hP
  rw [updE_id ((mixE_g (Nat.le_refl i)).trans hT.1)] at hP
  exact W.vret hx hb hr (fun t ht hW => ⟨rfl, by rw [ht]; exact hz, by rw [ht]; exact hP, hS.F ht⟩) hS.2.2 d_15 hlocks
end CT
