/-! ===== the shapes of the law's own methods ===== -/
section WSH
variable {l : Launch} {B : Nat} {D : va_G} {G : GG} {L : GL} {adK adV adM : Nat → Nat} {hp hp1 : HP} {f : Nat → Int64} {g : Nat → UInt64}
def bV (x : Int32) : Int64 := if x = 0 then 0 else 1
theorem wr_0i {y : MethodName} {bytes : ByteArray} {hh : List (Nat × Nat × Nat × Nat)} {idx μ : Nat} {x : Int32} {off : Int} {e0 : Nat} (hy : plainName y.cls = true) (hcl : y.cls = RL) (hd1 : decode bytes 0 = .ok (.aload_n 1, 1) ∧ decode bytes 1 = .ok (.iconst 0, 1) ∧ decode bytes 2 = .ok (.aload_n 0, 1) ∧ decode bytes 3 = .ok (.invokevirtual idx, 3)) (hd2 : decode bytes 6 = .ok (.i2l, 1) ∧ decode bytes 7 = .ok (.lastore, 1) ∧ decode bytes 8 = .ok (.goto off, 3) ∧ decode bytes e0 = .ok (.iconst 0, 1) ∧ decode bytes (e0 + 1) = .ok (.ireturn, 1)) (ho : (8 : Int) + off = (e0 : Int)) (hμ : μ < 290) (hst : (mus μ).2.1 = false) (hcm : clOf μ = 9) (hn : (mus μ).2.2 = 0) (hlk : Jvm.Cond.methodLink RL idx (nameOf μ) ∈ lwG) (hc : Calls 9 μ (vR (9, 0, 0) :: []) hp (.inl (some (vI x)), hp1)) :
    WrM l B D G L adK adV adM y bytes 3 hh [.ref B, .ref (B + 326)] hp f g 0 hp1 (vp_updL f 0 x.toInt64) g := by
  refine wr_of hy hcl (Nat.le_of_ble_eq_true rfl) ?_
  intro p e s m below meth c sl hx hb hml hr hlocks hts hown htab hP hE hl
  have hl : lv_has sl 3 [(0, .ref B), (1, .ref (B + 326))] := hl
  obtain ⟨d0, d1, d2, d3⟩ := hd1
  refine lv_aload_n hx hb d0 rfl (lv_at hl 1 rfl) ?_
  refine lv_iconst (v := 0) hx hb d1 rfl ?_
  refine lv_aload_n hx hb d2 rfl (lv_at hl 0 rfl) ?_
  refine W.eq (g2 := F0 m 3 sl ((([] : List VL).map (toV B adK)).reverse ++ .ref (B + adr (9, 0, 0)) :: [.int 0, .ref (B + 326)])) (by rw [a9_0]; rfl) ?_
  obtain ⟨f0, f1, f2, f3, f4⟩ := hd2
  refine lc_call (own := RL) (jst_ok l) hx hb hml hl.1 hts hown hE hμ hst r9_in (by decide) hcm hn.symm (fun w hw => absurd hw List.not_mem_nil) hc hlk (Nat.le_of_ble_eq_true rfl) (Nat.le_of_ble_eq_true rfl) (Nat.le_of_ble_eq_true rfl) hP va_S.rf (Nat.zero_le _) (Nat.zero_le _) d3 (fun H locs hP hS => ?_)
  refine lv_i2l (x := x) (v := x.toInt64) hx hb f0 rfl ?_
  refine lc_last hx hb hE hP hS f1 (fun H locs hP hS => ?_)
  refine lv_goto hx hb f2 ho ?_
  refine lv_iconst (v := 0) hx hb f3 rfl ?_
  exact lc_end hx hb hr hlocks (by omega) (by omega) hP hS f4
theorem wr_1i {y : MethodName} {bytes : ByteArray} {hh : List (Nat × Nat × Nat × Nat)} {idx μ : Nat} {a0 : Int32} {x : Int32} {off : Int} {e0 : Nat} (hy : plainName y.cls = true) (hcl : y.cls = RL) (hd1 : decode bytes 0 = .ok (.aload_n 2, 1) ∧ decode bytes 1 = .ok (.iconst 0, 1) ∧ decode bytes 2 = .ok (.aload_n 0, 1) ∧ decode bytes 3 = .ok (.iload_n 1, 1) ∧ decode bytes 4 = .ok (.invokevirtual idx, 3)) (hd2 : decode bytes 7 = .ok (.i2l, 1) ∧ decode bytes 8 = .ok (.lastore, 1) ∧ decode bytes 9 = .ok (.goto off, 3) ∧ decode bytes e0 = .ok (.iconst 0, 1) ∧ decode bytes (e0 + 1) = .ok (.ireturn, 1)) (ho : (9 : Int) + off = (e0 : Int)) (hμ : μ < 290) (hst : (mus μ).2.1 = false) (hcm : clOf μ = 9) (hn : (mus μ).2.2 = 1) (hlk : Jvm.Cond.methodLink RL idx (nameOf μ) ∈ lwG) (hc : Calls 9 μ (vR (9, 0, 0) :: [vI a0]) hp (.inl (some (vI x)), hp1)) :
    WrM l B D G L adK adV adM y bytes 4 hh [.ref B, .int a0, .ref (B + 326)] hp f g 0 hp1 (vp_updL f 0 x.toInt64) g := by
  refine wr_of hy hcl (Nat.le_of_ble_eq_true rfl) ?_
  intro p e s m below meth c sl hx hb hml hr hlocks hts hown htab hP hE hl
  have hl : lv_has sl 4 [(0, .ref B), (1, .int a0), (2, .ref (B + 326))] := hl
  obtain ⟨d0, d1, d2, d3, d4⟩ := hd1
  refine lv_aload_n hx hb d0 rfl (lv_at hl 2 rfl) ?_
  refine lv_iconst (v := 0) hx hb d1 rfl ?_
  refine lv_aload_n hx hb d2 rfl (lv_at hl 0 rfl) ?_
  refine lv_iload_n hx hb d3 rfl (lv_at hl 1 rfl) ?_
  refine W.eq (g2 := F0 m 4 sl ((([vI a0] : List VL).map (toV B adK)).reverse ++ .ref (B + adr (9, 0, 0)) :: [.int 0, .ref (B + 326)])) (by rw [a9_0]; rfl) ?_
  obtain ⟨f0, f1, f2, f3, f4⟩ := hd2
  refine lc_call (own := RL) (jst_ok l) hx hb hml hl.1 hts hown hE hμ hst r9_in (by decide) hcm hn.symm (fun w hw => by simp only [List.mem_cons, List.not_mem_nil, or_false] at hw; rcases hw with rfl <;> exact trivial) hc hlk (Nat.le_of_ble_eq_true rfl) (Nat.le_of_ble_eq_true rfl) (Nat.le_of_ble_eq_true rfl) hP va_S.rf (Nat.zero_le _) (Nat.zero_le _) d4 (fun H locs hP hS => ?_)
  refine lv_i2l (x := x) (v := x.toInt64) hx hb f0 rfl ?_
  refine lc_last hx hb hE hP hS f1 (fun H locs hP hS => ?_)
  refine lv_goto hx hb f2 ho ?_
  refine lv_iconst (v := 0) hx hb f3 rfl ?_
  exact lc_end hx hb hr hlocks (by omega) (by omega) hP hS f4
theorem wr_2i {y : MethodName} {bytes : ByteArray} {hh : List (Nat × Nat × Nat × Nat)} {idx μ : Nat} {a0 : Int32} {a1 : Int32} {x : Int32} {off : Int} {e0 : Nat} (hy : plainName y.cls = true) (hcl : y.cls = RL) (hd1 : decode bytes 0 = .ok (.aload_n 3, 1) ∧ decode bytes 1 = .ok (.iconst 0, 1) ∧ decode bytes 2 = .ok (.aload_n 0, 1) ∧ decode bytes 3 = .ok (.iload_n 1, 1) ∧ decode bytes 4 = .ok (.iload_n 2, 1) ∧ decode bytes 5 = .ok (.invokevirtual idx, 3)) (hd2 : decode bytes 8 = .ok (.i2l, 1) ∧ decode bytes 9 = .ok (.lastore, 1) ∧ decode bytes 10 = .ok (.goto off, 3) ∧ decode bytes e0 = .ok (.iconst 0, 1) ∧ decode bytes (e0 + 1) = .ok (.ireturn, 1)) (ho : (10 : Int) + off = (e0 : Int)) (hμ : μ < 290) (hst : (mus μ).2.1 = false) (hcm : clOf μ = 9) (hn : (mus μ).2.2 = 2) (hlk : Jvm.Cond.methodLink RL idx (nameOf μ) ∈ lwG) (hc : Calls 9 μ (vR (9, 0, 0) :: [vI a0, vI a1]) hp (.inl (some (vI x)), hp1)) :
    WrM l B D G L adK adV adM y bytes 5 hh [.ref B, .int a0, .int a1, .ref (B + 326)] hp f g 0 hp1 (vp_updL f 0 x.toInt64) g := by
  refine wr_of hy hcl (Nat.le_of_ble_eq_true rfl) ?_
  intro p e s m below meth c sl hx hb hml hr hlocks hts hown htab hP hE hl
  have hl : lv_has sl 5 [(0, .ref B), (1, .int a0), (2, .int a1), (3, .ref (B + 326))] := hl
  obtain ⟨d0, d1, d2, d3, d4, d5⟩ := hd1
  refine lv_aload_n hx hb d0 rfl (lv_at hl 3 rfl) ?_
  refine lv_iconst (v := 0) hx hb d1 rfl ?_
  refine lv_aload_n hx hb d2 rfl (lv_at hl 0 rfl) ?_
  refine lv_iload_n hx hb d3 rfl (lv_at hl 1 rfl) ?_
  refine lv_iload_n hx hb d4 rfl (lv_at hl 2 rfl) ?_
  refine W.eq (g2 := F0 m 5 sl ((([vI a0, vI a1] : List VL).map (toV B adK)).reverse ++ .ref (B + adr (9, 0, 0)) :: [.int 0, .ref (B + 326)])) (by rw [a9_0]; rfl) ?_
  obtain ⟨f0, f1, f2, f3, f4⟩ := hd2
  refine lc_call (own := RL) (jst_ok l) hx hb hml hl.1 hts hown hE hμ hst r9_in (by decide) hcm hn.symm (fun w hw => by simp only [List.mem_cons, List.not_mem_nil, or_false] at hw; rcases hw with rfl | rfl <;> exact trivial) hc hlk (Nat.le_of_ble_eq_true rfl) (Nat.le_of_ble_eq_true rfl) (Nat.le_of_ble_eq_true rfl) hP va_S.rf (Nat.zero_le _) (Nat.zero_le _) d5 (fun H locs hP hS => ?_)
  refine lv_i2l (x := x) (v := x.toInt64) hx hb f0 rfl ?_
  refine lc_last hx hb hE hP hS f1 (fun H locs hP hS => ?_)
  refine lv_goto hx hb f2 ho ?_
  refine lv_iconst (v := 0) hx hb f3 rfl ?_
  exact lc_end hx hb hr hlocks (by omega) (by omega) hP hS f4
theorem wr_1b {y : MethodName} {bytes : ByteArray} {hh : List (Nat × Nat × Nat × Nat)} {idx μ : Nat} {a0 : Int32} {x : Int32} {off : Int} {e0 : Nat} (hy : plainName y.cls = true) (hcl : y.cls = RL) (hd1 : decode bytes 0 = .ok (.aload_n 2, 1) ∧ decode bytes 1 = .ok (.iconst 0, 1) ∧ decode bytes 2 = .ok (.aload_n 0, 1) ∧ decode bytes 3 = .ok (.iload_n 1, 1) ∧ decode bytes 4 = .ok (.invokevirtual idx, 3)) (hd2 : decode bytes 7 = .ok (.ifCond .eq 7, 3) ∧ decode bytes 10 = .ok (.lconst 1, 1) ∧ decode bytes 11 = .ok (.goto 4, 3) ∧ decode bytes 14 = .ok (.lconst 0, 1) ∧ decode bytes 15 = .ok (.lastore, 1) ∧ decode bytes 16 = .ok (.goto off, 3) ∧ decode bytes e0 = .ok (.iconst 0, 1) ∧ decode bytes (e0 + 1) = .ok (.ireturn, 1)) (ho : (16 : Int) + off = (e0 : Int)) (hμ : μ < 290) (hst : (mus μ).2.1 = false) (hcm : clOf μ = 9) (hn : (mus μ).2.2 = 1) (hlk : Jvm.Cond.methodLink RL idx (nameOf μ) ∈ lwG) (hc : Calls 9 μ (vR (9, 0, 0) :: [vI a0]) hp (.inl (some (vI x)), hp1)) :
    WrM l B D G L adK adV adM y bytes 4 hh [.ref B, .int a0, .ref (B + 326)] hp f g 0 hp1 (vp_updL f 0 (bV x)) g := by
  refine wr_of hy hcl (Nat.le_of_ble_eq_true rfl) ?_
  intro p e s m below meth c sl hx hb hml hr hlocks hts hown htab hP hE hl
  have hl : lv_has sl 4 [(0, .ref B), (1, .int a0), (2, .ref (B + 326))] := hl
  obtain ⟨d0, d1, d2, d3, d4⟩ := hd1
  refine lv_aload_n hx hb d0 rfl (lv_at hl 2 rfl) ?_
  refine lv_iconst (v := 0) hx hb d1 rfl ?_
  refine lv_aload_n hx hb d2 rfl (lv_at hl 0 rfl) ?_
  refine lv_iload_n hx hb d3 rfl (lv_at hl 1 rfl) ?_
  refine W.eq (g2 := F0 m 4 sl ((([vI a0] : List VL).map (toV B adK)).reverse ++ .ref (B + adr (9, 0, 0)) :: [.int 0, .ref (B + 326)])) (by rw [a9_0]; rfl) ?_
  obtain ⟨f0, f1, f2, f3, f4, f5, f6, f7⟩ := hd2
  refine lc_call (own := RL) (jst_ok l) hx hb hml hl.1 hts hown hE hμ hst r9_in (by decide) hcm hn.symm (fun w hw => by simp only [List.mem_cons, List.not_mem_nil, or_false] at hw; rcases hw with rfl <;> exact trivial) hc hlk (Nat.le_of_ble_eq_true rfl) (Nat.le_of_ble_eq_true rfl) (Nat.le_of_ble_eq_true rfl) hP va_S.rf (Nat.zero_le _) (Nat.zero_le _) d4 (fun H locs hP hS => ?_)
  have fin : W p l e rmW s m ([.ref B, .int a0, .ref (B + 326)] : List Value).toArray below meth c H locs 0 0 (MQ below (fun _ st oc t => oc = .returned (some (.int 0)) ∧ LwS B D G L hp1 (vp_updL f 0 (bV x)) g t.heap ∧ va_F (ab B) st t) ([.ref B, .int a0, .ref (B + 326)] : List Value).toArray s 1 6 (ab B)) (F0 m 15 sl [.long (bV x), .int 0, .ref (B + 326)]) := by
    refine lc_last hx hb hE hP hS f4 (fun H locs hP hS => ?_)
    refine lv_goto hx hb f5 ho ?_
    refine lv_iconst (v := 0) hx hb f6 rfl ?_
    exact lc_end hx hb hr hlocks (by omega) (by omega) hP hS f7
  refine lv_if_eq (tgt := 14) hx hb f0 (by decide) (fun h => ?_) (fun h => ?_)
  · refine lv_lconst (v := bV x) hx hb f3 (by rw [h]; rfl) ?_
    exact fin
  · refine lv_lconst (v := bV x) hx hb f1 (by unfold bV; rw [if_neg h]; rfl) ?_
    refine lv_goto (tgt := 15) hx hb f2 (by decide) ?_
    exact fin
theorem wr_2b {y : MethodName} {bytes : ByteArray} {hh : List (Nat × Nat × Nat × Nat)} {idx μ : Nat} {a0 : Int32} {a1 : Int32} {x : Int32} {off : Int} {e0 : Nat} (hy : plainName y.cls = true) (hcl : y.cls = RL) (hd1 : decode bytes 0 = .ok (.aload_n 3, 1) ∧ decode bytes 1 = .ok (.iconst 0, 1) ∧ decode bytes 2 = .ok (.aload_n 0, 1) ∧ decode bytes 3 = .ok (.iload_n 1, 1) ∧ decode bytes 4 = .ok (.iload_n 2, 1) ∧ decode bytes 5 = .ok (.invokevirtual idx, 3)) (hd2 : decode bytes 8 = .ok (.ifCond .eq 7, 3) ∧ decode bytes 11 = .ok (.lconst 1, 1) ∧ decode bytes 12 = .ok (.goto 4, 3) ∧ decode bytes 15 = .ok (.lconst 0, 1) ∧ decode bytes 16 = .ok (.lastore, 1) ∧ decode bytes 17 = .ok (.goto off, 3) ∧ decode bytes e0 = .ok (.iconst 0, 1) ∧ decode bytes (e0 + 1) = .ok (.ireturn, 1)) (ho : (17 : Int) + off = (e0 : Int)) (hμ : μ < 290) (hst : (mus μ).2.1 = false) (hcm : clOf μ = 9) (hn : (mus μ).2.2 = 2) (hlk : Jvm.Cond.methodLink RL idx (nameOf μ) ∈ lwG) (hc : Calls 9 μ (vR (9, 0, 0) :: [vI a0, vI a1]) hp (.inl (some (vI x)), hp1)) :
    WrM l B D G L adK adV adM y bytes 5 hh [.ref B, .int a0, .int a1, .ref (B + 326)] hp f g 0 hp1 (vp_updL f 0 (bV x)) g := by
  refine wr_of hy hcl (Nat.le_of_ble_eq_true rfl) ?_
  intro p e s m below meth c sl hx hb hml hr hlocks hts hown htab hP hE hl
  have hl : lv_has sl 5 [(0, .ref B), (1, .int a0), (2, .int a1), (3, .ref (B + 326))] := hl
  obtain ⟨d0, d1, d2, d3, d4, d5⟩ := hd1
  refine lv_aload_n hx hb d0 rfl (lv_at hl 3 rfl) ?_
  refine lv_iconst (v := 0) hx hb d1 rfl ?_
  refine lv_aload_n hx hb d2 rfl (lv_at hl 0 rfl) ?_
  refine lv_iload_n hx hb d3 rfl (lv_at hl 1 rfl) ?_
  refine lv_iload_n hx hb d4 rfl (lv_at hl 2 rfl) ?_
  refine W.eq (g2 := F0 m 5 sl ((([vI a0, vI a1] : List VL).map (toV B adK)).reverse ++ .ref (B + adr (9, 0, 0)) :: [.int 0, .ref (B + 326)])) (by rw [a9_0]; rfl) ?_
  obtain ⟨f0, f1, f2, f3, f4, f5, f6, f7⟩ := hd2
  refine lc_call (own := RL) (jst_ok l) hx hb hml hl.1 hts hown hE hμ hst r9_in (by decide) hcm hn.symm (fun w hw => by simp only [List.mem_cons, List.not_mem_nil, or_false] at hw; rcases hw with rfl | rfl <;> exact trivial) hc hlk (Nat.le_of_ble_eq_true rfl) (Nat.le_of_ble_eq_true rfl) (Nat.le_of_ble_eq_true rfl) hP va_S.rf (Nat.zero_le _) (Nat.zero_le _) d5 (fun H locs hP hS => ?_)
  have fin : W p l e rmW s m ([.ref B, .int a0, .int a1, .ref (B + 326)] : List Value).toArray below meth c H locs 0 0 (MQ below (fun _ st oc t => oc = .returned (some (.int 0)) ∧ LwS B D G L hp1 (vp_updL f 0 (bV x)) g t.heap ∧ va_F (ab B) st t) ([.ref B, .int a0, .int a1, .ref (B + 326)] : List Value).toArray s 1 6 (ab B)) (F0 m 16 sl [.long (bV x), .int 0, .ref (B + 326)]) := by
    refine lc_last hx hb hE hP hS f4 (fun H locs hP hS => ?_)
    refine lv_goto hx hb f5 ho ?_
    refine lv_iconst (v := 0) hx hb f6 rfl ?_
    exact lc_end hx hb hr hlocks (by omega) (by omega) hP hS f7
  refine lv_if_eq (tgt := 15) hx hb f0 (by decide) (fun h => ?_) (fun h => ?_)
  · refine lv_lconst (v := bV x) hx hb f3 (by rw [h]; rfl) ?_
    exact fin
  · refine lv_lconst (v := bV x) hx hb f1 (by unfold bV; rw [if_neg h]; rfl) ?_
    refine lv_goto (tgt := 16) hx hb f2 (by decide) ?_
    exact fin
theorem wr_0d {y : MethodName} {bytes : ByteArray} {hh : List (Nat × Nat × Nat × Nat)} {idx μ : Nat} {x : UInt64} {off : Int} {e0 : Nat} (hy : plainName y.cls = true) (hcl : y.cls = RL) (hd1 : decode bytes 0 = .ok (.aload_n 1, 1) ∧ decode bytes 1 = .ok (.iconst 0, 1) ∧ decode bytes 2 = .ok (.aload_n 0, 1) ∧ decode bytes 3 = .ok (.invokevirtual idx, 3)) (hd2 : decode bytes 6 = .ok (.dastore, 1) ∧ decode bytes 7 = .ok (.goto off, 3) ∧ decode bytes e0 = .ok (.iconst 0, 1) ∧ decode bytes (e0 + 1) = .ok (.ireturn, 1)) (ho : (7 : Int) + off = (e0 : Int)) (hμ : μ < 290) (hst : (mus μ).2.1 = false) (hcm : clOf μ = 9) (hn : (mus μ).2.2 = 0) (hlk : Jvm.Cond.methodLink RL idx (nameOf μ) ∈ lwG) (hc : Calls 9 μ (vR (9, 0, 0) :: []) hp (.inl (some (vD x)), hp1)) :
    WrM l B D G L adK adV adM y bytes 3 hh [.ref B, .ref (B + 327)] hp f g 0 hp1 f (vf_upd g 0 x) := by
  refine wr_of hy hcl (Nat.le_of_ble_eq_true rfl) ?_
  intro p e s m below meth c sl hx hb hml hr hlocks hts hown htab hP hE hl
  have hl : lv_has sl 3 [(0, .ref B), (1, .ref (B + 327))] := hl
  obtain ⟨d0, d1, d2, d3⟩ := hd1
  refine lv_aload_n hx hb d0 rfl (lv_at hl 1 rfl) ?_
  refine lv_iconst (v := 0) hx hb d1 rfl ?_
  refine lv_aload_n hx hb d2 rfl (lv_at hl 0 rfl) ?_
  refine W.eq (g2 := F0 m 3 sl ((([] : List VL).map (toV B adK)).reverse ++ .ref (B + adr (9, 0, 0)) :: [.int 0, .ref (B + 327)])) (by rw [a9_0]; rfl) ?_
  obtain ⟨f0, f1, f2, f3⟩ := hd2
  refine lc_call (own := RL) (jst_ok l) hx hb hml hl.1 hts hown hE hμ hst r9_in (by decide) hcm hn.symm (fun w hw => absurd hw List.not_mem_nil) hc hlk (Nat.le_of_ble_eq_true rfl) (Nat.le_of_ble_eq_true rfl) (Nat.le_of_ble_eq_true rfl) hP va_S.rf (Nat.zero_le _) (Nat.zero_le _) d3 (fun H locs hP hS => ?_)
  refine lc_dast hx hb hE hP hS f0 (fun H locs hP hS => ?_)
  refine lv_goto hx hb f1 ho ?_
  refine lv_iconst (v := 0) hx hb f2 rfl ?_
  exact lc_end hx hb hr hlocks (by omega) (by omega) hP hS f3
theorem wr_0f {y : MethodName} {bytes : ByteArray} {hh : List (Nat × Nat × Nat × Nat)} {idx μ : Nat} {x : UInt32} {off : Int} {e0 : Nat} (hy : plainName y.cls = true) (hcl : y.cls = RL) (hd1 : decode bytes 0 = .ok (.aload_n 1, 1) ∧ decode bytes 1 = .ok (.iconst 0, 1) ∧ decode bytes 2 = .ok (.aload_n 0, 1) ∧ decode bytes 3 = .ok (.invokevirtual idx, 3)) (hd2 : decode bytes 6 = .ok (.f2d, 1) ∧ decode bytes 7 = .ok (.dastore, 1) ∧ decode bytes 8 = .ok (.goto off, 3) ∧ decode bytes e0 = .ok (.iconst 0, 1) ∧ decode bytes (e0 + 1) = .ok (.ireturn, 1)) (ho : (8 : Int) + off = (e0 : Int)) (hμ : μ < 290) (hst : (mus μ).2.1 = false) (hcm : clOf μ = 9) (hn : (mus μ).2.2 = 0) (hlk : Jvm.Cond.methodLink RL idx (nameOf μ) ∈ lwG) (hc : Calls 9 μ (vR (9, 0, 0) :: []) hp (.inl (some (vF x)), hp1)) (hne : vf_n64 (FP.f2d x)) :
    WrM l B D G L adK adV adM y bytes 3 hh [.ref B, .ref (B + 327)] hp f g 0 hp1 f (vf_upd g 0 (FP.f2d x)) := by
  refine wr_of hy hcl (Nat.le_of_ble_eq_true rfl) ?_
  intro p e s m below meth c sl hx hb hml hr hlocks hts hown htab hP hE hl
  have hl : lv_has sl 3 [(0, .ref B), (1, .ref (B + 327))] := hl
  obtain ⟨d0, d1, d2, d3⟩ := hd1
  refine lv_aload_n hx hb d0 rfl (lv_at hl 1 rfl) ?_
  refine lv_iconst (v := 0) hx hb d1 rfl ?_
  refine lv_aload_n hx hb d2 rfl (lv_at hl 0 rfl) ?_
  refine W.eq (g2 := F0 m 3 sl ((([] : List VL).map (toV B adK)).reverse ++ .ref (B + adr (9, 0, 0)) :: [.int 0, .ref (B + 327)])) (by rw [a9_0]; rfl) ?_
  obtain ⟨f0, f1, f2, f3, f4⟩ := hd2
  refine lc_call (own := RL) (jst_ok l) hx hb hml hl.1 hts hown hE hμ hst r9_in (by decide) hcm hn.symm (fun w hw => absurd hw List.not_mem_nil) hc hlk (Nat.le_of_ble_eq_true rfl) (Nat.le_of_ble_eq_true rfl) (Nat.le_of_ble_eq_true rfl) hP va_S.rf (Nat.zero_le _) (Nat.zero_le _) d3 (fun H locs hP hS => ?_)
  refine lv_f2d (x := x) hx hb f0 hne ?_
  refine lc_dast hx hb hE hP hS f1 (fun H locs hP hS => ?_)
  refine lv_goto hx hb f2 ho ?_
  refine lv_iconst (v := 0) hx hb f3 rfl ?_
  exact lc_end hx hb hr hlocks (by omega) (by omega) hP hS f4
theorem wx_0 {y : MethodName} {bytes : ByteArray} {hh : List (Nat × Nat × Nat × Nat)} {idx μ : Nat} {out E : Nat} {k : Int} {kv : Int32} (hy : plainName y.cls = true) (hcl : y.cls = RL) (hd1 : decode bytes 0 = .ok (.aload_n 1, 1) ∧ decode bytes 1 = .ok (.iconst 0, 1) ∧ decode bytes 2 = .ok (.aload_n 0, 1) ∧ decode bytes 3 = .ok (.invokevirtual idx, 3)) (pre : List ExceptionTableEntry) (h : ExceptionTableEntry) (suf : List ExceptionTableEntry) (hsplit : tableOf hh = pre ++ h :: suf) (hpre : ∀ z ∈ pre, ctK z.catchType ∧ ctE z.catchType ≠ E) (hcov : covers h 3 = true) (hk : ctK h.catchType) (hkE : ctE h.catchType = E) (hkv : Int32.ofInt k = kv) (hd3 : decode bytes h.handlerPc = .ok (.astore_n 2, 1) ∧ decode bytes (h.handlerPc + 1) = .ok (.iconst k, 1) ∧ decode bytes (h.handlerPc + 1 + 1) = .ok (.ireturn, 1)) (hfl : l.stackTraces = false) (hμ : μ < 290) (hst : (mus μ).2.1 = false) (hcm : clOf μ = 9) (hn : (mus μ).2.2 = 0) (hlk : Jvm.Cond.methodLink RL idx (nameOf μ) ∈ lwG) (hc : Calls 9 μ (vR (9, 0, 0) :: []) hp (.inr E, hp1)) :
    WrM l B D G L adK adV adM y bytes 3 hh [.ref B, .ref out] hp f g kv hp1 f g := by
  refine wr_of hy hcl (Nat.le_of_ble_eq_true rfl) ?_
  intro p e s m below meth c sl hx hb hml hr hlocks hts hown htab hP hE hl
  have hl : lv_has sl 3 [(0, .ref B), (1, .ref out)] := hl
  obtain ⟨d0, d1, d2, d3⟩ := hd1
  refine lv_aload_n hx hb d0 rfl (lv_at hl 1 rfl) ?_
  refine lv_iconst (v := 0) hx hb d1 rfl ?_
  refine lv_aload_n hx hb d2 rfl (lv_at hl 0 rfl) ?_
  refine W.eq (g2 := F0 m 3 sl ((([] : List VL).map (toV B adK)).reverse ++ .ref (B + adr (9, 0, 0)) :: [.int 0, .ref out])) (by rw [a9_0]; rfl) ?_
  obtain ⟨f0, f1, f2⟩ := hd3
  refine lc_callT (own := RL) (jst_ok l) hfl hx hb hml hl.1 hts hown hE hμ hst r9_in (by decide) hcm hn.symm (fun w hw => absurd hw List.not_mem_nil) hc hlk (Nat.le_of_ble_eq_true rfl) (Nat.le_of_ble_eq_true rfl) (Nat.le_of_ble_eq_true rfl) hP va_S.rf (Nat.le_of_ble_eq_true rfl) (Nat.le_of_ble_eq_true rfl) d3 (fun H locs q ce hP hS hce hcv hcl9 => ?_)
  refine lc_catch hts hown hE htab pre h suf hsplit hpre hcov hk hkE hce hcv hcl9 ?_
  refine lv_astore_n (i := 2) hx hb f0 rfl hl (by decide) rfl (fun sl hl => ?_)
  refine lv_iconst hx hb f1 hkv ?_
  exact lc_end hx hb hr hlocks (by omega) (by omega) hP hS f2
theorem wx_1 {y : MethodName} {bytes : ByteArray} {hh : List (Nat × Nat × Nat × Nat)} {idx μ : Nat} {a0 : Int32} {out E : Nat} {k : Int} {kv : Int32} (hy : plainName y.cls = true) (hcl : y.cls = RL) (hd1 : decode bytes 0 = .ok (.aload_n 2, 1) ∧ decode bytes 1 = .ok (.iconst 0, 1) ∧ decode bytes 2 = .ok (.aload_n 0, 1) ∧ decode bytes 3 = .ok (.iload_n 1, 1) ∧ decode bytes 4 = .ok (.invokevirtual idx, 3)) (pre : List ExceptionTableEntry) (h : ExceptionTableEntry) (suf : List ExceptionTableEntry) (hsplit : tableOf hh = pre ++ h :: suf) (hpre : ∀ z ∈ pre, ctK z.catchType ∧ ctE z.catchType ≠ E) (hcov : covers h 4 = true) (hk : ctK h.catchType) (hkE : ctE h.catchType = E) (hkv : Int32.ofInt k = kv) (hd3 : decode bytes h.handlerPc = .ok (.astore_n 3, 1) ∧ decode bytes (h.handlerPc + 1) = .ok (.iconst k, 1) ∧ decode bytes (h.handlerPc + 1 + 1) = .ok (.ireturn, 1)) (hfl : l.stackTraces = false) (hμ : μ < 290) (hst : (mus μ).2.1 = false) (hcm : clOf μ = 9) (hn : (mus μ).2.2 = 1) (hlk : Jvm.Cond.methodLink RL idx (nameOf μ) ∈ lwG) (hc : Calls 9 μ (vR (9, 0, 0) :: [vI a0]) hp (.inr E, hp1)) :
    WrM l B D G L adK adV adM y bytes 4 hh [.ref B, .int a0, .ref out] hp f g kv hp1 f g := by
  refine wr_of hy hcl (Nat.le_of_ble_eq_true rfl) ?_
  intro p e s m below meth c sl hx hb hml hr hlocks hts hown htab hP hE hl
  have hl : lv_has sl 4 [(0, .ref B), (1, .int a0), (2, .ref out)] := hl
  obtain ⟨d0, d1, d2, d3, d4⟩ := hd1
  refine lv_aload_n hx hb d0 rfl (lv_at hl 2 rfl) ?_
  refine lv_iconst (v := 0) hx hb d1 rfl ?_
  refine lv_aload_n hx hb d2 rfl (lv_at hl 0 rfl) ?_
  refine lv_iload_n hx hb d3 rfl (lv_at hl 1 rfl) ?_
  refine W.eq (g2 := F0 m 4 sl ((([vI a0] : List VL).map (toV B adK)).reverse ++ .ref (B + adr (9, 0, 0)) :: [.int 0, .ref out])) (by rw [a9_0]; rfl) ?_
  obtain ⟨f0, f1, f2⟩ := hd3
  refine lc_callT (own := RL) (jst_ok l) hfl hx hb hml hl.1 hts hown hE hμ hst r9_in (by decide) hcm hn.symm (fun w hw => by simp only [List.mem_cons, List.not_mem_nil, or_false] at hw; rcases hw with rfl <;> exact trivial) hc hlk (Nat.le_of_ble_eq_true rfl) (Nat.le_of_ble_eq_true rfl) (Nat.le_of_ble_eq_true rfl) hP va_S.rf (Nat.le_of_ble_eq_true rfl) (Nat.le_of_ble_eq_true rfl) d4 (fun H locs q ce hP hS hce hcv hcl9 => ?_)
  refine lc_catch hts hown hE htab pre h suf hsplit hpre hcov hk hkE hce hcv hcl9 ?_
  refine lv_astore_n (i := 3) hx hb f0 rfl hl (by decide) rfl (fun sl hl => ?_)
  refine lv_iconst hx hb f1 hkv ?_
  exact lc_end hx hb hr hlocks (by omega) (by omega) hP hS f2
theorem wx_2 {y : MethodName} {bytes : ByteArray} {hh : List (Nat × Nat × Nat × Nat)} {idx μ : Nat} {a0 : Int32} {a1 : Int32} {out E : Nat} {k : Int} {kv : Int32} (hy : plainName y.cls = true) (hcl : y.cls = RL) (hd1 : decode bytes 0 = .ok (.aload_n 3, 1) ∧ decode bytes 1 = .ok (.iconst 0, 1) ∧ decode bytes 2 = .ok (.aload_n 0, 1) ∧ decode bytes 3 = .ok (.iload_n 1, 1) ∧ decode bytes 4 = .ok (.iload_n 2, 1) ∧ decode bytes 5 = .ok (.invokevirtual idx, 3)) (pre : List ExceptionTableEntry) (h : ExceptionTableEntry) (suf : List ExceptionTableEntry) (hsplit : tableOf hh = pre ++ h :: suf) (hpre : ∀ z ∈ pre, ctK z.catchType ∧ ctE z.catchType ≠ E) (hcov : covers h 5 = true) (hk : ctK h.catchType) (hkE : ctE h.catchType = E) (hkv : Int32.ofInt k = kv) (hd3 : decode bytes h.handlerPc = .ok (.astore 4, 2) ∧ decode bytes (h.handlerPc + 2) = .ok (.iconst k, 1) ∧ decode bytes (h.handlerPc + 2 + 1) = .ok (.ireturn, 1)) (hfl : l.stackTraces = false) (hμ : μ < 290) (hst : (mus μ).2.1 = false) (hcm : clOf μ = 9) (hn : (mus μ).2.2 = 2) (hlk : Jvm.Cond.methodLink RL idx (nameOf μ) ∈ lwG) (hc : Calls 9 μ (vR (9, 0, 0) :: [vI a0, vI a1]) hp (.inr E, hp1)) :
    WrM l B D G L adK adV adM y bytes 5 hh [.ref B, .int a0, .int a1, .ref out] hp f g kv hp1 f g := by
  refine wr_of hy hcl (Nat.le_of_ble_eq_true rfl) ?_
  intro p e s m below meth c sl hx hb hml hr hlocks hts hown htab hP hE hl
  have hl : lv_has sl 5 [(0, .ref B), (1, .int a0), (2, .int a1), (3, .ref out)] := hl
  obtain ⟨d0, d1, d2, d3, d4, d5⟩ := hd1
  refine lv_aload_n hx hb d0 rfl (lv_at hl 3 rfl) ?_
  refine lv_iconst (v := 0) hx hb d1 rfl ?_
  refine lv_aload_n hx hb d2 rfl (lv_at hl 0 rfl) ?_
  refine lv_iload_n hx hb d3 rfl (lv_at hl 1 rfl) ?_
  refine lv_iload_n hx hb d4 rfl (lv_at hl 2 rfl) ?_
  refine W.eq (g2 := F0 m 5 sl ((([vI a0, vI a1] : List VL).map (toV B adK)).reverse ++ .ref (B + adr (9, 0, 0)) :: [.int 0, .ref out])) (by rw [a9_0]; rfl) ?_
  obtain ⟨f0, f1, f2⟩ := hd3
  refine lc_callT (own := RL) (jst_ok l) hfl hx hb hml hl.1 hts hown hE hμ hst r9_in (by decide) hcm hn.symm (fun w hw => by simp only [List.mem_cons, List.not_mem_nil, or_false] at hw; rcases hw with rfl | rfl <;> exact trivial) hc hlk (Nat.le_of_ble_eq_true rfl) (Nat.le_of_ble_eq_true rfl) (Nat.le_of_ble_eq_true rfl) hP va_S.rf (Nat.le_of_ble_eq_true rfl) (Nat.le_of_ble_eq_true rfl) d5 (fun H locs q ce hP hS hce hcv hcl9 => ?_)
  refine lc_catch hts hown hE htab pre h suf hsplit hpre hcov hk hkE hce hcv hcl9 ?_
  refine lv_astore (i := 4) hx hb f0 hl (by decide) rfl (fun sl hl => ?_)
  refine lv_iconst hx hb f1 hkv ?_
  exact lc_end hx hb hr hlocks (by omega) (by omega) hP hS f2
end WSH
