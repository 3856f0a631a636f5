/-! ===== the library's texts: length, charAt ===== -/
section JS
def jsW : List Jvm.Cond := [.fieldLink RJ0 9 "java/lang/String" "value" "[B", .methodLink RJ0 335 yJ0_coder_7d493, .instanceMethod yJ0_coder_7d493, .selects RJ0 yJ0_coder_7d493 yJ0_coder_7d493, .initialized RJ0, .code yJ0_coder_7d493 cJ0_coder_7d493 1 (some .byte), .fieldLink RJ0 38 "java/lang/String" "COMPACT_STRINGS" "Z", .fieldLink RJ0 15 "java/lang/String" "coder" "B",
  .methodLink RJ0 492 yJ0_isLatin1_aae02, .instanceMethod yJ0_isLatin1_aae02, .selects RJ0 yJ0_isLatin1_aae02 yJ0_isLatin1_aae02, .code yJ0_isLatin1_aae02 cJ0_isLatin1_aae02 1 (some .boolean), .methodLink RJ0 495 yJ1_charAt_3b067, .static yJ1_charAt_3b067, .initialized RJ1, .code yJ1_charAt_3b067 cJ1_charAt_3b067 2 (some .char),
  .methodLink RJ1 9 yJ0_checkIndex_df160, .static yJ0_checkIndex_df160, .code yJ0_checkIndex_df160 cJ0_checkIndex_df160 2 none, .fieldLink RJ0 1053 "jdk/internal/util/Preconditions" "SIOOBE_FORMATTER" "Ljava/util/function/BiFunction;", .methodLink RJ0 1059 yJ3_checkIndex_8e157, .static yJ3_checkIndex_8e157, .initialized RJ3, .code yJ3_checkIndex_8e157 cJ3_checkIndex_8e157 3 (some .int)]
theorem jsW_in : ∀ w ∈ jsW, w ∈ lwG := by
  have key : (jsW.all (fun w => decide (w ∈ lw_tbl) && goodWord w)) = true := by decide +kernel
  intro w hw
  have h := List.all_eq_true.mp key w hw
  simp only [Bool.and_eq_true, decide_eq_true_eq] at h
  exact List.mem_filter.mpr h
theorem jsW_at {w : Jvm.Cond} (i : Nat) (h : jsW[i]? = some w) : w ∈ lwG := jsW_in w (List.mem_of_getElem? h)
variable {p : Program} {l : Launch} {e : Env} {R : Room} {s : State} {m : MethodId} {sargs : Array Value} {below : List Frame} {meth : Method} {c : Code} {Q : State → Prop}
variable {B pc : Nat} {D : va_G} {G : GG} {adK adV : Nat → Nat} {H : Heap} {locs : List Loc} {sl : Array Slot}
/-- a call that leaves the heap as it is -/
theorem jq_call {w : Option Value} {rest st0 : List Value} (hr : va_Run p l e R s m sargs below meth c H locs 0 0 0 0 (F0 m pc sl st0) rest (fun (st : State) (oc : Outcome) (t : State) => oc = .returned w ∧ t.heap = st.heap) (fun _ => False)) (k : W p l e R s m sargs below meth c H locs 0 0 Q (F0 m (pc + 3) sl (w.toList ++ rest))) : W p l e R s m sargs below meth c H locs 0 0 Q (F0 m pc sl st0) := by
  intro T hT X
  obtain ⟨w', st₀, t, T', L, h0, X', hL, e1, e2, ⟨hw, hh⟩, stp⟩ := hr T hT X
  cases hw
  have hL0 : L = [] := by
    cases L with
    | nil => rfl
    | cons q L => exact (hL q List.mem_cons_self).elim
  subst hL0
  rw [List.append_nil] at X'
  obtain ⟨t2, a1, b1⟩ := k T' (by rw [e1, hh, h0]) X'
  exact ⟨t2, stp t2 a1, b1⟩
def jMet (l : Launch) (y : MethodName) (bytes : ByteArray) (maxL : Nat) (ret : Option FieldType) (d : Nat) (Pc : Array Value → State → Prop) (w : Option Value) : Prop :=
  Met l y (Jvm.Cond.code y bytes maxL ret :: lwG) (rmD d) Pc (fun _ st oc t => oc = .returned w ∧ t.heap = st.heap) 0 0 (fun _ => False)
theorem js_good {y : MethodName} {bytes : ByteArray} {maxL : Nat} {ret : Option FieldType} (h : Jvm.Cond.code y bytes maxL ret ∈ lwG) : GoodIn lwG (Jvm.Cond.code y bytes maxL ret :: lwG) := fun w hw => (List.mem_cons.mp hw).elim (fun e => by rw [e]; exact ⟨h, Or.inl rfl⟩) (fun h => lwG_good w h)
theorem dj_ci : decode cJ3_checkIndex_8e157 0 = .ok (.iload_n 0, 1) ∧ decode cJ3_checkIndex_8e157 1 = .ok (.ifCond .lt 8, 3) ∧ decode cJ3_checkIndex_8e157 4 = .ok (.iload_n 0, 1) ∧ decode cJ3_checkIndex_8e157 5 = .ok (.iload_n 1, 1) ∧ decode cJ3_checkIndex_8e157 6 = .ok (.if_icmp .lt 10, 3) ∧ decode cJ3_checkIndex_8e157 16 = .ok (.iload_n 0, 1) ∧ decode cJ3_checkIndex_8e157 17 = .ok (.ireturn, 1) := by decide +kernel
theorem dj_sci : decode cJ0_checkIndex_df160 0 = .ok (.iload_n 0, 1) ∧ decode cJ0_checkIndex_df160 1 = .ok (.iload_n 1, 1) ∧ decode cJ0_checkIndex_df160 2 = .ok (.getstatic 1053, 3) ∧ decode cJ0_checkIndex_df160 5 = .ok (.invokestatic 1059, 3) ∧ decode cJ0_checkIndex_df160 8 = .ok (.pop, 1) ∧ decode cJ0_checkIndex_df160 9 = .ok (.return_, 1) := by decide +kernel
theorem dj_lca : decode cJ1_charAt_3b067 0 = .ok (.iload_n 1, 1) ∧ decode cJ1_charAt_3b067 1 = .ok (.aload_n 0, 1) ∧ decode cJ1_charAt_3b067 2 = .ok (.arraylength, 1) ∧ decode cJ1_charAt_3b067 3 = .ok (.invokestatic 9, 3) ∧ decode cJ1_charAt_3b067 6 = .ok (.aload_n 0, 1) ∧ decode cJ1_charAt_3b067 7 = .ok (.iload_n 1, 1) ∧ decode cJ1_charAt_3b067 8 = .ok (.baload, 1) ∧ decode cJ1_charAt_3b067 9 = .ok (.sipush 255, 3) ∧ decode cJ1_charAt_3b067 12 = .ok (.iand, 1) ∧ decode cJ1_charAt_3b067 13 = .ok (.i2c, 1) ∧ decode cJ1_charAt_3b067 14 = .ok (.ireturn, 1) := by decide +kernel
theorem dj_il : decode cJ0_isLatin1_aae02 0 = .ok (.getstatic 38, 3) ∧ decode cJ0_isLatin1_aae02 3 = .ok (.ifCond .eq 14, 3) ∧ decode cJ0_isLatin1_aae02 6 = .ok (.aload_n 0, 1) ∧ decode cJ0_isLatin1_aae02 7 = .ok (.getfield 15, 3) ∧ decode cJ0_isLatin1_aae02 10 = .ok (.ifCond .ne 7, 3) ∧ decode cJ0_isLatin1_aae02 13 = .ok (.iconst 1, 1) ∧ decode cJ0_isLatin1_aae02 14 = .ok (.goto 4, 3) ∧ decode cJ0_isLatin1_aae02 18 = .ok (.ireturn, 1) := by decide +kernel
theorem dj_co : decode cJ0_coder_7d493 0 = .ok (.getstatic 38, 3) ∧ decode cJ0_coder_7d493 3 = .ok (.ifCond .eq 10, 3) ∧ decode cJ0_coder_7d493 6 = .ok (.aload_n 0, 1) ∧ decode cJ0_coder_7d493 7 = .ok (.getfield 15, 3) ∧ decode cJ0_coder_7d493 10 = .ok (.goto 4, 3) ∧ decode cJ0_coder_7d493 14 = .ok (.ireturn, 1) := by decide +kernel
theorem dj_le : decode cJ0_length_8abf5 0 = .ok (.aload_n 0, 1) ∧ decode cJ0_length_8abf5 1 = .ok (.getfield 9, 3) ∧ decode cJ0_length_8abf5 4 = .ok (.arraylength, 1) ∧ decode cJ0_length_8abf5 5 = .ok (.aload_n 0, 1) ∧ decode cJ0_length_8abf5 6 = .ok (.invokevirtual 335, 3) ∧ decode cJ0_length_8abf5 9 = .ok (.ishr, 1) ∧ decode cJ0_length_8abf5 10 = .ok (.ireturn, 1) := by decide +kernel
theorem dj_ca : decode cJ0_charAt_5068e 0 = .ok (.aload_n 0, 1) ∧ decode cJ0_charAt_5068e 1 = .ok (.invokevirtual 492, 3) ∧ decode cJ0_charAt_5068e 4 = .ok (.ifCond .eq 12, 3) ∧ decode cJ0_charAt_5068e 7 = .ok (.aload_n 0, 1) ∧ decode cJ0_charAt_5068e 8 = .ok (.getfield 9, 3) ∧ decode cJ0_charAt_5068e 11 = .ok (.iload_n 1, 1) ∧ decode cJ0_charAt_5068e 12 = .ok (.invokestatic 495, 3) ∧ decode cJ0_charAt_5068e 15 = .ok (.ireturn, 1) := by decide +kernel
/-- Preconditions.checkIndex -/
theorem jc_ci (l : Launch) {j n : Nat} (hj : j < n) (hn : n < 2147483648) (v : Value) (hv : v.category = 1) : jMet l yJ3_checkIndex_8e157 cJ3_checkIndex_8e157 3 (some .int) 0 (fun av _ => av = #[.int (nI j), .int (nI n), v]) (some (.int (nI j))) := by
  obtain ⟨d0, d1, d4, d5, d6, d16, d17⟩ := dj_ci
  refine Met.ofW (cc := cJ3_checkIndex_8e157) (maxL := 3) (ret := some .int) (by decide) rfl ?_
  intro p e s m args below meth c s₁ Bd hml hv0
  subst hv0
  have hx := Bd.exec
  have hb := Bd.bytes
  have hr := Bd.returns
  have hlocks := Bd.notSynchronized
  have hl := lv_entry ([.int (nI j), .int (nI n), v]) (n := 3) (by
    rw [lg_sl1 _ (fun w hw => by
      rcases List.mem_cons.mp hw with rfl | hw
      · rfl
      · rcases List.mem_cons.mp hw with rfl | hw
        · rfl
        · rcases List.mem_cons.mp hw with rfl | hw
          · exact hv
          · cases hw)]
    exact Nat.le_refl _)
  rw [lg_entry_eq]
  generalize (lg_sl ([.int (nI j), .int (nI n), v]) ++ List.replicate (3 - (lg_sl ([.int (nI j), .int (nI n), v])).length) Slot.unset).toArray = ls at hl ⊢
  have hl : lv_has ls 3 [(0, .int (nI j)), (1, .int (nI n)), (2, v)] := hl
  refine lv_iload_n hx hb d0 rfl (lv_at hl 0 rfl) ?_
  refine lv_if_lt (tgt := 9) hx hb d1 (by decide) (fun z => absurd z (n_neg (by omega))) (fun _ => ?_)
  refine lv_iload_n hx hb d4 rfl (lv_at hl 0 rfl) ?_
  refine lv_iload_n hx hb d5 rfl (lv_at hl 1 rfl) ?_
  refine lv_icmp_lt (tgt := 16) hx hb d6 (by decide) (fun _ => ?_) (fun z => absurd ((n_lt (by omega) hn).mpr hj) z)
  refine lv_iload_n hx hb d16 rfl (lv_at hl 0 rfl) ?_
  exact W.iret hx hb hr (fun t ht hW => ⟨rfl, ht⟩) (fun q hq => by cases hq) d17 hlocks
/-- String.checkIndex -/
theorem jc_sci (l : Launch) {j n : Nat} (hj : j < n) (hn : n < 2147483648) : jMet l yJ0_checkIndex_df160 cJ0_checkIndex_df160 2 none 1 (fun av U => av = #[.int (nI j), .int (nI n)] ∧ ENV B D G adK adV U) none := by
  obtain ⟨d0, d1, d2, d5, d8, d9⟩ := dj_sci
  refine Met.ofW (cc := cJ0_checkIndex_df160) (maxL := 2) (ret := none) (by decide) rfl ?_
  intro p e s m args below meth c s₁ Bd hml hv0
  obtain ⟨rfl, hE⟩ := hv0
  have hx := Bd.exec
  have hb := Bd.bytes
  have hr := Bd.returns
  have hlocks := Bd.notSynchronized
  have hts0 := atoms_spec (ws := Jvm.Cond.code yJ0_checkIndex_df160 cJ0_checkIndex_df160 2 none :: lwG) Bd.pre
  have hts : ∀ w ∈ lwG, w.before #[.int (nI j), .int (nI n)] s = true := fun w hw => hts0 w (List.mem_cons_of_mem _ hw)
  have hown : s.vm.findClass RJ0 = some m.cls := findClass_of_methodNamed Bd.named
  have hS : va_S (inA B) s.heap s.heap [] := va_S.rf
  have hl := lv_entry ([.int (nI j), .int (nI n)]) (n := 2) (Nat.le_of_ble_eq_true rfl)
  rw [lg_entry_eq]
  generalize (lg_sl ([.int (nI j), .int (nI n)]) ++ List.replicate (2 - (lg_sl ([.int (nI j), .int (nI n)])).length) Slot.unset).toArray = ls at hl ⊢
  have hl : lv_has ls 2 [(0, .int (nI j)), (1, .int (nI n))] := hl
  refine lv_iload_n hx hb d0 rfl (lv_at hl 0 rfl) ?_
  refine lv_iload_n hx hb d1 rfl (lv_at hl 1 rfl) ?_
  have goal : ∀ v : Value, v.category = 1 → W p l e (headSpec (Jvm.Cond.code yJ0_checkIndex_df160 cJ0_checkIndex_df160 2 none :: lwG) (rmD 1)).room s m #[.int (nI j), .int (nI n)] below meth c s.heap [] 0 0 (MQ below (fun _ st oc t => oc = .returned none ∧ t.heap = st.heap) #[.int (nI j), .int (nI n)] s 0 0 (fun _ => False)) (F0 m 5 ls [v, .int (nI n), .int (nI j)]) := by
    intro v hv
    refine jq_call (w := some (.int (nI j))) (rest := []) (va_runS (As := [.int (nI j), .int (nI n), v]) (rest := []) ⟨hx, hb, hml, hown, hts⟩ (jc_ci l hj hn v hv) ⟨callB_of 3 hts (js_good (jsW_at 23 rfl)) rfl rfl rfl (hts _ (jsW_at 22 rfl)) (hts _ (jsW_at 20 rfl)) (by decide +kernel) ⟨by show 0 + 1 ≤ 1; omega, by show 8 + (3 + 11) + 36 * 0 ≤ 36 * 1; omega⟩, hts _ (jsW_at 21 rfl)⟩ ⟨fun a U g mk q => q, fun U hU hW => rfl⟩ rfl rfl hl.1 rfl (lv_room (by decide)) d5 ⟨Nat.zero_le _, Nat.zero_le _⟩) ?_
    refine lv_pop hx hb d8 rfl ?_
    exact W.vret hx hb hr (fun t ht hW => ⟨rfl, ht⟩) (fun q hq => by cases hq) d9 hlocks
  rcases hE.2.2.2.2.2.2 with hZ | ⟨t, hZ⟩
  · exact va_gets hx hb hZ hS hown (hts _ (jsW_at 19 rfl)) (fun _ h => h) d2 (goal .null rfl)
  · exact va_gets hx hb hZ hS hown (hts _ (jsW_at 19 rfl)) (fun _ h => h) d2 (goal (.ref t) rfl)
theorem tx_len : ∀ w, w < 5 → txL.getD w 0 = (txt w).length ∧ (txt w).length < 8 := by decide
theorem tx_ch : ∀ w, w < 5 → ∀ j, j < (txt w).length → (((((txB.getD w []).getD j 0) &&& 255).toUInt32 % 65536).toInt32 = (txt w).getD j 0) ∧ narrow .char (.int ((txt w).getD j 0)) = .int ((txt w).getD j 0) := by
  have key : ∀ w, w < 5 → ∀ j, j < 8 → j < (txt w).length → (((((txB.getD w []).getD j 0) &&& 255).toUInt32 % 65536).toInt32 = (txt w).getD j 0) ∧ narrow .char (.int ((txt w).getD j 0)) = .int ((txt w).getD j 0) := by decide +kernel
  intro w hw j hj
  have := (tx_len w hw).2
  exact key w hw j (by omega) hj
/-- StringLatin1.charAt -/
theorem jc_lca (l : Launch) {w j : Nat} (hw : w < 5) (hj : j < (txt w).length) : jMet l yJ1_charAt_3b067 cJ1_charAt_3b067 2 (some .char) 2 (fun av U => av = #[.ref (adV w), .int (nI j)] ∧ ENV B D G adK adV U) (some (.int ((txt w).getD j 0))) := by
  obtain ⟨d0, d1, d2, d3, d6, d7, d8, d9, d12, d13, d14⟩ := dj_lca
  obtain ⟨tl1, tl2⟩ := tx_len w hw
  obtain ⟨tc1, tc2⟩ := tx_ch w hw j hj
  refine Met.ofW (cc := cJ1_charAt_3b067) (maxL := 2) (ret := some .char) (by decide) rfl ?_
  intro p e s m args below meth c s₁ Bd hml hv0
  obtain ⟨rfl, hE⟩ := hv0
  have hx := Bd.exec
  have hb := Bd.bytes
  have hr := Bd.returns
  have hlocks := Bd.notSynchronized
  have hts0 := atoms_spec (ws := Jvm.Cond.code yJ1_charAt_3b067 cJ1_charAt_3b067 2 (some .char) :: lwG) Bd.pre
  have hts : ∀ w' ∈ lwG, w'.before #[.ref (adV w), .int (nI j)] s = true := fun w' hw => hts0 w' (List.mem_cons_of_mem _ hw)
  have hown : s.vm.findClass RJ1 = some m.cls := findClass_of_methodNamed Bd.named
  have hS : va_S (inA B) s.heap s.heap [] := va_S.rf
  have hT := (hE.2.2.2.1.1 w hw).2.2.2
  have hT : va_T .byte (adV w) (txL.getD w 0) (fun j => .int ((txB.getD w []).getD j 0)) (inA B) s s.heap := hT
  have hl := lv_entry ([.ref (adV w), .int (nI j)]) (n := 2) (Nat.le_of_ble_eq_true rfl)
  rw [lg_entry_eq]
  generalize (lg_sl ([.ref (adV w), .int (nI j)]) ++ List.replicate (2 - (lg_sl ([.ref (adV w), .int (nI j)])).length) Slot.unset).toArray = ls at hl ⊢
  have hl : lv_has ls 2 [(0, .ref (adV w)), (1, .int (nI j))] := hl
  refine lv_iload_n hx hb d0 rfl (lv_at hl 1 rfl) ?_
  refine lv_aload_n hx hb d1 rfl (lv_at hl 0 rfl) ?_
  refine va_tlen (v := nI (txt w).length) hx hb hT hS (by rw [tl1]; rfl) d2 ?_
  refine jq_call (w := none) (rest := []) (va_runS (As := [.int (nI j), .int (nI (txt w).length)]) (rest := []) ⟨hx, hb, hml, hown, hts⟩ (jc_sci (B := B) (D := D) (G := G) (adK := adK) (adV := adV) l hj (by omega)) ⟨callB_of 2 hts (js_good (jsW_at 18 rfl)) rfl rfl rfl (hts _ (jsW_at 4 rfl)) (hts _ (jsW_at 16 rfl)) (by decide +kernel) ⟨by show 1 + 1 ≤ 2; omega, by show 8 + (2 + 11) + 36 * 1 ≤ 36 * 2; omega⟩, hts _ (jsW_at 17 rfl)⟩ ⟨fun a U g mk q => ⟨q.1, q.2.warm (State.WarmedH.refl U) (fun _ _ _ => rfl)⟩, fun U hU hW => ⟨rfl, hE.warm hW (fun q h1 h2 => by rw [hU])⟩⟩ rfl rfl hl.1 rfl (lv_room (by decide)) d3 ⟨Nat.zero_le _, Nat.zero_le _⟩) ?_
  refine lv_aload_n hx hb d6 rfl (lv_at hl 0 rfl) ?_
  refine lv_iload_n hx hb d7 rfl (lv_at hl 1 rfl) ?_
  refine va_tb (v := .int ((txB.getD w []).getD j 0)) hx hb hT hS (by rw [tl1]; exact vp_in_nI hj (by omega)) (by rw [nI_clamp (by omega)]) d8 ?_
  refine lv_sipush (v := 255) hx hb d9 (by decide) ?_
  refine lv_iand hx hb d12 ?_
  refine lv_i2c (v := (txt w).getD j 0) hx hb d13 tc1 ?_
  exact W.zret hx hb hr tc2 (fun t ht hW => ⟨rfl, ht⟩) (fun q hq => by cases hq) d14 hlocks
/-- String.isLatin1 -/
theorem jc_il (l : Launch) {w : Nat} (hw : w < 5) : jMet l yJ0_isLatin1_aae02 cJ0_isLatin1_aae02 1 (some .boolean) 0 (fun av U => av = #[.ref (adK w)] ∧ ENV B D G adK adV U) (some (.int 1)) := by
  obtain ⟨d0, d3, d6, d7, d10, d13, d14, d18⟩ := dj_il
  refine Met.ofW (cc := cJ0_isLatin1_aae02) (maxL := 1) (ret := some .boolean) (by decide) rfl ?_
  intro p e s m args below meth c s₁ Bd hml hv0
  obtain ⟨rfl, hE⟩ := hv0
  have hx := Bd.exec
  have hb := Bd.bytes
  have hr := Bd.returns
  have hlocks := Bd.notSynchronized
  have hts0 := atoms_spec (ws := Jvm.Cond.code yJ0_isLatin1_aae02 cJ0_isLatin1_aae02 1 (some .boolean) :: lwG) Bd.pre
  have hts : ∀ w' ∈ lwG, w'.before #[.ref (adK w)] s = true := fun w' hw => hts0 w' (List.mem_cons_of_mem _ hw)
  have hown : s.vm.findClass RJ0 = some m.cls := findClass_of_methodNamed Bd.named
  have hS : va_S (inA B) s.heap s.heap [] := va_S.rf
  have hl := lv_entry ([.ref (adK w)]) (n := 1) (Nat.le_of_ble_eq_true rfl)
  rw [lg_entry_eq]
  generalize (lg_sl ([.ref (adK w)]) ++ List.replicate (1 - (lg_sl ([.ref (adK w)])).length) Slot.unset).toArray = ls at hl ⊢
  have hl : lv_has ls 1 [(0, .ref (adK w))] := hl
  refine va_gets hx hb hE.2.2.2.2.2.1 hS hown (hts _ (jsW_at 6 rfl)) (fun _ h => h) d0 ?_
  refine lv_if_eq (tgt := 17) hx hb d3 (by decide) (fun z => absurd z (by decide)) (fun _ => ?_)
  refine lv_aload_n hx hb d6 rfl (lv_at hl 0 rfl) ?_
  refine vk_getf hx hb (hE.2.2.2.1.1 w hw).2.1 hS hown (hts _ (jsW_at 7 rfl)) (fun _ h => h) d7 ?_
  refine lv_if_ne (tgt := 17) hx hb d10 (by decide) (fun z => absurd rfl z) (fun _ => ?_)
  refine lv_iconst (v := 1) hx hb d13 (by decide) ?_
  refine lv_goto (tgt := 18) hx hb d14 (by decide) ?_
  exact W.zret hx hb hr (by decide) (fun t ht hW => ⟨rfl, ht⟩) (fun q hq => by cases hq) d18 hlocks
/-- String.coder -/
theorem jc_co (l : Launch) {w : Nat} (hw : w < 5) : jMet l yJ0_coder_7d493 cJ0_coder_7d493 1 (some .byte) 0 (fun av U => av = #[.ref (adK w)] ∧ ENV B D G adK adV U) (some (.int 0)) := by
  obtain ⟨d0, d3, d6, d7, d10, d14⟩ := dj_co
  refine Met.ofW (cc := cJ0_coder_7d493) (maxL := 1) (ret := some .byte) (by decide) rfl ?_
  intro p e s m args below meth c s₁ Bd hml hv0
  obtain ⟨rfl, hE⟩ := hv0
  have hx := Bd.exec
  have hb := Bd.bytes
  have hr := Bd.returns
  have hlocks := Bd.notSynchronized
  have hts0 := atoms_spec (ws := Jvm.Cond.code yJ0_coder_7d493 cJ0_coder_7d493 1 (some .byte) :: lwG) Bd.pre
  have hts : ∀ w' ∈ lwG, w'.before #[.ref (adK w)] s = true := fun w' hw => hts0 w' (List.mem_cons_of_mem _ hw)
  have hown : s.vm.findClass RJ0 = some m.cls := findClass_of_methodNamed Bd.named
  have hS : va_S (inA B) s.heap s.heap [] := va_S.rf
  have hl := lv_entry ([.ref (adK w)]) (n := 1) (Nat.le_of_ble_eq_true rfl)
  rw [lg_entry_eq]
  generalize (lg_sl ([.ref (adK w)]) ++ List.replicate (1 - (lg_sl ([.ref (adK w)])).length) Slot.unset).toArray = ls at hl ⊢
  have hl : lv_has ls 1 [(0, .ref (adK w))] := hl
  refine va_gets hx hb hE.2.2.2.2.2.1 hS hown (hts _ (jsW_at 6 rfl)) (fun _ h => h) d0 ?_
  refine lv_if_eq (tgt := 13) hx hb d3 (by decide) (fun z => absurd z (by decide)) (fun _ => ?_)
  refine lv_aload_n hx hb d6 rfl (lv_at hl 0 rfl) ?_
  refine vk_getf hx hb (hE.2.2.2.1.1 w hw).2.1 hS hown (hts _ (jsW_at 7 rfl)) (fun _ h => h) d7 ?_
  refine lv_goto (tgt := 14) hx hb d10 (by decide) ?_
  exact W.zret hx hb hr (by decide) (fun t ht hW => ⟨rfl, ht⟩) (fun q hq => by cases hq) d14 hlocks
theorem nI_sh0 : ∀ n, n < 8 → nI n >>> ((0 : Int32) &&& 31) = nI n := by decide
/-- the texts' contracts -/
theorem jst_ok (l : Launch) : JST l B D G adK adV := by
  refine ⟨fun w hw => ?_, fun w j hw hj => ?_⟩
  · obtain ⟨d0, d1, d4, d5, d6, d9, d10⟩ := dj_le
    obtain ⟨tl1, tl2⟩ := tx_len w hw
    refine Met.ofW (cc := cJ0_length_8abf5) (maxL := 1) (ret := some .int) (by decide) rfl ?_
    intro p e s m args below meth c s₁ Bd hml hv0
    obtain ⟨rfl, hE⟩ := hv0
    have hx := Bd.exec
    have hb := Bd.bytes
    have hr := Bd.returns
    have hlocks := Bd.notSynchronized
    have hts0 := atoms_spec (ws := Jvm.Cond.code yJ0_length_8abf5 cJ0_length_8abf5 1 (some .int) :: lwG) Bd.pre
    have hts : ∀ w' ∈ lwG, w'.before #[.ref (adK w)] s = true := fun w' hw => hts0 w' (List.mem_cons_of_mem _ hw)
    have hown : s.vm.findClass RJ0 = some m.cls := findClass_of_methodNamed Bd.named
    have hS : va_S (inA B) s.heap s.heap [] := va_S.rf
    have hT : va_T .byte (adV w) (txL.getD w 0) (fun j => .int ((txB.getD w []).getD j 0)) (inA B) s s.heap := (hE.2.2.2.1.1 w hw).2.2.2
    have hl := lv_entry ([.ref (adK w)]) (n := 1) (Nat.le_of_ble_eq_true rfl)
    rw [lg_entry_eq]
    generalize (lg_sl ([.ref (adK w)]) ++ List.replicate (1 - (lg_sl ([.ref (adK w)])).length) Slot.unset).toArray = ls at hl ⊢
    have hl : lv_has ls 1 [(0, .ref (adK w))] := hl
    refine lv_aload_n hx hb d0 rfl (lv_at hl 0 rfl) ?_
    refine vk_getf hx hb (hE.2.2.2.1.1 w hw).2.2.1 hS hown (hts _ (jsW_at 0 rfl)) (fun _ h => h) d1 ?_
    refine va_tlen (v := nI (txt w).length) hx hb hT hS (by rw [tl1]; rfl) d4 ?_
    refine lv_aload_n hx hb d5 rfl (lv_at hl 0 rfl) ?_
    refine jq_call (w := some (.int 0)) (rest := [.int (nI (txt w).length)]) (va_runV (C := RJ0) (As := []) (rest := [.int (nI (txt w).length)]) ⟨hx, hb, hml, hown, hts⟩ (jc_co (B := B) (D := D) (G := G) (adK := adK) (adV := adV) l hw) ⟨callB_of 0 hts (js_good (jsW_at 5 rfl)) rfl rfl rfl (hts _ (jsW_at 4 rfl)) (hts _ (jsW_at 1 rfl)) (by decide +kernel) ⟨by show 0 + 1 ≤ 4; omega, by show 8 + (1 + 11) + 36 * 0 ≤ 36 * 4; omega⟩, hts _ (jsW_at 2 rfl), hts _ (jsW_at 3 rfl)⟩ ⟨fun a U g mk q => ⟨q.1, q.2.warm (State.WarmedH.refl U) (fun _ _ _ => rfl)⟩, vk_recv hE.2.2.2.1 hw hS, fun U hU hW => ⟨rfl, hE.warm hW (fun q h1 h2 => by rw [hU])⟩⟩ rfl rfl hl.1 rfl (lv_room (show (1 : Nat) ≤ 8 by decide)) d6 ⟨Nat.zero_le _, Nat.zero_le _⟩) ?_
    refine lv_ishr hx hb d9 ?_
    rw [nI_sh0 _ tl2]
    exact W.iret hx hb hr (fun t ht hW => ⟨rfl, ht⟩) (fun q hq => by cases hq) d10 hlocks
  · obtain ⟨d0, d1, d4, d7, d8, d11, d12, d15⟩ := dj_ca
    obtain ⟨tc1, tc2⟩ := tx_ch w hw j hj
    refine Met.ofW (cc := cJ0_charAt_5068e) (maxL := 2) (ret := some .char) (by decide) rfl ?_
    intro p e s m args below meth c s₁ Bd hml hv0
    obtain ⟨rfl, hE⟩ := hv0
    have hx := Bd.exec
    have hb := Bd.bytes
    have hr := Bd.returns
    have hlocks := Bd.notSynchronized
    have hts0 := atoms_spec (ws := Jvm.Cond.code yJ0_charAt_5068e cJ0_charAt_5068e 2 (some .char) :: lwG) Bd.pre
    have hts : ∀ w' ∈ lwG, w'.before #[.ref (adK w), .int (nI j)] s = true := fun w' hw => hts0 w' (List.mem_cons_of_mem _ hw)
    have hown : s.vm.findClass RJ0 = some m.cls := findClass_of_methodNamed Bd.named
    have hS : va_S (inA B) s.heap s.heap [] := va_S.rf
    have hl := lv_entry ([.ref (adK w), .int (nI j)]) (n := 2) (Nat.le_of_ble_eq_true rfl)
    rw [lg_entry_eq]
    generalize (lg_sl ([.ref (adK w), .int (nI j)]) ++ List.replicate (2 - (lg_sl ([.ref (adK w), .int (nI j)])).length) Slot.unset).toArray = ls at hl ⊢
    have hl : lv_has ls 2 [(0, .ref (adK w)), (1, .int (nI j))] := hl
    refine lv_aload_n hx hb d0 rfl (lv_at hl 0 rfl) ?_
    refine jq_call (w := some (.int 1)) (rest := []) (va_runV (C := RJ0) (As := []) (rest := []) ⟨hx, hb, hml, hown, hts⟩ (jc_il (B := B) (D := D) (G := G) (adK := adK) (adV := adV) l hw) ⟨callB_of 0 hts (js_good (jsW_at 11 rfl)) rfl rfl rfl (hts _ (jsW_at 4 rfl)) (hts _ (jsW_at 8 rfl)) (by decide +kernel) ⟨by show 0 + 1 ≤ 4; omega, by show 8 + (1 + 11) + 36 * 0 ≤ 36 * 4; omega⟩, hts _ (jsW_at 9 rfl), hts _ (jsW_at 10 rfl)⟩ ⟨fun a U g mk q => ⟨q.1, q.2.warm (State.WarmedH.refl U) (fun _ _ _ => rfl)⟩, vk_recv hE.2.2.2.1 hw hS, fun U hU hW => ⟨rfl, hE.warm hW (fun q h1 h2 => by rw [hU])⟩⟩ rfl rfl hl.1 rfl (lv_room (by decide)) d1 ⟨Nat.zero_le _, Nat.zero_le _⟩) ?_
    refine lv_if_eq (tgt := 16) hx hb d4 (by decide) (fun z => absurd z (by decide)) (fun _ => ?_)
    refine lv_aload_n hx hb d7 rfl (lv_at hl 0 rfl) ?_
    refine vk_getf hx hb (hE.2.2.2.1.1 w hw).2.2.1 hS hown (hts _ (jsW_at 0 rfl)) (fun _ h => h) d8 ?_
    refine lv_iload_n hx hb d11 rfl (lv_at hl 1 rfl) ?_
    refine jq_call (w := some (.int ((txt w).getD j 0))) (rest := []) (va_runS (As := [.ref (adV w), .int (nI j)]) (rest := []) ⟨hx, hb, hml, hown, hts⟩ (jc_lca (B := B) (D := D) (G := G) (adK := adK) (adV := adV) l hw hj) ⟨callB_of 2 hts (js_good (jsW_at 15 rfl)) rfl rfl rfl (hts _ (jsW_at 14 rfl)) (hts _ (jsW_at 12 rfl)) (by decide +kernel) ⟨by show 2 + 1 ≤ 4; omega, by show 8 + (2 + 11) + 36 * 2 ≤ 36 * 4; omega⟩, hts _ (jsW_at 13 rfl)⟩ ⟨fun a U g mk q => ⟨q.1, q.2.warm (State.WarmedH.refl U) (fun _ _ _ => rfl)⟩, fun U hU hW => ⟨rfl, hE.warm hW (fun q h1 h2 => by rw [hU])⟩⟩ rfl rfl hl.1 rfl (lv_room (by decide)) d12 ⟨Nat.zero_le _, Nat.zero_le _⟩) ?_
    exact W.zret hx hb hr tc2 (fun t ht hW => ⟨rfl, ht⟩) (fun q hq => by cases hq) d15 hlocks
end JS
