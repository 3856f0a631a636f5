theorem whole_start {p : Program} {e : Env} {s : State} {m : MethodId} {below : List Frame} {meth : Method} {c : Code} (l : Launch) (hflags : l.flags = flags0) {b L : Nat} {xs : Nat → Int32} (hL : L ≤ 3072) (C0 : lw_At p s m meth c b L xs) : W p l e room_1 s m #[Value.ref b] below meth c s.heap [] 0 0 (lw_Z below #[Value.ref b] s) (entryFrame m ([Value.ref b] : List Value).toArray 9) := by
  obtain ⟨hx, hb, hr, hml, hown, hts, hX, hbl, hlocks, hgv⟩ := id C0
  have hd0 := Drawn.sameBut.refl s.drawn lw_cs
  have hst : l.stackTraces = false := by
    unfold Launch.stackTraces
    rw [hflags]
    decide +kernel
  obtain ⟨D, G, LL, adK, adV, adM, hE, hKC⟩ := lw_known (B := s.heap.size) hts (flat_of_before _ hgv) (Nat.le_refl _)
  have htsG : ∀ w ∈ lwG, w.before #[Value.ref b] s = true := fun w hw => hts w (List.mem_filter.mp hw).1
  have hown : s.vm.findClass RL = some m.cls := hown
  have hLX : LawX p l s m meth c room_1 #[Value.ref b] b L xs s.heap.size D G LL adK adV adM := ⟨hx, hb, hml, htsG, hown, hE, hst, hX, hbl, Nat.le_refl _, hL, Nat.le_of_ble_eq_true rfl, Nat.le_of_ble_eq_true rfl⟩
  obtain ⟨d0, d1, d2, d3, d4, d5, d6, d7, d8, d9⟩ := lst_dec
  obtain ⟨d10, d11, d12, d13, d14, d15⟩ := lst_dec2
  obtain ⟨u10, u11, u12, u13, u14⟩ := law_dec2
  have hl := lv_entry ([.ref b]) (n := 9) (Nat.le_of_ble_eq_true rfl)
  rw [lg_entry_eq]
  generalize (lg_sl ([.ref b]) ++ List.replicate (9 - (lg_sl ([.ref b])).length) Slot.unset).toArray = ls at hl ⊢
  have hl : lv_has ls 9 [(0, .ref b)] := hl
  have hP : va_P D vwCl (PW s.heap.size 0 (T00 s.heap.size G)) s.heap := fun k q h => absurd (PW_inv h).1 (Nat.not_lt_zero k)
  have hS : va_S (ab s.heap.size) s.heap s.heap [] := va_S.rf
  have hz : s.heap.size = s.heap.size + 0 := rfl
  refine bw_new (c' := 9) hx hb htsG hown (by decide) (htsG _ (lstW_at 0 rfl)) hKC hP hz hS (Nat.le_refl _) (Nat.le_of_ble_eq_true rfl) (Nat.le_of_ble_eq_true rfl) d0 (fun H hP hz hS => ?_)
  refine W.widen (k := 1) (n := 12) (by omega) (show 0 + nF 9 ≤ 12 from Nat.le_of_ble_eq_true rfl) ?_
  refine lv_dup hx hb d1 rfl ?_
  refine bw_call (T := T00 s.heap.size G) (F := T00 s.heap.size G) (k := 0) (n := 0) (cnt := 312) (as := []) (rest := [.ref (s.heap.size + 0)]) hx hb hml hl.1 htsG hown (fun j hj => rfl) (ct_type l t_type updE_s) (lstW_at 4 rfl) (lstW_at 8 rfl) (htsG _ (lstW_at 2 rfl)) (lstW_at 6 rfl) rfl (by decide +kernel) rfl (by decide) (Nat.le_of_ble_eq_true rfl) (Nat.le_of_ble_eq_true rfl) hKC hP hz hS (Nat.le_of_ble_eq_true rfl) (Nat.le_of_ble_eq_true rfl) (Nat.le_of_ble_eq_true rfl) d2 (fun H locs hP hz hS => ?_)
  refine W.widen (k := 312) (n := 15416) (by omega) (by omega) ?_
  refine lv_astore_n (lv' := [(1, .ref s.heap.size), (0, .ref b)]) hx hb d3 rfl hl (by decide) rfl (fun ls hl => ?_)
  have hP : va_P D vwCl (PW s.heap.size 312 (T00 s.heap.size G)) H := by
    have e : (0 + 312 : Nat) = 312 := rfl
    rw [e] at hP
    exact hP
  have hz : H.size = s.heap.size + 312 := by omega
  refine bw_new (c' := 10) hx hb htsG hown (by decide) (htsG _ (lstW_at 1 rfl)) hKC hP hz hS (Nat.le_refl _) (Nat.le_of_ble_eq_true rfl) (Nat.le_of_ble_eq_true rfl) d4 (fun H hP hz hS => ?_)
  refine W.widen (k := 313) (n := 15447) (by omega) (show 15416 + nF 10 ≤ 15447 from Nat.le_of_ble_eq_true rfl) ?_
  refine lv_dup hx hb d5 rfl ?_
  refine bw_call (T := T00 s.heap.size G) (F := T00 s.heap.size G) (k := 312) (n := 0) (cnt := 14) (as := []) (rest := [.ref (s.heap.size + 312)]) hx hb hml hl.1 htsG hown (fun j hj => rfl) (ct_modl l t_modl updE_s) (lstW_at 5 rfl) (lstW_at 9 rfl) (htsG _ (lstW_at 3 rfl)) (lstW_at 7 rfl) rfl (by decide +kernel) rfl (by decide) (Nat.le_of_ble_eq_true rfl) (Nat.le_of_ble_eq_true rfl) hKC hP hz hS (Nat.le_of_ble_eq_true rfl) (Nat.le_of_ble_eq_true rfl) (Nat.le_of_ble_eq_true rfl) d6 (fun H locs hP hz hS => ?_)
  refine W.widen (k := 326) (n := 31145) (by omega) (by omega) ?_
  refine lv_astore_n (lv' := [(2, .ref (s.heap.size + 312)), (1, .ref s.heap.size), (0, .ref b)]) hx hb d7 rfl hl (by decide) rfl (fun ls hl => ?_)
  have hP : va_P D vwCl (PW s.heap.size 326 (TT0 s.heap.size G)) H := by
    have e : (312 + 14 : Nat) = 326 := rfl
    rw [e] at hP
    rw [← T00_id]
    refine PW_zq (fun j hj => ?_) hP
    rw [kept_adr j hj]
  have hz : H.size = s.heap.size + 326 := by omega
  refine lv_iconst (v := 1) hx hb d8 rfl ?_
  refine bw_newl hx hb hts hE hP hz hS (Nat.le_of_ble_eq_true rfl) (Nat.le_of_ble_eq_true rfl) d9 (fun H hP hz hS => ?_)
  refine W.widen (k := 327) (n := 31146) (by omega) (by omega) ?_
  refine lv_astore_n (lv' := [(3, .ref (s.heap.size + 326)), (2, .ref (s.heap.size + 312)), (1, .ref s.heap.size), (0, .ref b)]) hx hb d10 rfl hl (by decide) rfl (fun ls hl => ?_)
  refine lv_iconst (v := 1) hx hb d11 rfl ?_
  refine bw_newd hx hb hts hE hP hz hS (Nat.le_of_ble_eq_true rfl) (Nat.le_of_ble_eq_true rfl) d12 (fun H hP hz hS => ?_)
  refine W.widen (k := 328) (n := 31147) (by omega) (by omega) ?_
  refine lv_astore (lv' := [(4, .ref (s.heap.size + 327)), (3, .ref (s.heap.size + 326)), (2, .ref (s.heap.size + 312)), (1, .ref s.heap.size), (0, .ref b)]) hx hb d13 hl (by decide) rfl (fun ls hl => ?_)
  refine lv_iconst (v := nI 0) hx hb d14 rfl ?_
  refine lv_istore (lv' := [(5, .int (nI 0)), (4, .ref (s.heap.size + 327)), (3, .ref (s.heap.size + 326)), (2, .ref (s.heap.size + 312)), (1, .ref s.heap.size), (0, .ref b)]) hx hb d15 hl (by decide) rfl (fun ls hl => ?_)
  refine lawl_loop hLX (fun H locs sl cells slots hS hc hs => ?_) 512 (tb := 0) (i := 0) (by omega) (by omega) (by omega) (Nat.le_of_ble_eq_true rfl) (Nat.le_of_ble_eq_true rfl) (lv_part hl (fun q hq => ?_)) (lst_world hP) hS Inv_0
  · refine lv_iconst (v := 1) hx hb u13 rfl ?_
    refine va_forget (fun q hq => hS.2.2 q hq) ?_
    refine W.widen (k := 601024) (n := 7293034) hc hs ?_
    refine W.base ?_
    exact lw_ret hd0 hx hb hr hlocks u14
  · simp only [lwL, List.mem_cons, List.not_mem_nil, or_false] at hq
    rcases hq with rfl | rfl | rfl | rfl | rfl | rfl <;> simp
