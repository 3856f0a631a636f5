section STEP
variable {p : Program} {l : Launch} {e : Env} {R : Room} {s : State} {m : MethodId} {sargs : Array Value} {below : List Frame} {meth : Method} {c : Code} {Q : State → Prop}
variable {B d μ nL pc len a b : Nat} {D : va_G} {G : GG} {adK adV : Nat → Nat} {z : Int32} {cc : ByteArray}
variable {ls ls' : List (Option VL)} {st st' : List VL} {hp hp' : HP} {H : Heap} {locs : List Loc} {sl : Array Slot} {pc' : Nat}
/-- what is left to do behind an instruction -/
abbrev KKs (p : Program) (l : Launch) (e : Env) (R : Room) (s : State) (m : MethodId) (sargs : Array Value) (below : List Frame) (meth : Method) (c : Code) (Q : State → Prop) (B : Nat) (D : va_G) (G : GG) (adK : Nat → Nat) (nL pc' : Nat) (ls' : List (Option VL)) (st' : List VL) (hp' : HP) : Prop :=
  ∀ (H : Heap) (locs : List Loc) (sl : Array Slot), STt B D G adK s sl nL ls' st' hp' H locs → W p l e R s m sargs below meth c H locs 0 0 Q (F0 m pc' sl (st'.map (toV B adK)))
theorem st_pop {v : VL} (h : STt B D G adK s sl nL ls (v :: st) hp H locs) : STt B D G adK s sl nL ls st hp H locs := ⟨h.1, h.2.1, h.2.2.1, fun w hw => h.2.2.2 w (List.mem_cons_of_mem _ hw)⟩
theorem st_push {v : VL} (h : STt B D G adK s sl nL ls st hp H locs) (hv : okV v) : STt B D G adK s sl nL ls (v :: st) hp H locs := ⟨h.1, h.2.1, h.2.2.1, fun w hw => by
  rcases List.mem_cons.mp hw with rfl | q
  · exact hv
  · exact h.2.2.2 w q⟩
theorem toV_ref {r : RF} (h : r.1 ≠ 20) : toV B adK (vR r) = .ref (B + adr r) := by
  show Value.ref (if r.1 = 20 then adK r.2.1 else B + adr r) = _
  rw [if_neg h]
theorem okR_in {r : RF} (h : okR r) (h2 : r.1 ≠ 20) : r ∈ allR := by
  rcases h with h | h
  · exact absurd h.1 h2
  · exact h.2
theorem inb_lt {i : Int32} {n : Nat} (h : inb i n = true) : i.toNatClampNeg < n := by
  unfold inb at h
  simp only [Bool.and_eq_true, Bool.not_eq_true', decide_eq_false_iff_not, decide_eq_true_eq] at h
  exact h.2
/-- a store into a field -/
theorem st_putf {r : RF} {x : Int32} {k : Nat} (hS : STt B D G adK s sl nL ls st hp H locs) (hr : r ∈ allR) (hc : r.1 ≤ 10) (hk : fK r.1 k ≠ 2) {H1 : Heap} {locs1 : List Loc}
    (h1 : va_P D vwCl ((World B G hp).set (adr r) (B + adr r, .inr (r.1, ((List.range (nF r.1)).map (fv B hp r)).set k (.int x)))) H1) (h2 : va_S (inA B) s.heap H1 locs1) : STt B D G adK s sl nL ls st (up hp r k x) H1 locs1 := by
  refine ⟨?_, h2, hS.2.2⟩
  rw [set_fv hk] at h1
  have h3 : ent B G (up hp r k x) r = .inr (r.1, (List.range (nF r.1)).map (fv B (up hp r k x) r)) := ent_obj hc
  rw [← h3, World_set hr (fun r' _ hne => ent_off (up_ne hne))] at h1
  exact h1
theorem st_puta {r : RF} {x : Int32} {k : Nat} (hS : STt B D G adK s sl nL ls st hp H locs) (hr : r ∈ allR) {E0 : va_E} (hE : E0 = ent B G (up hp r k x) r) {H1 : Heap} {locs1 : List Loc}
    (h1 : va_P D vwCl ((World B G hp).set (adr r) (B + adr r, E0)) H1) (h2 : va_S (inA B) s.heap H1 locs1) : STt B D G adK s sl nL ls st (up hp r k x) H1 locs1 := by
  refine ⟨?_, h2, hS.2.2⟩
  rw [hE, World_set hr (fun r' _ hne => ent_off (up_ne hne))] at h1
  exact h1
theorem br_sim {x y : Int32} {cd : Jvm.ClassFile.Cond} {off : Int} (hx : p.tables.exec = Jvm.exec) (hb : c.code = cc) (hd : decode cc pc = .ok (.if_icmp cd off, 3)) (ho : okOff pc off = true)
    (he : brI cd x y (aC (tg pc off) ls st hp) (aC (pc + 3) ls st hp) = some (.inl ((pc', ls', st'), hp'))) (hS : STt B D G adK s sl nL ls st hp H locs)
    (k : KKs p l e R s m sargs below meth c Q B D G adK nL pc' ls' st' hp') : W p l e R s m sargs below meth c H locs 0 0 Q (F0 m pc sl (.int y :: .int x :: st.map (toV B adK))) := by
  have hT := tg_of ho
  have ka : ∀ {q : Nat}, aC q ls st hp = some (.inl ((pc', ls', st'), hp')) → W p l e R s m sargs below meth c H locs 0 0 Q (F0 m q sl (st.map (toV B adK))) := by
    intro q h
    cases h
    exact k _ _ _ hS
  cases cd
  · exact lv_icmp_eq hx hb hd hT (fun h => ka (by simpa only [brI, if_pos h] using he)) (fun h => ka (by simpa only [brI, if_neg h] using he))
  · exact lv_icmp_ne hx hb hd hT (fun h => ka (by simpa only [brI, if_neg h] using he)) (fun h => ka (by simpa only [brI, if_pos h] using he))
  · exact lv_icmp_lt hx hb hd hT (fun h => ka (by simpa only [brI, if_pos h] using he)) (fun h => ka (by simpa only [brI, if_neg h] using he))
  · exact lv_icmp_ge hx hb hd hT (fun h => ka (by simpa only [brI, if_neg (Int32.not_lt.mpr h)] using he)) (fun h => ka (by simpa only [brI, if_pos (Int32.not_le.mp h)] using he))
  · exact lv_icmp_gt hx hb hd hT (fun h => ka (by simpa only [brI, if_pos h] using he)) (fun h => ka (by simpa only [brI, if_neg h] using he))
  · exact lv_icmp_le hx hb hd hT (fun h => ka (by simpa only [brI, if_neg (Int32.not_lt.mpr h)] using he)) (fun h => ka (by simpa only [brI, if_pos (Int32.not_le.mp h)] using he))
theorem brc_sim {x : Int32} {cd : Jvm.ClassFile.Cond} {off : Int} (hx : p.tables.exec = Jvm.exec) (hb : c.code = cc) (hd : decode cc pc = .ok (.ifCond cd off, 3)) (ho : okOff pc off = true)
    (he : brI cd x 0 (aC (tg pc off) ls st hp) (aC (pc + 3) ls st hp) = some (.inl ((pc', ls', st'), hp'))) (hS : STt B D G adK s sl nL ls st hp H locs)
    (k : KKs p l e R s m sargs below meth c Q B D G adK nL pc' ls' st' hp') : W p l e R s m sargs below meth c H locs 0 0 Q (F0 m pc sl (.int x :: st.map (toV B adK))) := by
  have hT := tg_of ho
  have ka : ∀ {q : Nat}, aC q ls st hp = some (.inl ((pc', ls', st'), hp')) → W p l e R s m sargs below meth c H locs 0 0 Q (F0 m q sl (st.map (toV B adK))) := by
    intro q h
    cases h
    exact k _ _ _ hS
  cases cd
  · exact lv_if_eq hx hb hd hT (fun h => ka (by simpa only [brI, if_pos h] using he)) (fun h => ka (by simpa only [brI, if_neg h] using he))
  · exact lv_if_ne hx hb hd hT (fun h => ka (by simpa only [brI, if_neg h] using he)) (fun h => ka (by simpa only [brI, if_pos h] using he))
  · exact lv_if_lt hx hb hd hT (fun h => ka (by simpa only [brI, if_pos h] using he)) (fun h => ka (by simpa only [brI, if_neg h] using he))
  · exact lv_if_ge hx hb hd hT (fun h => ka (by simpa only [brI, if_neg (Int32.not_lt.mpr h)] using he)) (fun h => ka (by simpa only [brI, if_pos (Int32.not_le.mp h)] using he))
  · exact lv_if_gt hx hb hd hT (fun h => ka (by simpa only [brI, if_pos h] using he)) (fun h => ka (by simpa only [brI, if_neg h] using he))
  · exact lv_if_le hx hb hd hT (fun h => ka (by simpa only [brI, if_neg (Int32.not_lt.mpr h)] using he)) (fun h => ka (by simpa only [brI, if_pos (Int32.not_le.mp h)] using he))
end STEP
