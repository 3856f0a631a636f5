/-! ===== the law's own methods: each catches what a call throws ===== -/
section WRP
variable {p : Program} {l : Launch} {e : Env} {R : Room} {s : State} {m : MethodId} {sargs : Array Value} {below : List Frame} {meth : Method} {c : Code} {Q : State → Prop}
variable {B pc cells slots nL : Nat} {D : va_G} {G : GG} {L : GL} {adK adV adM : Nat → Nat} {hp hp1 : HP} {f f1 : Nat → Int64} {g g1 : Nat → UInt64} {H H1 : Heap} {locs : List Loc} {sl : Array Slot} {cc : ByteArray} {rest : List Value}
def rmW : Room := { frames := 10, cells := 1, slots := 6, locals := 360 }
/-- what such a method comes to: it answers k -/
def WrM (l : Launch) (B : Nat) (D : va_G) (G : GG) (L : GL) (adK adV adM : Nat → Nat) (y : MethodName) (bytes : ByteArray) (maxL : Nat) (hh : List (Nat × Nat × Nat × Nat)) (as : List Value) (hp : HP) (f : Nat → Int64) (g : Nat → UInt64) (k : Int32) (hp1 : HP) (f1 : Nat → Int64) (g1 : Nat → UInt64) : Prop :=
  Met l y (Jvm.Cond.codeWith y bytes maxL (some .int) hh :: lwG) rmW (fun av U => av = as.toArray ∧ LwS B D G L hp f g U.heap ∧ LwV B D G L adK adV adM U)
    (fun _ st oc t => oc = .returned (some (.int k)) ∧ LwS B D G L hp1 f1 g1 t.heap ∧ va_F (ab B) st t) 1 6 (ab B)
theorem wr_of {y : MethodName} {bytes : ByteArray} {maxL : Nat} {hh : List (Nat × Nat × Nat × Nat)} {as : List Value} {k : Int32} (hy : plainName y.cls = true) (hcl : y.cls = RL) (hle : (lg_sl as).length ≤ maxL)
    (body : ∀ (p : Program) (e : Env) (s : State) (m : MethodId) (below : List Frame) (meth : Method) (c : Code) (sl : Array Slot), p.tables.exec = Jvm.exec → c.code = bytes → c.maxLocals = maxL → meth.sig.returnType = some .int → meth.locks = false → (∀ w ∈ lwG, w.before as.toArray s = true) → s.vm.findClass RL = some m.cls → c.exceptionTable.toList = tableOf hh → LwS B D G L hp f g s.heap → LwV B D G L adK adV adM s → lv_has sl maxL (lv_args 0 as) →
      W p l e rmW s m as.toArray below meth c s.heap [] 0 0 (MQ below (fun _ st oc t => oc = .returned (some (.int k)) ∧ LwS B D G L hp1 f1 g1 t.heap ∧ va_F (ab B) st t) as.toArray s 1 6 (ab B)) (F0 m 0 sl [])) : WrM l B D G L adK adV adM y bytes maxL hh as hp f g k hp1 f1 g1 := by
  refine va_MetW (cc := bytes) (maxL := maxL) (ret := some .int) (hh := hh) hy rfl ?_
  intro p e s m args below meth c s₁ Bd hml hv
  obtain ⟨rfl, hP, hE⟩ := hv
  have hts0 := atoms_spec (ws := Jvm.Cond.codeWith y bytes maxL (some .int) hh :: lwG) Bd.pre
  have hown : s.vm.findClass RL = some m.cls := by
    have h1 := findClass_of_methodNamed Bd.named
    rw [hcl] at h1
    exact h1
  have hl := lv_entry as hle
  rw [lg_entry_eq]
  exact body p e s m below meth c _ Bd.exec Bd.bytes hml Bd.returns Bd.notSynchronized (fun w hw => hts0 w (List.mem_cons_of_mem _ hw)) hown (vx_table (x := y) Bd (hts0 _ List.mem_cons_self)) hP hE hl
/-- a long put where the answer goes; a double -/
theorem lc_last {x : Int64} (hx : p.tables.exec = Jvm.exec) (hb : c.code = cc) (hE : LwV B D G L adK adV adM s) (hP : LwS B D G L hp f g H) (hS : va_S (ab B) s.heap H locs) (hdg : decode cc pc = .ok (.lastore, 1))
    (kk : ∀ H1 locs1, LwS B D G L hp (vp_updL f 0 x) g H1 → va_S (ab B) s.heap H1 locs1 → W p l e R s m sargs below meth c H1 locs1 cells slots Q (F0 m (pc + 1) sl rest)) : W p l e R s m sargs below meth c H locs cells slots Q (F0 m pc sl (.long x :: .int 0 :: .ref (B + 326) :: rest)) := by
  refine va_last hx hb hE.1 hP PW_D hS 326 3 (PW_at (by omega)) rfl (by unfold vp_in; decide) hdg fun H1 locs1 hP1 _ hS1 => kk H1 locs1 ?_ hS1
  rw [PW_set (by omega)] at hP1
  unfold LwS
  rw [← PW_congr (E := updE (LwE B G L hp f g) 326 (.inl (L.1, 1, .inr (.inl (vp_updL f 0 x)))))]
  · exact hP1
  · intro j hj
    by_cases q : j = 326
    · rw [q, updE_s]; rfl
    · rw [updE_n q]
      unfold LwE
      by_cases q2 : j < 326
      · rw [if_pos q2, if_pos q2]
      · rw [if_neg q2, if_neg q2, if_neg q, if_neg q]
theorem lc_dast {x : UInt64} (hx : p.tables.exec = Jvm.exec) (hb : c.code = cc) (hE : LwV B D G L adK adV adM s) (hP : LwS B D G L hp f g H) (hS : va_S (ab B) s.heap H locs) (hdg : decode cc pc = .ok (.dastore, 1))
    (kk : ∀ H1 locs1, LwS B D G L hp f (vf_upd g 0 x) H1 → va_S (ab B) s.heap H1 locs1 → W p l e R s m sargs below meth c H1 locs1 cells slots Q (F0 m (pc + 1) sl rest)) : W p l e R s m sargs below meth c H locs cells slots Q (F0 m pc sl (.double x :: .int 0 :: .ref (B + 327) :: rest)) := by
  refine va_dast hx hb hE.1 hP PW_D hS 327 4 (PW_at (by omega)) rfl (by unfold vp_in; decide) hdg fun H1 locs1 hP1 _ hS1 => kk H1 locs1 ?_ hS1
  rw [PW_set (by omega)] at hP1
  unfold LwS
  rw [← PW_congr (E := updE (LwE B G L hp f g) 327 (.inl (L.2, 1, .inr (.inr (.inr (.inl (vf_upd g 0 x)))))))]
  · exact hP1
  · intro j hj
    by_cases q : j = 327
    · rw [q, updE_s]; rfl
    · rw [updE_n q]
      unfold LwE
      by_cases q2 : j < 326
      · rw [if_pos q2, if_pos q2]
      · rw [if_neg q2, if_neg q2]
        by_cases q3 : j = 326
        · rw [if_pos q3, if_pos q3]
        · exfalso; omega
theorem a9_0 : B + adr (9, 0, 0) = B := by rw [adr_of oth_at.1]; rfl
theorem r9_in : ((9, 0, 0) : RF) ∈ allR := List.mem_of_getElem? oth_at.1
/-- the end: an answer -/
theorem lc_end {k : Int32} {as : List Value} (hx : p.tables.exec = Jvm.exec) (hb : c.code = cc) (hr : meth.sig.returnType = some .int) (hlocks : meth.locks = false) (hc : cells ≤ 1) (hs : slots ≤ 6) (hP : LwS B D G L hp1 f1 g1 H) (hS : va_S (ab B) s.heap H locs) (hd : decode cc pc = .ok (.ireturn, 1)) :
    W p l e R s m as.toArray below meth c H locs cells slots (MQ below (fun _ st oc t => oc = .returned (some (.int k)) ∧ LwS B D G L hp1 f1 g1 t.heap ∧ va_F (ab B) st t) as.toArray s 1 6 (ab B)) (F0 m pc sl [.int k]) := by
  refine W.widen (k := 1) (n := 6) hc hs ?_
  exact W.iret hx hb hr (fun t ht _ => ⟨rfl, by rw [ht]; exact hP, hS.F ht⟩) hS.2.2 hd hlocks
/-- which exception a row of a table names -/
def ctE (k : Nat) : Nat := match k with | 13 => 3 | 15 => 2 | _ => 1
abbrev ctK (k : Nat) : Prop := k = 13 ∨ k = 15 ∨ k = 20
theorem ct_link {k : Nat} (h : ctK k) : Jvm.Cond.classLink RL k (excN (ctE k)) ∈ lwG ∧ k ≠ 0 ∧ 1 ≤ ctE k ∧ ctE k ≤ 3 := by
  have key : (([(13 : Nat), 15, 20]).all (fun k => decide (Jvm.Cond.classLink RL k (excN (ctE k)) ∈ lw_tbl) && goodWord (Jvm.Cond.classLink RL k (excN (ctE k))))) = true := by decide +kernel
  have h2 : k ∈ [(13 : Nat), 15, 20] := by
    rcases h with h | h | h <;> rw [h] <;> decide
  have h3 := List.all_eq_true.mp key k h2
  simp only [Bool.and_eq_true, decide_eq_true_eq] at h3
  refine ⟨List.mem_filter.mpr h3, ?_, ?_, ?_⟩
  all_goals (rcases h with h | h | h <;> rw [h] <;> decide)
theorem nwX_E : ∀ E, 1 ≤ E → E ≤ 3 → Jvm.Cond.castable (excN E) (excN E) ∈ nwX := by
  intro E h1 h2
  have : E = 1 ∨ E = 2 ∨ E = 3 := by omega
  rcases this with h | h | h <;> rw [h]
  · exact List.mem_of_getElem? (i := 0) rfl
  · exact List.mem_of_getElem? (i := 1) rfl
  · exact List.mem_of_getElem? (i := 2) rfl
/-- caught by the row x -/
theorem lc_catch {hh : List (Nat × Nat × Nat × Nat)} {E : Nat} {q : Nat} {ce : Cell} (hts : ∀ w ∈ lwG, w.before sargs s = true) (hown : s.vm.findClass RL = some m.cls) (hE : LwV B D G L adK adV adM s) (htab : c.exceptionTable.toList = tableOf hh) (pre : List ExceptionTableEntry) (x : ExceptionTableEntry) (suf : List ExceptionTableEntry) (hsplit : tableOf hh = pre ++ x :: suf)
    (hpre : ∀ z ∈ pre, ctK z.catchType ∧ ctE z.catchType ≠ E) (hx : covers x pc = true) (hk : ctK x.catchType) (hkE : ctE x.catchType = E) (hcell : H[q]? = some ce) (hv : ce.vm = .none) (hcl : s.vm.findClass (excN E) = some ce.cls)
    (kk : W p l e R s m sargs below meth c H locs cells slots Q (F0 m x.handlerPc sl [.ref q])) : vx_W p l e R s m sargs below meth c H locs cells slots Q (F0 m pc sl rest) q := by
  subst hkE
  obtain ⟨k1, k2, k3, k4⟩ := ct_link hk
  refine vx_catch hown pre x suf (htab.trans hsplit) (fun z hz => Or.inr ?_) hx k2 (hts _ k1) ?_ hcell hv hcl kk
  · obtain ⟨z1, z2⟩ := hpre z hz
    obtain ⟨j1, j2, j3, j4⟩ := ct_link z1
    exact ⟨j2, _, hts _ j1, hE.2.2.2.2.2.2.2.2.2.2.2 _ _ k3 k4 j3 j4 (Ne.symm z2)⟩
  · have hm := nwX_E _ k3 k4
    exact va_Nw.use (nwX_tab _ hm) (hE.2.2.2.2.2.2.2.1 _ hm)
end WRP
