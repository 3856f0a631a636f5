section BLD
variable {B k i : Nat} {E E' T F : Nat → va_E}
variable {p : Program} {l : Launch} {e : Env} {R : Room} {s : State} {m : MethodId} {sargs : Array Value} {below : List Frame} {meth : Method} {c : Code} {Q : State → Prop}
variable {pc cells slots : Nat} {D : va_G} {G : GG} {H H0 : Heap} {locs : List Loc} {sl : Array Slot} {rest : List Value} {cc : ByteArray} {own : String}
/-- a contract of a constructor: the object stands last, at i -/
def CTM (l : Launch) (B : Nat) (D : va_G) (G : GG) (y : MethodName) (bytes : ByteArray) (maxL d cl' sl' i cnt : Nat) (as : List Value) (T E : Nat → va_E) : Prop :=
  Met l y (Jvm.Cond.code y bytes maxL none :: lwG) (rmC d cl' sl') (fun av U => av = (Value.ref (B + i) :: as).toArray ∧ U.heap.size = B + (i + 1) ∧ va_P D vwCl (PW B (i + 1) E) U.heap ∧ KC D G U)
    (fun _ st oc t => oc = .returned none ∧ t.heap.size = B + (i + cnt) ∧ va_P D vwCl (PW B (i + cnt) (mixE i E T)) t.heap ∧ va_F (ab B) st t) cl' sl' (ab B)
/-- behind a constructor's call -/
theorem bw_back {cnt cl' sl' : Nat} {ar : Array Value} {st0 : List Value}
    (hr : va_Run p l e R s m sargs below meth c H locs cells slots cl' sl' (F0 m pc sl st0) rest ((fun _ st oc t => oc = .returned none ∧ t.heap.size = B + (k + cnt) ∧ va_P D vwCl (PW B (k + cnt) (mixE k E T)) t.heap ∧ va_F (ab B) st t : Array Value → State → Outcome → State → Prop) ar) (ab B))
    (hS : va_S (ab B) H0 H locs)
    (kk : ∀ H1 locs1, va_P D vwCl (PW B (k + cnt) (mixE k E T)) H1 → H1.size = B + (k + cnt) → va_S (ab B) H0 H1 locs1 → W p l e R s m sargs below meth c H1 locs1 (cells + cl') (slots + sl') Q (F0 m (pc + 3) sl rest)) : W p l e R s m sargs below meth c H locs cells slots Q (F0 m pc sl st0) := by
  intro T1 hT X
  obtain ⟨w, st₀, t, T', L, h0, X', hL, e1, e2, ⟨hw, hz, hP, hF⟩, stp⟩ := hr T1 hT X
  cases hw
  have hS2 : va_S (ab B) H0 T'.heap (locs ++ L) := by
    refine ⟨?_, fun q h1 h2 => ?_, fun q hq => ?_⟩
    · have h1 := hF.1
      rw [h0] at h1
      rw [e1]
      exact Nat.le_trans hS.1 h1
    · have h3 := hF.2 q (by rw [h0]; exact Nat.lt_of_lt_of_le h1 hS.1) h2
      rw [h0] at h3
      rw [e1, h3]
      exact hS.2.1 q h1 h2
    · rcases List.mem_append.mp hq with h | h
      · exact hS.2.2 q h
      · exact hL q h
  obtain ⟨t2, a1, b1⟩ := kk T'.heap (locs ++ L) (by rw [e1]; exact hP) (by rw [e1]; exact hz) hS2 T' rfl X'
  exact ⟨t2, stp t2 a1, b1⟩
/-- a constructor's call -/
theorem bw_call {y : MethodName} {bytes : ByteArray} {maxL d cl' sl' cnt n nL idx : Nat} {as : List Value} {x : va_E} (hx : p.tables.exec = Jvm.exec) (hb : c.code = cc) (hml : c.maxLocals = nL) (hlsz : sl.size = nL) (hts : ∀ w ∈ lwG, w.before sargs s = true) (hown : s.vm.findClass own = some m.cls)
    (hF : ∀ j, k ≤ j → F j = T j) (hM : CTM l B D G y bytes maxL d cl' sl' k cnt as T (updE F k x)) (hcode : Jvm.Cond.code y bytes maxL none ∈ lwG) (hini : Jvm.Cond.initialized y.cls ∈ lwG) (hlk : (Jvm.Cond.methodLink own idx y).before sargs s = true) (hin : Jvm.Cond.instanceMethod y ∈ lwG) (hy : y.name = "<init>")
    (hd : y.cls ≠ "java/lang/invoke/MethodHandle" ∧ y.cls ≠ "java/lang/invoke/VarHandle" ∧ (parseMethodDescriptor y.desc).map (fun d => d.parameters.length) = some n) (hn : as.length = n) (hm17 : maxL ≤ 17) (hRf : d + 1 ≤ R.frames) (hRl : 36 * (d + 1) ≤ R.locals)
    (hK : KC D G s) (hP : va_P D vwCl (PW B (k + 1) (updE F k x)) H) (hz : H.size = B + (k + 1)) (hS : va_S (ab B) H0 H locs) (hcells : cells + cl' ≤ R.cells) (hslots : slots + sl' ≤ R.slots) (hrest : (rest.map fun v => v.category).sum ≤ 8) (hdg : decode cc pc = .ok (.invokespecial idx, 3))
    (kk : ∀ H1 locs1, va_P D vwCl (PW B (k + cnt) F) H1 → H1.size = B + (k + cnt) → va_S (ab B) H0 H1 locs1 → W p l e R s m sargs below meth c H1 locs1 (cells + cl') (slots + sl') Q (F0 m (pc + 3) sl rest)) : W p l e R s m sargs below meth c H locs cells slots Q (F0 m pc sl (as.reverse ++ .ref (B + k) :: rest)) := by
  have hG : GoodIn lwG (Jvm.Cond.code y bytes maxL none :: lwG) := fun w hw => (List.mem_cons.mp hw).elim (fun e => by rw [e]; exact ⟨hcode, Or.inl rfl⟩) (fun h => lwG_good w h)
  refine bw_back (ar := (Value.ref (B + k) :: as).toArray) (va_runI (As := as) (rest := rest) ⟨hx, hb, hml, hown, hts⟩ hM ⟨callB_of n hts hG rfl rfl rfl (hts _ hini) hlk hd ⟨hRf, by show 8 + (maxL + 11) + 36 * d ≤ _; omega⟩, hy, hts _ hin⟩ ⟨fun a U g mk q => ⟨q.1, q.2.1, q.2.2.1, q.2.2.2.warm (State.WarmedH.refl U)⟩, fun U hU hW => ⟨rfl, by rw [hU]; exact hz, by rw [hU]; exact hP, hK.warm hW⟩⟩ rfl hn hlsz rfl (lv_room hrest) hdg ⟨hcells, hslots⟩) hS (fun H1 locs1 h1 h2 h3 => kk H1 locs1 ?_ h2 h3)
  rw [← PW_congr (E := mixE k (updE F k x) T)]
  · exact h1
  · intro j hj
    unfold mixE
    by_cases q : j < k
    · rw [if_pos q, updE_n (by omega)]
    · rw [if_neg q, hF j (by omega)]
/-- the same, of a nest mate's private constructor -/
theorem bw_callN {y : MethodName} {bytes : ByteArray} {maxL d cl' sl' cnt n nL idx : Nat} {as : List Value} {x : va_E} (hx : p.tables.exec = Jvm.exec) (hb : c.code = cc) (hml : c.maxLocals = nL) (hlsz : sl.size = nL) (hts : ∀ w ∈ lwG, w.before sargs s = true) (hown : s.vm.findClass own = some m.cls)
    (hF : ∀ j, k ≤ j → F j = T j) (hM : CTM l B D G y bytes maxL d cl' sl' k cnt as T (updE F k x)) (hcode : Jvm.Cond.code y bytes maxL none ∈ lwG) (hini : Jvm.Cond.initialized y.cls ∈ lwG) (hlk : va_Nw (.methodLinkNest own idx y "TypebarMachine") s) (hin : Jvm.Cond.instanceMethod y ∈ lwG) (hy : y.name = "<init>")
    (hd : y.cls ≠ "java/lang/invoke/MethodHandle" ∧ y.cls ≠ "java/lang/invoke/VarHandle" ∧ (parseMethodDescriptor y.desc).map (fun d => d.parameters.length) = some n) (hn : as.length = n) (hm17 : maxL ≤ 17) (hRf : d + 1 ≤ R.frames) (hRl : 36 * (d + 1) ≤ R.locals)
    (hK : KC D G s) (hP : va_P D vwCl (PW B (k + 1) (updE F k x)) H) (hz : H.size = B + (k + 1)) (hS : va_S (ab B) H0 H locs) (hcells : cells + cl' ≤ R.cells) (hslots : slots + sl' ≤ R.slots) (hrest : (rest.map fun v => v.category).sum ≤ 8) (hdg : decode cc pc = .ok (.invokespecial idx, 3))
    (kk : ∀ H1 locs1, va_P D vwCl (PW B (k + cnt) F) H1 → H1.size = B + (k + cnt) → va_S (ab B) H0 H1 locs1 → W p l e R s m sargs below meth c H1 locs1 (cells + cl') (slots + sl') Q (F0 m (pc + 3) sl rest)) : W p l e R s m sargs below meth c H locs cells slots Q (F0 m pc sl (as.reverse ++ .ref (B + k) :: rest)) := by
  have hG : GoodIn lwG (Jvm.Cond.code y bytes maxL none :: lwG) := fun w hw => (List.mem_cons.mp hw).elim (fun e => by rw [e]; exact ⟨hcode, Or.inl rfl⟩) (fun h => lwG_good w h)
  refine bw_back (ar := (Value.ref (B + k) :: as).toArray) (va_runIN (As := as) (rest := rest) (host := "TypebarMachine") ⟨hx, hb, hml, hown, hts⟩ hM ⟨va_cnB n hts hG rfl rfl rfl hlk (hts _ hini) hd ⟨hRf, by show 8 + (maxL + 11) + 36 * d ≤ _; omega⟩, hy, hts _ hin⟩ ⟨fun a U g mk q => ⟨q.1, q.2.1, q.2.2.1, q.2.2.2.warm (State.WarmedH.refl U)⟩, fun U hU hW => ⟨rfl, by rw [hU]; exact hz, by rw [hU]; exact hP, hK.warm hW⟩⟩ rfl hn hlsz rfl (lv_room hrest) hdg ⟨hcells, hslots⟩) hS (fun H1 locs1 h1 h2 h3 => kk H1 locs1 ?_ h2 h3)
  rw [← PW_congr (E := mixE k (updE F k x) T)]
  · exact h1
  · intro j hj
    unfold mixE
    by_cases q : j < k
    · rw [if_pos q, updE_n (by omega)]
    · rw [if_neg q, hF j (by omega)]
end BLD
