/-! ===== calls of the class and of the reference out of the law's class ===== -/
section LCALL
variable {p : Program} {l : Launch} {e : Env} {R : Room} {s : State} {m : MethodId} {sargs : Array Value} {below : List Frame} {meth : Method} {c : Code} {Q : State → Prop}
variable {B pc cells slots nL : Nat} {D : va_G} {G : GG} {L : GL} {adK adV adM : Nat → Nat} {hp hp1 : HP} {f : Nat → Int64} {g : Nat → UInt64} {H H1 : Heap} {locs : List Loc} {sl : Array Slot} {cc : ByteArray} {own : String}
theorem lw_henv (hE : LwV B D G L adK adV adM s) (hS : va_S (ab B) s.heap H locs) : ∀ U : State, U.heap = H → s.WarmedH U.vm → LwV B D G L adK adV adM U := fun U hU hW => hE.warm hW (fun q h1 h2 => by rw [hU]; exact hS.2.1 q h1 h2)
theorem lc_call (hJ : JST l B D G adK adV) {d μ idx : Nat} {r : RF} {as : List VL} {v : Option VL} {rest : List Value} (hx : p.tables.exec = Jvm.exec) (hb : c.code = cc) (hml : c.maxLocals = nL) (hlsz : sl.size = nL) (hts : ∀ w ∈ lwG, w.before sargs s = true) (hown : s.vm.findClass own = some m.cls) (hE : LwV B D G L adK adV adM s)
    (hμ : μ < 290) (hst : (mus μ).2.1 = false) (hr : r ∈ allR) (hr10 : r.1 ≤ 10) (hcl : clOf μ = r.1) (hn : as.length = (mus μ).2.2) (hI : ∀ w ∈ as, okI w) (hc : Calls d μ (vR r :: as) hp (.inl v, hp1)) (hlk : Jvm.Cond.methodLink own idx (nameOf μ) ∈ lwG) (hRf : d + 1 ≤ R.frames) (hRl : 36 * (d + 1) ≤ R.locals)
    (hrest : (rest.map fun v => v.category).sum ≤ 8) (hP : LwS B D G L hp f g H) (hS : va_S (ab B) s.heap H locs) (hcells : cells ≤ R.cells) (hslots : slots ≤ R.slots) (hd : decode cc pc = .ok (.invokevirtual idx, 3))
    (kk : ∀ H1 locs1, LwS B D G L hp1 f g H1 → va_S (ab B) s.heap H1 locs1 → W p l e R s m sargs below meth c H1 locs1 cells slots Q (F0 m (pc + 3) sl ((v.map (toV B adK)).toList ++ rest))) : W p l e R s m sargs below meth c H locs cells slots Q (F0 m pc sl ((as.map (toV B adK)).reverse ++ .ref (B + adr r) :: rest)) := by
  have hnA : (vR r :: as).length = nA μ := by
    simp only [nA, hst, List.length_cons, hn]
    simp
  have hM : RMet l B D G adK adV d μ (vR r :: as) hp v hp1 := sim_call hJ hμ hnA (fun w hw => by
    rcases List.mem_cons.mp hw with rfl | h
    · exact Or.inr ⟨by omega, hr⟩
    · exact hI w h) hc
  obtain ⟨d1, d2, d3, d4⟩ := okD_at hμ
  obtain ⟨g1, g2⟩ := d4 hst
  have hent := World_get (B := B) (G := G) (hp := hp) hr
  rw [ent_obj hr10] at hent
  have hargV : ((vR r :: as).map (toV B adK)).toArray = (Value.ref (B + adr r) :: as.map (toV B adK)).toArray := by
    rw [List.map_cons, toV_ref (by omega)]
  refine lc_ret (va_runV (C := clsN (clOf μ)) (As := as.map (toV B adK)) (rest := rest) ⟨hx, hb, hml, hown, hts⟩ hM ⟨callB_my hμ hts (hts _ hlk) hRf hRl, hts _ g1, hts _ g2⟩ ⟨(fun a U g mk q => ⟨q.1, q.2.1, q.2.2.warm (State.WarmedH.refl U) (fun _ _ _ => rfl)⟩), ?_, fun U hU hW => ⟨hargV.symm, by rw [hU]; exact hP.world, (lw_henv hE hS U hU hW).env⟩⟩ rfl ?_ hlsz rfl (lv_room hrest) hd ⟨by omega, by omega⟩) hP hS kk
  · rw [hcl]
    exact va_recv hE.1 hP.world (vwCl_at _ hr10) hent
  · rw [List.length_map, hn]
theorem lc_callT (hJ : JST l B D G adK adV) (hfl : l.stackTraces = false) {d μ idx E : Nat} {r : RF} {as : List VL} {rest : List Value} (hx : p.tables.exec = Jvm.exec) (hb : c.code = cc) (hml : c.maxLocals = nL) (hlsz : sl.size = nL) (hts : ∀ w ∈ lwG, w.before sargs s = true) (hown : s.vm.findClass own = some m.cls) (hE : LwV B D G L adK adV adM s)
    (hμ : μ < 290) (hst : (mus μ).2.1 = false) (hr : r ∈ allR) (hr10 : r.1 ≤ 10) (hcl : clOf μ = r.1) (hn : as.length = (mus μ).2.2) (hI : ∀ w ∈ as, okI w) (hc : Calls d μ (vR r :: as) hp (.inr E, hp1)) (hlk : Jvm.Cond.methodLink own idx (nameOf μ) ∈ lwG) (hRf : d + 1 ≤ R.frames) (hRl : 36 * (d + 1) ≤ R.locals)
    (hrest : (rest.map fun v => v.category).sum ≤ 8) (hP : LwS B D G L hp f g H) (hS : va_S (ab B) s.heap H locs) (hcells : cells + 1 ≤ R.cells) (hslots : slots + 6 ≤ R.slots) (hd : decode cc pc = .ok (.invokevirtual idx, 3))
    (kk : ∀ H1 locs1 q ce, LwS B D G L hp1 f g H1 → va_S (ab B) s.heap H1 locs1 → H1[q]? = some ce → ce.vm = .none → s.vm.findClass (excN E) = some ce.cls → vx_W p l e R s m sargs below meth c H1 locs1 (cells + 1) (slots + 6) Q (F0 m pc sl rest) q) : W p l e R s m sargs below meth c H locs cells slots Q (F0 m pc sl ((as.map (toV B adK)).reverse ++ .ref (B + adr r) :: rest)) := by
  have hnA : (vR r :: as).length = nA μ := by
    simp only [nA, hst, List.length_cons, hn]
    simp
  have hM : TMet l B D G adK adV adM d μ (vR r :: as) hp E hp1 := simx_call hJ hfl hμ hnA (fun w hw => by
    rcases List.mem_cons.mp hw with rfl | h
    · exact Or.inr ⟨by omega, hr⟩
    · exact hI w h) hc
  obtain ⟨d1, d2, d3, d4⟩ := okD_at hμ
  obtain ⟨g1, g2⟩ := d4 hst
  have hent := World_get (B := B) (G := G) (hp := hp) hr
  rw [ent_obj hr10] at hent
  have hargV : ((vR r :: as).map (toV B adK)).toArray = (Value.ref (B + adr r) :: as.map (toV B adK)).toArray := by
    rw [List.map_cons, toV_ref (by omega)]
  refine lc_thr (vx_runV (C := clsN (clOf μ)) (As := as.map (toV B adK)) (rest := rest) ⟨hx, hb, hml, hown, hts⟩ hM ⟨callX_my hμ hts (hts _ hlk) hRf hRl, hts _ g1, hts _ g2⟩ ⟨(fun a U g mk q => ⟨⟨q.1.1, q.1.2.1, q.1.2.2.warm (State.WarmedH.refl U) (fun _ _ _ => rfl)⟩, q.2.warm (State.WarmedH.refl U) (fun _ _ _ => rfl)⟩), ?_, fun U hU hW => ⟨⟨hargV.symm, by rw [hU]; exact hP.world, (lw_henv hE hS U hU hW).env⟩, (lw_henv hE hS U hU hW).envx⟩⟩ rfl ?_ hlsz rfl (lv_room hrest) hd ⟨by omega, by omega⟩) hP hS kk
  · rw [hcl]
    exact va_recv hE.1 hP.world (vwCl_at _ hr10) hent
  · rw [List.length_map, hn]
end LCALL
