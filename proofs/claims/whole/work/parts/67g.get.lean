section BLD
variable {B k i : Nat} {E E' T F : Nat → va_E}
variable {p : Program} {l : Launch} {e : Env} {R : Room} {s : State} {m : MethodId} {sargs : Array Value} {below : List Frame} {meth : Method} {c : Code} {Q : State → Prop}
variable {pc cells slots : Nat} {D : va_G} {G : GG} {H H0 : Heap} {locs : List Loc} {sl : Array Slot} {rest : List Value} {cc : ByteArray} {own : String}
/-- a field is read -/
theorem bw_get {c' idx f : Nat} {fs : List Value} {v : Value} (hx : p.tables.exec = Jvm.exec) (hb : c.code = cc) (hts : ∀ w ∈ lwG, w.before sargs s = true) (hown : s.vm.findClass own = some m.cls) (hc : c' < 11) (hf : f < nF c') (hlk : (Jvm.Cond.fieldLink own idx (clsN c') (TT c' f).2.1 (TT c' f).2.2.1).before sargs s = true)
    (hv : fs[f]? = some v) (hK : KC D G s) (hik : i < k) (hFi : F i = .inr (c', fs)) (hP : va_P D vwCl (PW B k F) H) (hdg : decode cc pc = .ok (.getfield idx, 3))
    (kk : W p l e R s m sargs below meth c H locs cells slots Q (F0 m (pc + 3) sl (v :: rest))) : W p l e R s m sargs below meth c H locs cells slots Q (F0 m pc sl (.ref (B + i) :: rest)) := by
  have he : (PW B k F)[i]? = some (B + i, .inr (c', fs)) := by rw [PW_at hik, hFi]
  exact va_get (T := TT c') (N := nF c') (C := clsN c') (ref := clsN c') hx hb hts (layW c' (by omega)) hown hK.1 hP i he (vwCl_at c' (by omega)) f hf hlk (by rw [TT_cls c' hc f hf]; exact fun _ h => h) hv hdg kk
/-- a machine is put into the row of machines -/
theorem bw_aast {qk : Nat} {vs : List Value} {f : Nat → Option Nat} {j : Nat} (hx : p.tables.exec = Jvm.exec) (hb : c.code = cc) (hK : KC D G s) (hik : i < k) (hFi : F i = zQ G.2.2 8 f) (hqk : qk < k) (hFq : F qk = .inr (3, vs)) (hj : j < 8) (hP : va_P D vwCl (PW B k F) H) (hz : H.size = B + k) (hS : va_S (ab B) H0 H locs) (hdg : decode cc pc = .ok (.aastore, 1))
    (kk : ∀ H1 locs1, va_P D vwCl (PW B k (updE F i (zQ G.2.2 8 (va_up f j (some (B + qk)))))) H1 → H1.size = B + k → va_S (ab B) H0 H1 locs1 → W p l e R s m sargs below meth c H1 locs1 cells slots Q (F0 m (pc + 1) sl rest)) : W p l e R s m sargs below meth c H locs cells slots Q (F0 m pc sl (.ref (B + qk) :: .int (nI j) :: .ref (B + i) :: rest)) := by
  have ha : (PW B k F)[i]? = some (B + i, zQ G.2.2 8 f) := by rw [PW_at hik, hFi]
  have hv : (PW B k F)[qk]? = some (B + qk, .inr (3, vs)) := by rw [PW_at hqk, hFq]
  have hcl := vwCl_at 3 (by omega)
  obtain ⟨r', hr', cellV, g1, g2, g3, -⟩ := hP qk _ hv
  have hcls := (hK.1.1 3 _ hcl).2
  obtain ⟨kA, comp, k1, k2, k3, -⟩ := (hK.1.2 2 _ rfl).2
  have hcomp : comp = D.1 3 := Option.some.inj (k3.symm.trans hcls.1)
  subst hcomp
  obtain ⟨kC, hkC, -⟩ := hcls.2
  have h8 : (nI j).toNatClampNeg = j := n_c (by omega)
  refine W.aast hx hb (hP i _ ha) (fun q h => by cases h) (fun h => by cases h) k1 k2 rfl hkC ⟨n_neg (by omega), by show _ < (arrV _ _ _).slots.size; rw [arrV_size, h8]; exact hj⟩ g1 (fun q h => by rw [g3] at h; cases h) (by rw [g2]; exact hkC) (by rw [g2]; exact va_assign hcls) rfl rfl hdg fun H1 e z oq => ?_
  have h9 := hP.set (e := zQ G.2.2 8 (va_up f j (some (B + qk)))) PW_D ha (show H1[B + i]? = some (vp_cell G.2.2 (8, .inr (.inr (.inr (.inr (va_up f j (some (B + qk)))))))) from by
    rw [e, h8]
    show some ((vp_cell G.2.2 (8, .inr (.inr (.inr (.inr f))))).setSlot j (.ref (B + qk))) = _
    rw [vp_cell_q, vp_cell_q, arrV_store]
    congr 2
    funext q
    unfold va_up updV
    by_cases hq : q = j
    · rw [if_pos hq, if_pos hq]; rfl
    · rw [if_neg hq, if_neg hq]) oq
  rw [PW_set hik] at h9
  exact kk H1 _ h9 (z.trans hz) (hS.put z oq (PW_D.2 i _ ha))
end BLD
