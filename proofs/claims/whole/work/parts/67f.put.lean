section BLD
variable {B k i : Nat} {E E' T F : Nat → va_E}
variable {p : Program} {l : Launch} {e : Env} {R : Room} {s : State} {m : MethodId} {sargs : Array Value} {below : List Frame} {meth : Method} {c : Code} {Q : State → Prop}
variable {pc cells slots : Nat} {D : va_G} {G : GG} {H H0 : Heap} {locs : List Loc} {sl : Array Slot} {rest : List Value} {cc : ByteArray} {own : String}
/-- a field of an object that is being made -/
theorem bw_putF {c' idx f : Nat} {fs : List Value} {v : Value} {ty : FieldType} (hx : p.tables.exec = Jvm.exec) (hb : c.code = cc) (hts : ∀ w ∈ lwG, w.before sargs s = true) (hown : s.vm.findClass (clsN c') = some m.cls) (hc : c' < 11) (hf : f < nF c') (hin2 : meth.name = "<init>") (hlk : (Jvm.Cond.fieldLink (clsN c') idx (clsN c') (TT c' f).2.1 (TT c' f).2.2.1).before sargs s = true) (hfin : (TT c' f).2.2.2 = true)
    (hty : tyT c' f = ty) (hn : narrow ty v = v) (hfit : fits ty v = true) (hl : f < fs.length)
    (hK : KC D G s) (hik : i < k) (hFi : F i = .inr (c', fs)) (hP : va_P D vwCl (PW B k F) H) (hz : H.size = B + k) (hS : va_S (ab B) H0 H locs) (hdg : decode cc pc = .ok (.putfield idx, 3))
    (kk : ∀ H1 locs1, va_P D vwCl (PW B k (updE F i (.inr (c', fs.set f v)))) H1 → H1.size = B + k → va_S (ab B) H0 H1 locs1 → W p l e R s m sargs below meth c H1 locs1 cells slots Q (F0 m (pc + 3) sl rest)) : W p l e R s m sargs below meth c H locs cells slots Q (F0 m pc sl (v :: .ref (B + i) :: rest)) := by
  subst hty
  have hin := layW c' (by omega)
  have hcl := vwCl_at c' (by omega)
  have he : (PW B k F)[i]? = some (B + i, .inr (c', fs)) := by rw [PW_at hik, hFi]
  have hd := TT_ty c' hc f hf
  have hap := va_apart (own := clsN c') hts hin (tyT c') (TT_ty c' hc) (TT_nm c' hc) hK.1 hcl
  obtain ⟨r, h1, cell, q1, q2, q3, q4⟩ := hP i _ he
  have hr : r = (clsN c', TT c', nF c') := Option.some.inj (h1.symm.trans hcl)
  subst hr
  obtain ⟨hS0, hfc, kC, hkC, hkind⟩ := hK.1.1 c' _ hcl
  obtain ⟨cf, kf, fi, f0, hi, hsl⟩ := hS0 f hf
  have hlay := hts _ (hin _ (u_in_lay hf))
  unfold u_lay at hlay
  rw [if_pos hfin] at hlay
  have hst := (u_facts hfc hkC (u_lays hts hin hf) hi).1
  have hcf : m.cls = cf := by
    obtain ⟨_, _, c2, _, _, _, -, -, hf', -, -, -, hown2, -⟩ := Cond.laysFinal_spec hlay
    have e1 : c2 = cf := by have := hi.symm.trans hf'; simp at this; exact this.1.symm
    rw [TT_cls c' hc f hf] at hown2
    rw [← e1]; exact Option.some.inj (hown.symm.trans hown2)
  have h6 := u_fits hfc hkC hkind (Or.inr hlay) hi hd hn hfit
  have hsame : s.fieldFound? (clsN c') (TT c' f).2.1 (TT c' f).2.2.1 = some (cf, kf, fi, f0) := by
    have := hi
    rw [TT_cls c' hc f hf] at this
    exact this
  refine W.putFinK hx hb hown hlk hsame hst hcf hin2 (by rw [q2]; exact h6) q1 q3 (by rw [hsl]; exact k2_hasslot (q4 f hf)) rfl rfl hdg fun H' e1 e2 e3 => ?_
  rw [hsl] at e1 ⊢
  have h9 := hP.set (e := .inr (c', fs.set f v)) PW_D he (show va_at D vwCl (B + i, .inr (c', fs.set f v)) H' from ⟨_, hcl, t_OB.to (V := updV (vp_V fs) f v) ⟨_, e1, q2, q3, t_set q4 hap hf v⟩ (fun j _ => vp_updV_set hl v j)⟩) e3
  rw [PW_set hik] at h9
  exact kk H' _ h9 (e2.trans hz) (hS.put e2 e3 (PW_D.2 i _ he))
/-- a field of an object that is being made -/
theorem bw_put {c' idx f : Nat} {fs : List Value} {v : Value} {ty : FieldType} (hx : p.tables.exec = Jvm.exec) (hb : c.code = cc) (hts : ∀ w ∈ lwG, w.before sargs s = true) (hown : s.vm.findClass (clsN c') = some m.cls) (hc : c' < 11) (hf : f < nF c') (hlk : (Jvm.Cond.fieldLink (clsN c') idx (clsN c') (TT c' f).2.1 (TT c' f).2.2.1).before sargs s = true) (hfin : (TT c' f).2.2.2 = false)
    (hty : tyT c' f = ty) (hn : narrow ty v = v) (hfit : fits ty v = true) (hl : f < fs.length)
    (hK : KC D G s) (hik : i < k) (hFi : F i = .inr (c', fs)) (hP : va_P D vwCl (PW B k F) H) (hz : H.size = B + k) (hS : va_S (ab B) H0 H locs) (hdg : decode cc pc = .ok (.putfield idx, 3))
    (kk : ∀ H1 locs1, va_P D vwCl (PW B k (updE F i (.inr (c', fs.set f v)))) H1 → H1.size = B + k → va_S (ab B) H0 H1 locs1 → W p l e R s m sargs below meth c H1 locs1 cells slots Q (F0 m (pc + 3) sl rest)) : W p l e R s m sargs below meth c H locs cells slots Q (F0 m pc sl (v :: .ref (B + i) :: rest)) := by
  subst hty
  have hin := layW c' (by omega)
  have hcl := vwCl_at c' (by omega)
  have he : (PW B k F)[i]? = some (B + i, .inr (c', fs)) := by rw [PW_at hik, hFi]
  have hd := TT_ty c' hc f hf
  have hap := va_apart (own := clsN c') hts hin (tyT c') (TT_ty c' hc) (TT_nm c' hc) hK.1 hcl
  obtain ⟨r, h1, cell, q1, q2, q3, q4⟩ := hP i _ he
  have hr : r = (clsN c', TT c', nF c') := Option.some.inj (h1.symm.trans hcl)
  subst hr
  obtain ⟨hS0, hfc, kC, hkC, hkind⟩ := hK.1.1 c' _ hcl
  obtain ⟨cf, kf, fi, f0, hi, hsl⟩ := hS0 f hf
  have hlay := hts _ (hin _ (u_in_lay hf))
  unfold u_lay at hlay
  rw [if_neg (by rw [hfin]; decide)] at hlay
  have hst := (u_facts hfc hkC (u_lays hts hin hf) hi).1
  have h6 := u_store hfc hkC hkind hlay hi hd hn hfit
  have hsame : s.fieldFound? (clsN c') (TT c' f).2.1 (TT c' f).2.2.1 = some (cf, kf, fi, f0) := by
    have := hi
    rw [TT_cls c' hc f hf] at this
    exact this
  refine W.putK hx hb (f := f0) ⟨hown, hlk, ⟨_, _, _, hsame⟩, hst⟩ (by rw [q2]; exact h6) q1 q3 (by rw [hsl]; exact k2_hasslot (q4 f hf)) rfl rfl hdg fun H' e1 e2 e3 => ?_
  rw [hsl] at e1 ⊢
  have h9 := hP.set (e := .inr (c', fs.set f v)) PW_D he (show va_at D vwCl (B + i, .inr (c', fs.set f v)) H' from ⟨_, hcl, t_OB.to (V := updV (vp_V fs) f v) ⟨_, e1, q2, q3, t_set q4 hap hf v⟩ (fun j _ => vp_updV_set hl v j)⟩) e3
  rw [PW_set hik] at h9
  exact kk H' _ h9 (e2.trans hz) (hS.put e2 e3 (PW_D.2 i _ he))
end BLD
