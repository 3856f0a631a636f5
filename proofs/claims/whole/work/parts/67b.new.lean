section BLD
variable {B k i : Nat} {E E' T : Nat → va_E}
variable {p : Program} {l : Launch} {e : Env} {R : Room} {s : State} {m : MethodId} {sargs : Array Value} {below : List Frame} {meth : Method} {c : Code} {Q : State → Prop}
variable {pc cells slots : Nat} {D : va_G} {G : GG} {H H0 : Heap} {locs : List Loc} {sl : Array Slot} {rest : List Value} {cc : ByteArray} {own : String}
/-- a new object -/
theorem bw_new {c' idx : Nat} (hx : p.tables.exec = Jvm.exec) (hb : c.code = cc) (hts : ∀ w ∈ lwG, w.before sargs s = true) (hown : s.vm.findClass own = some m.cls) (hc : c' < 11) (hcl : (Jvm.Cond.classLink own idx (clsN c')).before sargs s = true)
    (hK : KC D G s) (hP : va_P D vwCl (PW B k E) H) (hz : H.size = B + k) (hS : va_S (ab B) H0 H locs) (hB : B ≤ H0.size) (hcells : cells + 1 ≤ R.cells) (hslots : slots + nF c' ≤ R.slots) (hdg : decode cc pc = .ok (.new idx, 3))
    (kk : ∀ H1, va_P D vwCl (PW B (k + 1) (updE E k (.inr (c', dfl c')))) H1 → H1.size = B + (k + 1) → va_S (ab B) H0 H1 locs → W p l e R s m sargs below meth c H1 locs (cells + 1) (slots + nF c') Q (F0 m (pc + 3) sl (.ref (B + k) :: rest))) : W p l e R s m sargs below meth c H locs cells slots Q (F0 m pc sl rest) := by
  obtain ⟨w1, w2⟩ := clsW c' hc
  have hKn := hK.1.1 c' _ (vwCl_at c' (by omega))
  refine W.newcK hx hb hown hcl (hts _ w1) (hts _ w2) rfl hdg hcells hslots hKn.2.1 hz fun H1 kC hkC e1 z1 o1 => ?_
  have hk : ∀ (k' : Nat) (x : Nat × va_E), (PW B k E)[k']? = some x → H1[x.1]? = H[x.1]? := fun k' x hx' => by
    have := (hP k' x hx').lt
    exact o1 x.1 (by rw [← hz]; exact this)
  refine kk H1 ?_ (by rw [z1]; omega) ⟨Nat.le_trans hS.1 (by omega), fun x h1 h2 => (o1 x (by have := hS.1; omega)).trans (hS.2.1 x h1 h2), hS.2.2⟩
  rw [← PW_push]
  refine (hP.kept hk).app (fun k' x hx' => ?_)
  have hz' : k' < 1 := (List.getElem?_eq_some_iff.mp hx').1
  rw [show k' = 0 by omega] at hx'
  cases hx'
  exact ⟨_, vwCl_at c' (by omega), (u_born (tyT c') hts (layW c' (by omega)) hKn hkC e1 (TT_ty c' hc)).to (dfl_ok c' hc)⟩
end BLD
