section BLD
variable {B k i : Nat} {E E' T : Nat → va_E}
variable {p : Program} {l : Launch} {e : Env} {R : Room} {s : State} {m : MethodId} {sargs : Array Value} {below : List Frame} {meth : Method} {c : Code} {Q : State → Prop}
variable {pc cells slots : Nat} {D : va_G} {G : GG} {H H0 : Heap} {locs : List Loc} {sl : Array Slot} {rest : List Value} {cc : ByteArray} {own : String}
/-- a new row of machines -/
theorem bw_newq {idx : Nat} (hx : p.tables.exec = Jvm.exec) (hb : c.code = cc) (hown : s.vm.findClass own = some m.cls) (hcl : (Jvm.Cond.classLink own idx RX3).before sargs s = true)
    (hK : KC D G s) (hP : va_P D vwCl (PW B k E) H) (hz : H.size = B + k) (hS : va_S (ab B) H0 H locs) (hcells : cells + 1 ≤ R.cells) (hslots : slots + 8 ≤ R.slots) (hdg : decode cc pc = .ok (.anewarray idx, 3))
    (kk : ∀ H1, va_P D vwCl (PW B (k + 1) (updE E k (zQ G.2.2 8 (fun _ => none)))) H1 → H1.size = B + (k + 1) → va_S (ab B) H0 H1 locs → W p l e R s m sargs below meth c H1 locs (cells + 1) (slots + 8) Q (F0 m (pc + 3) sl (.ref (B + k) :: rest))) : W p l e R s m sargs below meth c H locs cells slots Q (F0 m pc sl (.int 8 :: rest)) := by
  obtain ⟨kA0, comp0, r1, r2, r3, r4⟩ := (hK.1.2 2 _ rfl).2
  refine W.anew hx hb hown hcl (va_AO.use hK.2.2) rfl hdg rfl (by decide) (Nat.le_of_ble_eq_true rfl) hcells (by show slots + 8 ≤ _; exact hslots) fun cA kA comp f1 f2 f3 f4 => ?_
  cases r4.symm.trans f1
  generalize hH1 : H.push ({ cls := G.2.2, slots := Array.replicate (8 : Int32).toNatClampNeg .null, vm := .none } : Cell) = H1
  have z1 : H1.size = H.size + 1 := by rw [← hH1, Array.size_push]
  have e1 : H1[H.size]? = some (arrV G.2.2 (8 : Int32).toNatClampNeg (fun _ => .null)) := by rw [← hH1, Array.getElem?_push_size, ← arrV_new]
  have o1 : ∀ q : Nat, q < H.size → H1[q]? = H[q]? := fun q hq => by rw [← hH1, Array.getElem?_push, if_neg (Nat.ne_of_lt hq)]
  have hk : ∀ (k' : Nat) (x : Nat × va_E), (PW B k E)[k']? = some x → H1[x.1]? = H[x.1]? := fun k' x hx' => o1 x.1 ((hP k' x hx').lt)
  have hz1 : H.size = B + k := hz
  show W p l e R s m sargs below meth c H1 locs (cells + 1) (slots + 8) Q (F0 m (pc + 3) sl (.ref H.size :: rest))
  rw [hz1]
  refine kk H1 ?_ (by rw [z1]; omega) ⟨Nat.le_trans hS.1 (by omega), fun x h1 h2 => (o1 x (Nat.lt_of_lt_of_le h1 hS.1)).trans (hS.2.1 x h1 h2), hS.2.2⟩
  rw [← PW_push]
  refine (hP.kept hk).app (fun k' x hx' => ?_)
  have hz' : k' < 1 := (List.getElem?_eq_some_iff.mp hx').1
  rw [show k' = 0 by omega] at hx'
  cases hx'
  show H1[B + k]? = _
  rw [← hz1]
  exact e1
end BLD
