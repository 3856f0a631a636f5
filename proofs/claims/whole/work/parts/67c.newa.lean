section BLD
variable {B k i : Nat} {E E' T : Nat → va_E}
variable {p : Program} {l : Launch} {e : Env} {R : Room} {s : State} {m : MethodId} {sargs : Array Value} {below : List Frame} {meth : Method} {c : Code} {Q : State → Prop}
variable {pc cells slots : Nat} {D : va_G} {G : GG} {H H0 : Heap} {locs : List Loc} {sl : Array Slot} {rest : List Value} {cc : ByteArray} {own : String}
/-- a new row: int -/
theorem bw_newi (hx : p.tables.exec = Jvm.exec) (hb : c.code = cc) (hts : ∀ w ∈ lwG, w.before sargs s = true)
    (hK : KC D G s) (hP : va_P D vwCl (PW B k E) H) (hz : H.size = B + k) (hS : va_S (ab B) H0 H locs) (N : Nat) (hN2 : N ≤ 20000) (hcells : cells + 1 ≤ R.cells) (hslots : slots + N ≤ R.slots) (hdg : decode cc pc = .ok (.newarray .int, 2))
    (kk : ∀ H1, va_P D vwCl (PW B (k + 1) (updE E k (zI G.1 N))) H1 → H1.size = B + (k + 1) → va_S (ab B) H0 H1 locs → W p l e R s m sargs below meth c H1 locs (cells + 1) (slots + N) Q (F0 m (pc + 2) sl (.ref (B + k) :: rest))) : W p l e R s m sargs below meth c H locs cells slots Q (F0 m pc sl (.int (nI N) :: rest)) := by
  have hfc : s.vm.findClass ("[" ++ (FieldType.int).toString) = some G.1 := (hK.1.2 0 _ rfl).2
  refine va_newaK (atype := .int) hx hb (hts _ (bwW_at 2 rfl)) (g := F0 m pc sl (.int (nI N) :: rest)) rfl hdg rfl (n_neg (by omega)) (n_c (by omega)) (show N * componentBytes .int ≤ 536870912 from Nat.le_trans (Nat.mul_le_mul_left N (show componentBytes .int ≤ 4 by decide)) (by omega)) hcells hslots hz fun H1 cA' e1 z1 o1 hAr hNm => ?_
  cases hfc.symm.trans hNm
  have hk : ∀ (k' : Nat) (x : Nat × va_E), (PW B k E)[k']? = some x → H1[x.1]? = H[x.1]? := fun k' x hx' => by
    have := (hP k' x hx').lt
    exact o1 x.1 (by rw [← hz]; exact this)
  refine kk H1 ?_ (by rw [z1]; omega) ⟨Nat.le_trans hS.1 (by omega), fun x h1 h2 => (o1 x (by have := hS.1; omega)).trans (hS.2.1 x h1 h2), hS.2.2⟩
  rw [← PW_push]
  refine (hP.kept hk).app (fun k' x hx' => ?_)
  have hz' : k' < 1 := (List.getElem?_eq_some_iff.mp hx').1
  rw [show k' = 0 by omega] at hx'
  cases hx'
  exact e1
/-- a new row: boolean -/
theorem bw_newz (hx : p.tables.exec = Jvm.exec) (hb : c.code = cc) (hts : ∀ w ∈ lwG, w.before sargs s = true)
    (hK : KC D G s) (hP : va_P D vwCl (PW B k E) H) (hz : H.size = B + k) (hS : va_S (ab B) H0 H locs) (N : Nat) (hN2 : N ≤ 20000) (hcells : cells + 1 ≤ R.cells) (hslots : slots + N ≤ R.slots) (hdg : decode cc pc = .ok (.newarray .boolean, 2))
    (kk : ∀ H1, va_P D vwCl (PW B (k + 1) (updE E k (zI G.2.1 N))) H1 → H1.size = B + (k + 1) → va_S (ab B) H0 H1 locs → W p l e R s m sargs below meth c H1 locs (cells + 1) (slots + N) Q (F0 m (pc + 2) sl (.ref (B + k) :: rest))) : W p l e R s m sargs below meth c H locs cells slots Q (F0 m pc sl (.int (nI N) :: rest)) := by
  have hfc : s.vm.findClass ("[" ++ (FieldType.boolean).toString) = some G.2.1 := (hK.1.2 1 _ rfl).2
  refine va_newaK (atype := .boolean) hx hb (hts _ (bwW_at 3 rfl)) (g := F0 m pc sl (.int (nI N) :: rest)) rfl hdg rfl (n_neg (by omega)) (n_c (by omega)) (show N * componentBytes .boolean ≤ 536870912 from Nat.le_trans (Nat.mul_le_mul_left N (show componentBytes .boolean ≤ 4 by decide)) (by omega)) hcells hslots hz fun H1 cA' e1 z1 o1 hAr hNm => ?_
  cases hfc.symm.trans hNm
  have hk : ∀ (k' : Nat) (x : Nat × va_E), (PW B k E)[k']? = some x → H1[x.1]? = H[x.1]? := fun k' x hx' => by
    have := (hP k' x hx').lt
    exact o1 x.1 (by rw [← hz]; exact this)
  refine kk H1 ?_ (by rw [z1]; omega) ⟨Nat.le_trans hS.1 (by omega), fun x h1 h2 => (o1 x (by have := hS.1; omega)).trans (hS.2.1 x h1 h2), hS.2.2⟩
  rw [← PW_push]
  refine (hP.kept hk).app (fun k' x hx' => ?_)
  have hz' : k' < 1 := (List.getElem?_eq_some_iff.mp hx').1
  rw [show k' = 0 by omega] at hx'
  cases hx'
  exact e1
end BLD
