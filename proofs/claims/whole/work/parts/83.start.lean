/-! ===== the law's two arrays, and its start ===== -/
section LST
variable {B k i : Nat} {E E' T : Nat → va_E}
variable {p : Program} {l : Launch} {e : Env} {R : Room} {s : State} {m : MethodId} {sargs : Array Value} {below : List Frame} {meth : Method} {c : Code} {Q : State → Prop}
variable {pc cells slots : Nat} {D : va_G} {G : GG} {L : GL} {adK adV adM : Nat → Nat} {H H0 : Heap} {locs : List Loc} {sl : Array Slot} {rest : List Value} {cc : ByteArray} {own : String}
theorem bw_newl (hx : p.tables.exec = Jvm.exec) (hb : c.code = cc) (hts : ∀ w ∈ lw_tbl, w.before sargs s = true) (hE : LwV B D G L adK adV adM s)
    (hP : va_P D vwCl (PW B k E) H) (hz : H.size = B + k) (hS : va_S (ab B) H0 H locs) (hcells : cells + 1 ≤ R.cells) (hslots : slots + 1 ≤ R.slots) (hdg : decode cc pc = .ok (.newarray .long, 2))
    (kk : ∀ H1, va_P D vwCl (PW B (k + 1) (updE E k (.inl (L.1, 1, .inr (.inl (fun _ => 0)))))) H1 → H1.size = B + (k + 1) → va_S (ab B) H0 H1 locs → W p l e R s m sargs below meth c H1 locs (cells + 1) (slots + 1) Q (F0 m (pc + 2) sl (.ref (B + k) :: rest))) : W p l e R s m sargs below meth c H locs cells slots Q (F0 m pc sl (.int 1 :: rest)) := by
  have hfc : s.vm.findClass ("[" ++ (FieldType.long).toString) = some L.1 := (hE.1.2 3 _ rfl).2
  refine va_newaK (atype := .long) (N := 1) hx hb (hts _ (stW_at 9 rfl)) (g := F0 m pc sl (.int 1 :: rest)) rfl hdg rfl (by decide) rfl (by decide) hcells hslots hz fun H1 cA' e1 z1 o1 hAr hNm => ?_
  cases hfc.symm.trans hNm
  have hk : ∀ (k' : Nat) (x : Nat × va_E), (PW B k E)[k']? = some x → H1[x.1]? = H[x.1]? := fun k' x hx' => by
    have := (hP k' x hx').lt
    exact o1 x.1 (by rw [← hz]; exact this)
  refine kk H1 ?_ (by rw [z1]; omega) ⟨Nat.le_trans hS.1 (by omega), fun x h1 h2 => (o1 x (by have := hS.1; omega)).trans (hS.2.1 x h1 h2), hS.2.2⟩
  rw [← PW_push]
  refine (hP.kept hk).app (fun k' x hx' => ?_)
  have hz' : k' < 1 := (List.getElem?_eq_some_iff.mp hx').1
  rw [show k' = 0 by omega] at hx'
  cases hx'
  exact e1
theorem bw_newd (hx : p.tables.exec = Jvm.exec) (hb : c.code = cc) (hts : ∀ w ∈ lw_tbl, w.before sargs s = true) (hE : LwV B D G L adK adV adM s)
    (hP : va_P D vwCl (PW B k E) H) (hz : H.size = B + k) (hS : va_S (ab B) H0 H locs) (hcells : cells + 1 ≤ R.cells) (hslots : slots + 1 ≤ R.slots) (hdg : decode cc pc = .ok (.newarray .double, 2))
    (kk : ∀ H1, va_P D vwCl (PW B (k + 1) (updE E k (.inl (L.2, 1, .inr (.inr (.inr (.inl (fun _ => 0)))))))) H1 → H1.size = B + (k + 1) → va_S (ab B) H0 H1 locs → W p l e R s m sargs below meth c H1 locs (cells + 1) (slots + 1) Q (F0 m (pc + 2) sl (.ref (B + k) :: rest))) : W p l e R s m sargs below meth c H locs cells slots Q (F0 m pc sl (.int 1 :: rest)) := by
  have hfc : s.vm.findClass ("[" ++ (FieldType.double).toString) = some L.2 := (hE.1.2 4 _ rfl).2
  refine va_newaK (atype := .double) (N := 1) hx hb (hts _ (stW_at 10 rfl)) (g := F0 m pc sl (.int 1 :: rest)) rfl hdg rfl (by decide) rfl (by decide) hcells hslots hz fun H1 cA' e1 z1 o1 hAr hNm => ?_
  cases hfc.symm.trans hNm
  have hk : ∀ (k' : Nat) (x : Nat × va_E), (PW B k E)[k']? = some x → H1[x.1]? = H[x.1]? := fun k' x hx' => by
    have := (hP k' x hx').lt
    exact o1 x.1 (by rw [← hz]; exact this)
  refine kk H1 ?_ (by rw [z1]; omega) ⟨Nat.le_trans hS.1 (by omega), fun x h1 h2 => (o1 x (by have := hS.1; omega)).trans (hS.2.1 x h1 h2), hS.2.2⟩
  rw [← PW_push]
  refine (hP.kept hk).app (fun k' x hx' => ?_)
  have hz' : k' < 1 := (List.getElem?_eq_some_iff.mp hx').1
  rw [show k' = 0 by omega] at hx'
  cases hx'
  exact e1
def lstW : List Jvm.Cond := [.classLink RL 8 (clsN 9), .classLink RL 166 (clsN 10), .methodLink RL 165 yX9_init, .methodLink RL 168 yX10_init, .code yX9_init cX9_init 1 none, .code yX10_init cX10_init 1 none, .instanceMethod yX9_init, .instanceMethod yX10_init, .initialized yX9_init.cls, .initialized yX10_init.cls]
theorem lstW_at {w : Jvm.Cond} (i : Nat) (h : lstW[i]? = some w) : w ∈ lwG := by
  have key : (lstW.all (fun w => decide (w ∈ lw_tbl) && goodWord w)) = true := by decide +kernel
  have h := List.all_eq_true.mp key w (List.mem_of_getElem? h)
  simp only [Bool.and_eq_true, decide_eq_true_eq] at h
  exact List.mem_filter.mpr h
theorem lst_dec : decode code 0 = .ok (.new 8, 3) ∧ decode code 3 = .ok (.dup, 1) ∧ decode code 4 = .ok (.invokespecial 165, 3) ∧ decode code 7 = .ok (.astore_n 1, 1) ∧ decode code 8 = .ok (.new 166, 3) ∧ decode code 11 = .ok (.dup, 1) ∧ decode code 12 = .ok (.invokespecial 168, 3) ∧ decode code 15 = .ok (.astore_n 2, 1) ∧ decode code 16 = .ok (.iconst 1, 1) ∧ decode code 17 = .ok (.newarray .long, 2) := by decide +kernel
theorem lst_dec2 : decode code 19 = .ok (.astore_n 3, 1) ∧ decode code 20 = .ok (.iconst 1, 1) ∧ decode code 21 = .ok (.newarray .double, 2) ∧ decode code 23 = .ok (.astore 4, 2) ∧ decode code 25 = .ok (.iconst 0, 1) ∧ decode code 26 = .ok (.istore 5, 2) := by decide +kernel
/-- what the law has made -/
theorem lst_world (hP : va_P D vwCl (PW B 328 (updE (updE (TT0 B G) 326 (.inl (L.1, 1, .inr (.inl (fun _ => 0))))) 327 (.inl (L.2, 1, .inr (.inr (.inr (.inl (fun _ => 0)))))))) H) : LwS B D G L hp0 (fun _ => 0) (fun _ => 0) H := by
  unfold LwS
  rw [← PW_congr (E := updE (updE (TT0 B G) 326 (.inl (L.1, 1, .inr (.inl (fun _ => 0))))) 327 (.inl (L.2, 1, .inr (.inr (.inr (.inl (fun _ => 0)))))))]
  · exact hP
  · intro j hj
    by_cases q : j = 327
    · rw [q, updE_s]; rfl
    · rw [updE_n q]
      by_cases q2 : j = 326
      · rw [q2, updE_s]; rfl
      · rw [updE_n q2, LwE_w (by omega)]
        rfl
end LST
