/-! ===== switches; calls of the library's own; they go ahead of the step ===== -/
section SWI
variable {p : Program} {l : Launch} {e : Env} {R : Room} {s : State} {m : MethodId} {sargs : Array Value} {below : List Frame} {meth : Method} {c : Code} {Q : State → Prop}
variable {B d μ nL pc len a b p0 : Nat} {D : va_G} {G : GG} {adK adV : Nat → Nat} {z : Int32} {cc : ByteArray}
variable {ls ls' : List (Option VL)} {st st' : List VL} {hp hp' : HP} {H : Heap} {locs : List Loc} {sl : Array Slot} {pc' : Nat}
theorem aC_inj {q : Nat} (h : aC q ls st hp = some (.inl ((pc', ls', st'), hp'))) : pc' = q ∧ ls' = ls ∧ st' = st ∧ hp' = hp := by
  cases h
  exact ⟨rfl, rfl, rfl, rfl⟩
theorem okB_0 {x : Int32} (h : isB x = true) : narrow .boolean (.int x) = .int x := by
  rcases isB_or h with rfl | rfl <;> decide
theorem nar_B {x : Int32} (h : isB x = true) : vp_nar .boolean x = x := by
  rcases isB_or h with rfl | rfl <;> decide
theorem lnkL_lt : ∀ x ∈ lnkL, x.2.2 < 5 := by decide +kernel
theorem ofInt_eq {x : Int32} {k : Int} (h1 : -2147483648 ≤ k) (h2 : k ≤ 2147483647) : x = Int32.ofInt k ↔ x.toInt = k := by
  constructor
  · intro h
    rw [h, Int32.toInt_ofInt_of_le (by omega) (by omega)]
  · intro h
    rw [← h, Int32.ofInt_toInt]
theorem swI_ts {α : Type} {x : Int32} {f : Int → α} {d : α} : ∀ (offs : List Int) (lo : Int), -2147483648 ≤ lo → lo + offs.length ≤ 2147483648 →
    swI x f d (tsP lo offs) = if x.toInt < lo ∨ lo + offs.length ≤ x.toInt then d else match offs[(x.toInt - lo).toNat]? with | some o => f o | none => d
  | [], lo, h1, h2 => by
    show d = _
    rw [if_pos (by simp only [List.length_nil]; omega)]
  | o :: l, lo, h1, h2 => by
    have h2' : lo + ((l.length : Int) + 1) ≤ 2147483648 := by simpa using h2
    show (if x = Int32.ofInt lo then f o else swI x f d (tsP (lo + 1) l)) = _
    by_cases hx : x = Int32.ofInt lo
    · rw [if_pos hx]
      have hx2 := (ofInt_eq h1 (by omega)).mp hx
      rw [if_neg (by simp only [List.length_cons]; omega), hx2]
      simp
    · have hx2 : ¬ x.toInt = lo := fun q => hx ((ofInt_eq h1 (by omega)).mpr q)
      rw [if_neg hx, swI_ts l (lo + 1) (by omega) (by omega)]
      by_cases hc : x.toInt < lo ∨ lo + ((o :: l).length : Int) ≤ x.toInt
      · rw [if_pos hc, if_pos (by simp only [List.length_cons] at hc; omega)]
      · rw [if_neg hc, if_neg (by simp only [List.length_cons] at hc; omega)]
        have e1 : (x.toInt - lo).toNat = (x.toInt - (lo + 1)).toNat + 1 := by omega
        rw [e1, List.getElem?_cons_succ]
theorem tsw_sim {x : Int32} {dflt lo hi : Int} {offs : Array Int} (hx : p.tables.exec = Jvm.exec) (hb : c.code = cc) (hd : decode cc pc = .ok (.tableswitch dflt lo hi offs, len)) (hok : okL a nL none pc (.tableswitch dflt lo hi offs) 0 0 z = true)
    (he : swI x (fun o => aC (tg pc o) ls st hp) (aC (tg pc dflt) ls st hp) (tsP lo offs.toList) = some (.inl ((pc', ls', st'), hp'))) (hS : STt B D G adK s sl nL ls st hp H locs)
    (k : KKs p l e R s m sargs below meth c Q B D G adK nL pc' ls' st' hp') : W p l e R s m sargs below meth c H locs 0 0 Q (F0 m pc sl (.int x :: st.map (toV B adK))) := by
  have hok2 : (((hi - lo + 1 = (offs.size : Int) ∧ okOff pc dflt = true) ∧ offs.toList.all (okOff pc) = true) ∧ -2147483648 ≤ lo) ∧ hi ≤ 2147483647 := by
    have h := hok
    unfold okL at h
    simpa only [Bool.and_eq_true, decide_eq_true_eq] using h
  obtain ⟨⟨⟨⟨h1, h2⟩, h3⟩, h4⟩, h5⟩ := hok2
  have hsz : (offs.toList.length : Int) = hi - lo + 1 := by rw [Array.length_toList, h1]
  rw [swI_ts offs.toList lo h4 (by omega)] at he
  by_cases hc : x.toInt < lo ∨ lo + (offs.toList.length : Int) ≤ x.toInt
  · rw [if_pos hc] at he
    obtain ⟨rfl, rfl, rfl, rfl⟩ := aC_inj he
    exact lv_tableOut hx hb hd (by omega) (tg_of h2) (k _ _ _ hS)
  · rw [if_neg hc] at he
    have hlt : (x.toInt - lo).toNat < offs.toList.length := by omega
    rw [List.getElem?_eq_getElem hlt] at he
    obtain ⟨rfl, rfl, rfl, rfl⟩ := aC_inj he
    refine lv_tableIn (off := offs.toList[(x.toInt - lo).toNat]) hx hb hd (by omega) (by omega) ?_ (tg_of (List.all_eq_true.mp h3 _ (List.getElem_mem hlt))) (k _ _ _ hS)
    rw [← Array.getElem?_toList, List.getElem?_eq_getElem hlt]
theorem swI_ls {α : Type} {x : Int32} {f : Int → α} {dflt : Int} : ∀ (ps : List (Int × Int)), (∀ q ∈ ps, -2147483648 ≤ q.1 ∧ q.1 ≤ 2147483647) → swI x f (f dflt) ps = f (Op.lookupswitch.offset ps dflt x.toInt)
  | [], _ => rfl
  | (k, o) :: l, h => by
    have hk := h (k, o) List.mem_cons_self
    have ih := swI_ls (x := x) (f := f) (dflt := dflt) l (fun q hq => h q (List.mem_cons_of_mem _ hq))
    show (if x = Int32.ofInt k then f o else swI x f (f dflt) l) = _
    rw [ih]
    by_cases hx : x = Int32.ofInt k
    · have hx2 := (ofInt_eq hk.1 hk.2).mp hx
      rw [if_pos hx]
      simp [Op.lookupswitch.offset, hx2]
    · have hx2 : ¬ k = x.toInt := fun q => hx ((ofInt_eq hk.1 hk.2).mpr q.symm)
      rw [if_neg hx]
      simp [Op.lookupswitch.offset, hx2]
theorem off_ok {dflt v : Int} : ∀ (ps : List (Int × Int)), (∀ q ∈ ps, okOff pc q.2 = true) → okOff pc dflt = true → okOff pc (Op.lookupswitch.offset ps dflt v) = true
  | [], _, h => h
  | (k, o) :: l, h, h2 => by
    show okOff pc (if k = v then o else Op.lookupswitch.offset l dflt v) = true
    by_cases hk : k = v
    · rw [if_pos hk]
      exact h _ List.mem_cons_self
    · rw [if_neg hk]
      exact off_ok l (fun q hq => h q (List.mem_cons_of_mem _ hq)) h2
theorem lsw_sim {x : Int32} {dflt : Int} {ps : Array (Int × Int)} (hx : p.tables.exec = Jvm.exec) (hb : c.code = cc) (hd : decode cc pc = .ok (.lookupswitch dflt ps, len)) (hok : okL a nL none pc (.lookupswitch dflt ps) 0 0 z = true)
    (he : swI x (fun o => aC (tg pc o) ls st hp) (aC (tg pc dflt) ls st hp) ps.toList = some (.inl ((pc', ls', st'), hp'))) (hS : STt B D G adK s sl nL ls st hp H locs)
    (k : KKs p l e R s m sargs below meth c Q B D G adK nL pc' ls' st' hp') : W p l e R s m sargs below meth c H locs 0 0 Q (F0 m pc sl (.int x :: st.map (toV B adK))) := by
  have hok2 : ((ps.toList.zip (ps.toList.drop 1)).all (fun (x, next) => x.1 < next.1) = true ∧ okOff pc dflt = true) ∧ ps.toList.all (fun x => okOff pc x.2 && decide (-2147483648 ≤ x.1) && decide (x.1 ≤ 2147483647)) = true := by
    have h := hok
    unfold okL at h
    simpa only [Bool.and_eq_true] using h
  obtain ⟨⟨h1, h2⟩, h3⟩ := hok2
  have hall : ∀ q ∈ ps.toList, okOff pc q.2 = true ∧ -2147483648 ≤ q.1 ∧ q.1 ≤ 2147483647 := by
    intro q hq
    have h := List.all_eq_true.mp h3 q hq
    simp only [Bool.and_eq_true, decide_eq_true_eq] at h
    exact ⟨h.1.1, h.1.2, h.2⟩
  rw [swI_ls (f := fun o => aC (tg pc o) ls st hp) ps.toList (fun q hq => (hall q hq).2)] at he
  obtain ⟨rfl, rfl, rfl, rfl⟩ := aC_inj he
  have ho : okOff pc (Op.lookupswitch.offset ps.toList dflt x.toInt) = true := off_ok _ (fun q hq => (hall q hq).1) h2
  exact lv_lookup hx hb hd h1 rfl (tg_of ho) (k _ _ _ hS)
end SWI
