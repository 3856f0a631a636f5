section STEP2
variable {p : Program} {l : Launch} {e : Env} {R : Room} {s : State} {m : MethodId} {sargs : Array Value} {below : List Frame} {meth : Method} {c : Code} {Q : State → Prop}
variable {B d μ nL pc len a b p0 : Nat} {D : va_G} {G : GG} {adK adV : Nat → Nat} {z : Int32}
variable {ls ls' : List (Option VL)} {st st' : List VL} {hp hp' : HP} {H : Heap} {locs : List Loc} {sl : Array Slot} {pc' : Nat}

set_option maxHeartbeats 400000 in
theorem sx_iconst (hCX : CXX p l B D G adK adV μ s m sargs meth c) (hRf : d ≤ R.frames) (hRl : 36 * d ≤ R.locals) {n : Int} (hlk : lkp pc (codeOf μ) = some (p0, .iconst n, len, a, b, z)) (he : exec1 (.iconst n) len a b z d pc ls st hp = some (.inl ((pc', ls', st'), hp')))
    (hS : STt B D G adK s sl (maxOf μ) ls st hp H locs) (k : KKs p l e R s m sargs below meth c Q B D G adK (maxOf μ) pc' ls' st' hp') : W p l e R s m sargs below meth c H locs 0 0 Q (F0 m pc sl (st.map (toV B adK))) := by
  obtain ⟨hx, hb, hml, hown, hts, hr, hlocks, hE, hJ, hμ⟩ := id hCX
  obtain ⟨hd, hlen, hok⟩ := ok_at hμ hlk
  have hK := hE.1
  have hlsz : c.maxLocals = sl.size := by
    obtain ⟨-, -, lv, h1, -, -⟩ := hS.2.2.1
    rw [hml, h1.1]
  have hln : len = 1 := by simpa [isSw, lenI] using hlen
  subst hln
  obtain ⟨rfl, rfl, rfl, rfl⟩ := aC_inj (show aC (pc + 1) ls (vI z :: st) hp = _ from he)
  exact lv_iconst hx hb hd (of_decide_eq_true hok) (k _ _ _ (st_push hS trivial))
set_option maxHeartbeats 400000 in
theorem sx_bipush (hCX : CXX p l B D G adK adV μ s m sargs meth c) (hRf : d ≤ R.frames) (hRl : 36 * d ≤ R.locals) {n : Int} (hlk : lkp pc (codeOf μ) = some (p0, .bipush n, len, a, b, z)) (he : exec1 (.bipush n) len a b z d pc ls st hp = some (.inl ((pc', ls', st'), hp')))
    (hS : STt B D G adK s sl (maxOf μ) ls st hp H locs) (k : KKs p l e R s m sargs below meth c Q B D G adK (maxOf μ) pc' ls' st' hp') : W p l e R s m sargs below meth c H locs 0 0 Q (F0 m pc sl (st.map (toV B adK))) := by
  obtain ⟨hx, hb, hml, hown, hts, hr, hlocks, hE, hJ, hμ⟩ := id hCX
  obtain ⟨hd, hlen, hok⟩ := ok_at hμ hlk
  have hK := hE.1
  have hlsz : c.maxLocals = sl.size := by
    obtain ⟨-, -, lv, h1, -, -⟩ := hS.2.2.1
    rw [hml, h1.1]
  have hln : len = 2 := by simpa [isSw, lenI] using hlen
  subst hln
  obtain ⟨rfl, rfl, rfl, rfl⟩ := aC_inj (show aC (pc + 2) ls (vI z :: st) hp = _ from he)
  exact lv_bipush hx hb hd (of_decide_eq_true hok) (k _ _ _ (st_push hS trivial))
set_option maxHeartbeats 400000 in
theorem sx_sipush (hCX : CXX p l B D G adK adV μ s m sargs meth c) (hRf : d ≤ R.frames) (hRl : 36 * d ≤ R.locals) {n : Int} (hlk : lkp pc (codeOf μ) = some (p0, .sipush n, len, a, b, z)) (he : exec1 (.sipush n) len a b z d pc ls st hp = some (.inl ((pc', ls', st'), hp')))
    (hS : STt B D G adK s sl (maxOf μ) ls st hp H locs) (k : KKs p l e R s m sargs below meth c Q B D G adK (maxOf μ) pc' ls' st' hp') : W p l e R s m sargs below meth c H locs 0 0 Q (F0 m pc sl (st.map (toV B adK))) := by
  obtain ⟨hx, hb, hml, hown, hts, hr, hlocks, hE, hJ, hμ⟩ := id hCX
  obtain ⟨hd, hlen, hok⟩ := ok_at hμ hlk
  have hK := hE.1
  have hlsz : c.maxLocals = sl.size := by
    obtain ⟨-, -, lv, h1, -, -⟩ := hS.2.2.1
    rw [hml, h1.1]
  have hln : len = 3 := by simpa [isSw, lenI] using hlen
  subst hln
  obtain ⟨rfl, rfl, rfl, rfl⟩ := aC_inj (show aC (pc + 3) ls (vI z :: st) hp = _ from he)
  exact lv_sipush hx hb hd (of_decide_eq_true hok) (k _ _ _ (st_push hS trivial))
set_option maxHeartbeats 400000 in
theorem sx_iload (hCX : CXX p l B D G adK adV μ s m sargs meth c) (hRf : d ≤ R.frames) (hRl : 36 * d ≤ R.locals) {kk : Nat} (hlk : lkp pc (codeOf μ) = some (p0, .iload kk, len, a, b, z)) (he : exec1 (.iload kk) len a b z d pc ls st hp = some (.inl ((pc', ls', st'), hp')))
    (hS : STt B D G adK s sl (maxOf μ) ls st hp H locs) (k : KKs p l e R s m sargs below meth c Q B D G adK (maxOf μ) pc' ls' st' hp') : W p l e R s m sargs below meth c H locs 0 0 Q (F0 m pc sl (st.map (toV B adK))) := by
  obtain ⟨hx, hb, hml, hown, hts, hr, hlocks, hE, hJ, hμ⟩ := id hCX
  obtain ⟨hd, hlen, hok⟩ := ok_at hμ hlk
  have hK := hE.1
  have hlsz : c.maxLocals = sl.size := by
    obtain ⟨-, -, lv, h1, -, -⟩ := hS.2.2.1
    rw [hml, h1.1]
  have hln : len = 2 := by simpa [isSw, lenI] using hlen
  subst hln
  have he : (match ls[kk]? with | some (some (.inl x)) => aC (pc + 2) ls (vI x :: st) hp | _ => none) = some (.inl ((pc', ls', st'), hp')) := he
  split at he
  · rename_i x hg
    obtain ⟨rfl, rfl, rfl, rfl⟩ := aC_inj he
    exact lv_iload hx hb hd (hS.2.2.1.get hg) (k _ _ _ (st_push hS trivial))
  · cases he
set_option maxHeartbeats 400000 in
theorem sx_iload_n (hCX : CXX p l B D G adK adV μ s m sargs meth c) (hRf : d ≤ R.frames) (hRl : 36 * d ≤ R.locals) {kk : Fin 4} (hlk : lkp pc (codeOf μ) = some (p0, .iload_n kk, len, a, b, z)) (he : exec1 (.iload_n kk) len a b z d pc ls st hp = some (.inl ((pc', ls', st'), hp')))
    (hS : STt B D G adK s sl (maxOf μ) ls st hp H locs) (k : KKs p l e R s m sargs below meth c Q B D G adK (maxOf μ) pc' ls' st' hp') : W p l e R s m sargs below meth c H locs 0 0 Q (F0 m pc sl (st.map (toV B adK))) := by
  obtain ⟨hx, hb, hml, hown, hts, hr, hlocks, hE, hJ, hμ⟩ := id hCX
  obtain ⟨hd, hlen, hok⟩ := ok_at hμ hlk
  have hK := hE.1
  have hlsz : c.maxLocals = sl.size := by
    obtain ⟨-, -, lv, h1, -, -⟩ := hS.2.2.1
    rw [hml, h1.1]
  have hln : len = 1 := by simpa [isSw, lenI] using hlen
  subst hln
  have he : (match ls[kk.val]? with | some (some (.inl x)) => aC (pc + 1) ls (vI x :: st) hp | _ => none) = some (.inl ((pc', ls', st'), hp')) := he
  split at he
  · rename_i x hg
    obtain ⟨rfl, rfl, rfl, rfl⟩ := aC_inj he
    exact lv_iload_n hx hb hd rfl (hS.2.2.1.get hg) (k _ _ _ (st_push hS trivial))
  · cases he
set_option maxHeartbeats 400000 in
theorem sx_aload (hCX : CXX p l B D G adK adV μ s m sargs meth c) (hRf : d ≤ R.frames) (hRl : 36 * d ≤ R.locals) {kk : Nat} (hlk : lkp pc (codeOf μ) = some (p0, .aload kk, len, a, b, z)) (he : exec1 (.aload kk) len a b z d pc ls st hp = some (.inl ((pc', ls', st'), hp')))
    (hS : STt B D G adK s sl (maxOf μ) ls st hp H locs) (k : KKs p l e R s m sargs below meth c Q B D G adK (maxOf μ) pc' ls' st' hp') : W p l e R s m sargs below meth c H locs 0 0 Q (F0 m pc sl (st.map (toV B adK))) := by
  obtain ⟨hx, hb, hml, hown, hts, hr, hlocks, hE, hJ, hμ⟩ := id hCX
  obtain ⟨hd, hlen, hok⟩ := ok_at hμ hlk
  have hK := hE.1
  have hlsz : c.maxLocals = sl.size := by
    obtain ⟨-, -, lv, h1, -, -⟩ := hS.2.2.1
    rw [hml, h1.1]
  have hln : len = 2 := by simpa [isSw, lenI] using hlen
  subst hln
  have he : (match ls[kk]? with | some (some (.inr (.inl r))) => aC (pc + 2) ls (vR r :: st) hp | _ => none) = some (.inl ((pc', ls', st'), hp')) := he
  split at he
  · rename_i r hg
    obtain ⟨rfl, rfl, rfl, rfl⟩ := aC_inj he
    exact lv_aload hx hb hd (hS.2.2.1.get hg) (k _ _ _ (st_push hS (hS.2.2.1.ok hg : okI (vR r))))
  · cases he
set_option maxHeartbeats 400000 in
theorem sx_aload_n (hCX : CXX p l B D G adK adV μ s m sargs meth c) (hRf : d ≤ R.frames) (hRl : 36 * d ≤ R.locals) {kk : Fin 4} (hlk : lkp pc (codeOf μ) = some (p0, .aload_n kk, len, a, b, z)) (he : exec1 (.aload_n kk) len a b z d pc ls st hp = some (.inl ((pc', ls', st'), hp')))
    (hS : STt B D G adK s sl (maxOf μ) ls st hp H locs) (k : KKs p l e R s m sargs below meth c Q B D G adK (maxOf μ) pc' ls' st' hp') : W p l e R s m sargs below meth c H locs 0 0 Q (F0 m pc sl (st.map (toV B adK))) := by
  obtain ⟨hx, hb, hml, hown, hts, hr, hlocks, hE, hJ, hμ⟩ := id hCX
  obtain ⟨hd, hlen, hok⟩ := ok_at hμ hlk
  have hK := hE.1
  have hlsz : c.maxLocals = sl.size := by
    obtain ⟨-, -, lv, h1, -, -⟩ := hS.2.2.1
    rw [hml, h1.1]
  have hln : len = 1 := by simpa [isSw, lenI] using hlen
  subst hln
  have he : (match ls[kk.val]? with | some (some (.inr (.inl r))) => aC (pc + 1) ls (vR r :: st) hp | _ => none) = some (.inl ((pc', ls', st'), hp')) := he
  split at he
  · rename_i r hg
    obtain ⟨rfl, rfl, rfl, rfl⟩ := aC_inj he
    exact lv_aload_n hx hb hd rfl (hS.2.2.1.get hg) (k _ _ _ (st_push hS (hS.2.2.1.ok hg : okI (vR r))))
  · cases he
set_option maxHeartbeats 400000 in
theorem sx_istore (hCX : CXX p l B D G adK adV μ s m sargs meth c) (hRf : d ≤ R.frames) (hRl : 36 * d ≤ R.locals) {kk : Nat} (hlk : lkp pc (codeOf μ) = some (p0, .istore kk, len, a, b, z)) (he : exec1 (.istore kk) len a b z d pc ls st hp = some (.inl ((pc', ls', st'), hp')))
    (hS : STt B D G adK s sl (maxOf μ) ls st hp H locs) (k : KKs p l e R s m sargs below meth c Q B D G adK (maxOf μ) pc' ls' st' hp') : W p l e R s m sargs below meth c H locs 0 0 Q (F0 m pc sl (st.map (toV B adK))) := by
  obtain ⟨hx, hb, hml, hown, hts, hr, hlocks, hE, hJ, hμ⟩ := id hCX
  obtain ⟨hd, hlen, hok⟩ := ok_at hμ hlk
  have hK := hE.1
  have hlsz : c.maxLocals = sl.size := by
    obtain ⟨-, -, lv, h1, -, -⟩ := hS.2.2.1
    rw [hml, h1.1]
  have hln : len = 2 := by simpa [isSw, lenI] using hlen
  subst hln
  rcases st with _ | ⟨v | v, st⟩
  all_goals try cases (show (none : Option ACT) = some (.inl ((pc', ls', st'), hp')) from he)
  obtain ⟨rfl, rfl, rfl, rfl⟩ := aC_inj (show aC (pc + 2) (ls.set kk (some (vI v))) st hp = _ from he)
  obtain ⟨g1, g2, lv, g3, g4, g5⟩ := hS.2.2.1
  exact lv_istore hx hb hd g3 (of_decide_eq_true hok) rfl (fun ls2 hl2 => k _ _ _ ⟨hS.1, hS.2.1, LH.put g1 g2 g4 g5 trivial hl2, (st_pop hS).2.2.2⟩)
set_option maxHeartbeats 400000 in
theorem sx_istore_n (hCX : CXX p l B D G adK adV μ s m sargs meth c) (hRf : d ≤ R.frames) (hRl : 36 * d ≤ R.locals) {kk : Fin 4} (hlk : lkp pc (codeOf μ) = some (p0, .istore_n kk, len, a, b, z)) (he : exec1 (.istore_n kk) len a b z d pc ls st hp = some (.inl ((pc', ls', st'), hp')))
    (hS : STt B D G adK s sl (maxOf μ) ls st hp H locs) (k : KKs p l e R s m sargs below meth c Q B D G adK (maxOf μ) pc' ls' st' hp') : W p l e R s m sargs below meth c H locs 0 0 Q (F0 m pc sl (st.map (toV B adK))) := by
  obtain ⟨hx, hb, hml, hown, hts, hr, hlocks, hE, hJ, hμ⟩ := id hCX
  obtain ⟨hd, hlen, hok⟩ := ok_at hμ hlk
  have hK := hE.1
  have hlsz : c.maxLocals = sl.size := by
    obtain ⟨-, -, lv, h1, -, -⟩ := hS.2.2.1
    rw [hml, h1.1]
  have hln : len = 1 := by simpa [isSw, lenI] using hlen
  subst hln
  rcases st with _ | ⟨v | v, st⟩
  all_goals try cases (show (none : Option ACT) = some (.inl ((pc', ls', st'), hp')) from he)
  obtain ⟨rfl, rfl, rfl, rfl⟩ := aC_inj (show aC (pc + 1) (ls.set kk.val (some (vI v))) st hp = _ from he)
  obtain ⟨g1, g2, lv, g3, g4, g5⟩ := hS.2.2.1
  exact lv_istore_n hx hb hd rfl g3 (of_decide_eq_true hok) rfl (fun ls2 hl2 => k _ _ _ ⟨hS.1, hS.2.1, LH.put g1 g2 g4 g5 trivial hl2, (st_pop hS).2.2.2⟩)
set_option maxHeartbeats 400000 in
theorem sx_astore (hCX : CXX p l B D G adK adV μ s m sargs meth c) (hRf : d ≤ R.frames) (hRl : 36 * d ≤ R.locals) {kk : Nat} (hlk : lkp pc (codeOf μ) = some (p0, .astore kk, len, a, b, z)) (he : exec1 (.astore kk) len a b z d pc ls st hp = some (.inl ((pc', ls', st'), hp')))
    (hS : STt B D G adK s sl (maxOf μ) ls st hp H locs) (k : KKs p l e R s m sargs below meth c Q B D G adK (maxOf μ) pc' ls' st' hp') : W p l e R s m sargs below meth c H locs 0 0 Q (F0 m pc sl (st.map (toV B adK))) := by
  obtain ⟨hx, hb, hml, hown, hts, hr, hlocks, hE, hJ, hμ⟩ := id hCX
  obtain ⟨hd, hlen, hok⟩ := ok_at hμ hlk
  have hK := hE.1
  have hlsz : c.maxLocals = sl.size := by
    obtain ⟨-, -, lv, h1, -, -⟩ := hS.2.2.1
    rw [hml, h1.1]
  have hln : len = 2 := by simpa [isSw, lenI] using hlen
  subst hln
  rcases st with _ | ⟨v | v | v, st⟩
  all_goals try cases (show (none : Option ACT) = some (.inl ((pc', ls', st'), hp')) from he)
  obtain ⟨rfl, rfl, rfl, rfl⟩ := aC_inj (show aC (pc + 2) (ls.set kk (some (vR v))) st hp = _ from he)
  obtain ⟨g1, g2, lv, g3, g4, g5⟩ := hS.2.2.1
  exact lv_astore hx hb hd g3 (of_decide_eq_true hok) rfl (fun ls2 hl2 => k _ _ _ ⟨hS.1, hS.2.1, LH.put g1 g2 g4 g5 (hS.2.2.2 _ List.mem_cons_self) hl2, (st_pop hS).2.2.2⟩)
set_option maxHeartbeats 400000 in
theorem sx_astore_n (hCX : CXX p l B D G adK adV μ s m sargs meth c) (hRf : d ≤ R.frames) (hRl : 36 * d ≤ R.locals) {kk : Fin 4} (hlk : lkp pc (codeOf μ) = some (p0, .astore_n kk, len, a, b, z)) (he : exec1 (.astore_n kk) len a b z d pc ls st hp = some (.inl ((pc', ls', st'), hp')))
    (hS : STt B D G adK s sl (maxOf μ) ls st hp H locs) (k : KKs p l e R s m sargs below meth c Q B D G adK (maxOf μ) pc' ls' st' hp') : W p l e R s m sargs below meth c H locs 0 0 Q (F0 m pc sl (st.map (toV B adK))) := by
  obtain ⟨hx, hb, hml, hown, hts, hr, hlocks, hE, hJ, hμ⟩ := id hCX
  obtain ⟨hd, hlen, hok⟩ := ok_at hμ hlk
  have hK := hE.1
  have hlsz : c.maxLocals = sl.size := by
    obtain ⟨-, -, lv, h1, -, -⟩ := hS.2.2.1
    rw [hml, h1.1]
  have hln : len = 1 := by simpa [isSw, lenI] using hlen
  subst hln
  rcases st with _ | ⟨v | v | v, st⟩
  all_goals try cases (show (none : Option ACT) = some (.inl ((pc', ls', st'), hp')) from he)
  obtain ⟨rfl, rfl, rfl, rfl⟩ := aC_inj (show aC (pc + 1) (ls.set kk.val (some (vR v))) st hp = _ from he)
  obtain ⟨g1, g2, lv, g3, g4, g5⟩ := hS.2.2.1
  exact lv_astore_n hx hb hd rfl g3 (of_decide_eq_true hok) rfl (fun ls2 hl2 => k _ _ _ ⟨hS.1, hS.2.1, LH.put g1 g2 g4 g5 (hS.2.2.2 _ List.mem_cons_self) hl2, (st_pop hS).2.2.2⟩)
set_option maxHeartbeats 400000 in
theorem sx_iinc (hCX : CXX p l B D G adK adV μ s m sargs meth c) (hRf : d ≤ R.frames) (hRl : 36 * d ≤ R.locals) {kk : Nat} {n : Int} (hlk : lkp pc (codeOf μ) = some (p0, .iinc kk n, len, a, b, z)) (he : exec1 (.iinc kk n) len a b z d pc ls st hp = some (.inl ((pc', ls', st'), hp')))
    (hS : STt B D G adK s sl (maxOf μ) ls st hp H locs) (k : KKs p l e R s m sargs below meth c Q B D G adK (maxOf μ) pc' ls' st' hp') : W p l e R s m sargs below meth c H locs 0 0 Q (F0 m pc sl (st.map (toV B adK))) := by
  obtain ⟨hx, hb, hml, hown, hts, hr, hlocks, hE, hJ, hμ⟩ := id hCX
  obtain ⟨hd, hlen, hok⟩ := ok_at hμ hlk
  have hK := hE.1
  have hlsz : c.maxLocals = sl.size := by
    obtain ⟨-, -, lv, h1, -, -⟩ := hS.2.2.1
    rw [hml, h1.1]
  have hln : len = 3 := by simpa [isSw, lenI] using hlen
  subst hln
  have he : (match ls[kk]? with | some (some (.inl x)) => aC (pc + 3) (ls.set kk (some (vI (x + z)))) st hp | _ => none) = some (.inl ((pc', ls', st'), hp')) := he
  split at he
  · rename_i x hg
    obtain ⟨rfl, rfl, rfl, rfl⟩ := aC_inj he
    obtain ⟨g1, g2, lv, g3, g4, g5⟩ := hS.2.2.1
    obtain ⟨q, hq⟩ := List.getElem?_of_mem (g5 _ _ hg)
    have hok2 : decide (kk < maxOf μ) = true ∧ decide (Int32.ofInt n = z) = true := by
      have h := hok
      unfold okL at h
      simpa only [Bool.and_eq_true] using h
    exact lv_iinc hx hb hd g3 hq (by rw [of_decide_eq_true hok2.2]) (of_decide_eq_true hok2.1) rfl (fun ls2 hl2 => k _ _ _ ⟨hS.1, hS.2.1, LH.put g1 g2 g4 g5 trivial hl2, hS.2.2.2⟩)
  · cases he
set_option maxHeartbeats 400000 in
theorem sx_iadd (hCX : CXX p l B D G adK adV μ s m sargs meth c) (hRf : d ≤ R.frames) (hRl : 36 * d ≤ R.locals) (hlk : lkp pc (codeOf μ) = some (p0, .iadd, len, a, b, z)) (he : exec1 (.iadd) len a b z d pc ls st hp = some (.inl ((pc', ls', st'), hp')))
    (hS : STt B D G adK s sl (maxOf μ) ls st hp H locs) (k : KKs p l e R s m sargs below meth c Q B D G adK (maxOf μ) pc' ls' st' hp') : W p l e R s m sargs below meth c H locs 0 0 Q (F0 m pc sl (st.map (toV B adK))) := by
  obtain ⟨hx, hb, hml, hown, hts, hr, hlocks, hE, hJ, hμ⟩ := id hCX
  obtain ⟨hd, hlen, hok⟩ := ok_at hμ hlk
  have hK := hE.1
  have hlsz : c.maxLocals = sl.size := by
    obtain ⟨-, -, lv, h1, -, -⟩ := hS.2.2.1
    rw [hml, h1.1]
  have hln : len = 1 := by simpa [isSw, lenI] using hlen
  subst hln
  rcases st with _ | ⟨y | _, _ | ⟨x | _, st⟩⟩
  all_goals try cases (show (none : Option ACT) = some (.inl ((pc', ls', st'), hp')) from he)
  obtain ⟨rfl, rfl, rfl, rfl⟩ := aC_inj (show aC (pc + 1) ls (vI (x + y) :: st) hp = _ from he)
  exact lv_iadd hx hb hd (k _ _ _ (st_push (st_pop (st_pop hS)) trivial))
set_option maxHeartbeats 400000 in
theorem sx_isub (hCX : CXX p l B D G adK adV μ s m sargs meth c) (hRf : d ≤ R.frames) (hRl : 36 * d ≤ R.locals) (hlk : lkp pc (codeOf μ) = some (p0, .isub, len, a, b, z)) (he : exec1 (.isub) len a b z d pc ls st hp = some (.inl ((pc', ls', st'), hp')))
    (hS : STt B D G adK s sl (maxOf μ) ls st hp H locs) (k : KKs p l e R s m sargs below meth c Q B D G adK (maxOf μ) pc' ls' st' hp') : W p l e R s m sargs below meth c H locs 0 0 Q (F0 m pc sl (st.map (toV B adK))) := by
  obtain ⟨hx, hb, hml, hown, hts, hr, hlocks, hE, hJ, hμ⟩ := id hCX
  obtain ⟨hd, hlen, hok⟩ := ok_at hμ hlk
  have hK := hE.1
  have hlsz : c.maxLocals = sl.size := by
    obtain ⟨-, -, lv, h1, -, -⟩ := hS.2.2.1
    rw [hml, h1.1]
  have hln : len = 1 := by simpa [isSw, lenI] using hlen
  subst hln
  rcases st with _ | ⟨y | _, _ | ⟨x | _, st⟩⟩
  all_goals try cases (show (none : Option ACT) = some (.inl ((pc', ls', st'), hp')) from he)
  obtain ⟨rfl, rfl, rfl, rfl⟩ := aC_inj (show aC (pc + 1) ls (vI (x - y) :: st) hp = _ from he)
  exact lv_isub hx hb hd (k _ _ _ (st_push (st_pop (st_pop hS)) trivial))
set_option maxHeartbeats 400000 in
theorem sx_imul (hCX : CXX p l B D G adK adV μ s m sargs meth c) (hRf : d ≤ R.frames) (hRl : 36 * d ≤ R.locals) (hlk : lkp pc (codeOf μ) = some (p0, .imul, len, a, b, z)) (he : exec1 (.imul) len a b z d pc ls st hp = some (.inl ((pc', ls', st'), hp')))
    (hS : STt B D G adK s sl (maxOf μ) ls st hp H locs) (k : KKs p l e R s m sargs below meth c Q B D G adK (maxOf μ) pc' ls' st' hp') : W p l e R s m sargs below meth c H locs 0 0 Q (F0 m pc sl (st.map (toV B adK))) := by
  obtain ⟨hx, hb, hml, hown, hts, hr, hlocks, hE, hJ, hμ⟩ := id hCX
  obtain ⟨hd, hlen, hok⟩ := ok_at hμ hlk
  have hK := hE.1
  have hlsz : c.maxLocals = sl.size := by
    obtain ⟨-, -, lv, h1, -, -⟩ := hS.2.2.1
    rw [hml, h1.1]
  have hln : len = 1 := by simpa [isSw, lenI] using hlen
  subst hln
  rcases st with _ | ⟨y | _, _ | ⟨x | _, st⟩⟩
  all_goals try cases (show (none : Option ACT) = some (.inl ((pc', ls', st'), hp')) from he)
  obtain ⟨rfl, rfl, rfl, rfl⟩ := aC_inj (show aC (pc + 1) ls (vI (x * y) :: st) hp = _ from he)
  exact lv_imul hx hb hd (k _ _ _ (st_push (st_pop (st_pop hS)) trivial))
set_option maxHeartbeats 400000 in
theorem sx_iand (hCX : CXX p l B D G adK adV μ s m sargs meth c) (hRf : d ≤ R.frames) (hRl : 36 * d ≤ R.locals) (hlk : lkp pc (codeOf μ) = some (p0, .iand, len, a, b, z)) (he : exec1 (.iand) len a b z d pc ls st hp = some (.inl ((pc', ls', st'), hp')))
    (hS : STt B D G adK s sl (maxOf μ) ls st hp H locs) (k : KKs p l e R s m sargs below meth c Q B D G adK (maxOf μ) pc' ls' st' hp') : W p l e R s m sargs below meth c H locs 0 0 Q (F0 m pc sl (st.map (toV B adK))) := by
  obtain ⟨hx, hb, hml, hown, hts, hr, hlocks, hE, hJ, hμ⟩ := id hCX
  obtain ⟨hd, hlen, hok⟩ := ok_at hμ hlk
  have hK := hE.1
  have hlsz : c.maxLocals = sl.size := by
    obtain ⟨-, -, lv, h1, -, -⟩ := hS.2.2.1
    rw [hml, h1.1]
  have hln : len = 1 := by simpa [isSw, lenI] using hlen
  subst hln
  rcases st with _ | ⟨y | _, _ | ⟨x | _, st⟩⟩
  all_goals try cases (show (none : Option ACT) = some (.inl ((pc', ls', st'), hp')) from he)
  obtain ⟨rfl, rfl, rfl, rfl⟩ := aC_inj (show aC (pc + 1) ls (vI (x &&& y) :: st) hp = _ from he)
  exact lv_iand hx hb hd (k _ _ _ (st_push (st_pop (st_pop hS)) trivial))
set_option maxHeartbeats 400000 in
theorem sx_ishr (hCX : CXX p l B D G adK adV μ s m sargs meth c) (hRf : d ≤ R.frames) (hRl : 36 * d ≤ R.locals) (hlk : lkp pc (codeOf μ) = some (p0, .ishr, len, a, b, z)) (he : exec1 (.ishr) len a b z d pc ls st hp = some (.inl ((pc', ls', st'), hp')))
    (hS : STt B D G adK s sl (maxOf μ) ls st hp H locs) (k : KKs p l e R s m sargs below meth c Q B D G adK (maxOf μ) pc' ls' st' hp') : W p l e R s m sargs below meth c H locs 0 0 Q (F0 m pc sl (st.map (toV B adK))) := by
  obtain ⟨hx, hb, hml, hown, hts, hr, hlocks, hE, hJ, hμ⟩ := id hCX
  obtain ⟨hd, hlen, hok⟩ := ok_at hμ hlk
  have hK := hE.1
  have hlsz : c.maxLocals = sl.size := by
    obtain ⟨-, -, lv, h1, -, -⟩ := hS.2.2.1
    rw [hml, h1.1]
  have hln : len = 1 := by simpa [isSw, lenI] using hlen
  subst hln
  rcases st with _ | ⟨y | _, _ | ⟨x | _, st⟩⟩
  all_goals try cases (show (none : Option ACT) = some (.inl ((pc', ls', st'), hp')) from he)
  obtain ⟨rfl, rfl, rfl, rfl⟩ := aC_inj (show aC (pc + 1) ls (vI (x >>> (y &&& 31)) :: st) hp = _ from he)
  exact lv_ishr hx hb hd (k _ _ _ (st_push (st_pop (st_pop hS)) trivial))
set_option maxHeartbeats 400000 in
theorem sx_idiv (hCX : CXX p l B D G adK adV μ s m sargs meth c) (hRf : d ≤ R.frames) (hRl : 36 * d ≤ R.locals) (hlk : lkp pc (codeOf μ) = some (p0, .idiv, len, a, b, z)) (he : exec1 (.idiv) len a b z d pc ls st hp = some (.inl ((pc', ls', st'), hp')))
    (hS : STt B D G adK s sl (maxOf μ) ls st hp H locs) (k : KKs p l e R s m sargs below meth c Q B D G adK (maxOf μ) pc' ls' st' hp') : W p l e R s m sargs below meth c H locs 0 0 Q (F0 m pc sl (st.map (toV B adK))) := by
  obtain ⟨hx, hb, hml, hown, hts, hr, hlocks, hE, hJ, hμ⟩ := id hCX
  obtain ⟨hd, hlen, hok⟩ := ok_at hμ hlk
  have hK := hE.1
  have hlsz : c.maxLocals = sl.size := by
    obtain ⟨-, -, lv, h1, -, -⟩ := hS.2.2.1
    rw [hml, h1.1]
  have hln : len = 1 := by simpa [isSw, lenI] using hlen
  subst hln
  rcases st with _ | ⟨y | _, _ | ⟨x | _, st⟩⟩
  all_goals try cases (show (none : Option ACT) = some (.inl ((pc', ls', st'), hp')) from he)
  have he : (if y = 0 then none else aC (pc + 1) ls (vI (idv x y) :: st) hp) = some (.inl ((pc', ls', st'), hp')) := he
  by_cases h0 : y = 0
  · rw [if_pos h0] at he
    cases he
  · rw [if_neg h0] at he
    obtain ⟨rfl, rfl, rfl, rfl⟩ := aC_inj he
    exact lv_idiv hx hb hd h0 (k _ _ _ (st_push (st_pop (st_pop hS)) trivial))
set_option maxHeartbeats 400000 in
theorem sx_irem (hCX : CXX p l B D G adK adV μ s m sargs meth c) (hRf : d ≤ R.frames) (hRl : 36 * d ≤ R.locals) (hlk : lkp pc (codeOf μ) = some (p0, .irem, len, a, b, z)) (he : exec1 (.irem) len a b z d pc ls st hp = some (.inl ((pc', ls', st'), hp')))
    (hS : STt B D G adK s sl (maxOf μ) ls st hp H locs) (k : KKs p l e R s m sargs below meth c Q B D G adK (maxOf μ) pc' ls' st' hp') : W p l e R s m sargs below meth c H locs 0 0 Q (F0 m pc sl (st.map (toV B adK))) := by
  obtain ⟨hx, hb, hml, hown, hts, hr, hlocks, hE, hJ, hμ⟩ := id hCX
  obtain ⟨hd, hlen, hok⟩ := ok_at hμ hlk
  have hK := hE.1
  have hlsz : c.maxLocals = sl.size := by
    obtain ⟨-, -, lv, h1, -, -⟩ := hS.2.2.1
    rw [hml, h1.1]
  have hln : len = 1 := by simpa [isSw, lenI] using hlen
  subst hln
  rcases st with _ | ⟨y | _, _ | ⟨x | _, st⟩⟩
  all_goals try cases (show (none : Option ACT) = some (.inl ((pc', ls', st'), hp')) from he)
  have he : (if y = 0 then none else aC (pc + 1) ls (vI (irm x y) :: st) hp) = some (.inl ((pc', ls', st'), hp')) := he
  by_cases h0 : y = 0
  · rw [if_pos h0] at he
    cases he
  · rw [if_neg h0] at he
    obtain ⟨rfl, rfl, rfl, rfl⟩ := aC_inj he
    exact lv_irem hx hb hd h0 (k _ _ _ (st_push (st_pop (st_pop hS)) trivial))
set_option maxHeartbeats 400000 in
theorem sx_dup (hCX : CXX p l B D G adK adV μ s m sargs meth c) (hRf : d ≤ R.frames) (hRl : 36 * d ≤ R.locals) (hlk : lkp pc (codeOf μ) = some (p0, .dup, len, a, b, z)) (he : exec1 (.dup) len a b z d pc ls st hp = some (.inl ((pc', ls', st'), hp')))
    (hS : STt B D G adK s sl (maxOf μ) ls st hp H locs) (k : KKs p l e R s m sargs below meth c Q B D G adK (maxOf μ) pc' ls' st' hp') : W p l e R s m sargs below meth c H locs 0 0 Q (F0 m pc sl (st.map (toV B adK))) := by
  obtain ⟨hx, hb, hml, hown, hts, hr, hlocks, hE, hJ, hμ⟩ := id hCX
  obtain ⟨hd, hlen, hok⟩ := ok_at hμ hlk
  have hK := hE.1
  have hlsz : c.maxLocals = sl.size := by
    obtain ⟨-, -, lv, h1, -, -⟩ := hS.2.2.1
    rw [hml, h1.1]
  have hln : len = 1 := by simpa [isSw, lenI] using hlen
  subst hln
  rcases st with _ | ⟨x | r | _, st⟩
  all_goals try cases (show (none : Option ACT) = some (.inl ((pc', ls', st'), hp')) from he)
  · obtain ⟨rfl, rfl, rfl, rfl⟩ := aC_inj (show aC (pc + 1) ls (vI x :: vI x :: st) hp = _ from he)
    exact lv_dup hx hb hd rfl (k _ _ _ (st_push hS trivial))
  · obtain ⟨rfl, rfl, rfl, rfl⟩ := aC_inj (show aC (pc + 1) ls (vR r :: vR r :: st) hp = _ from he)
    exact lv_dup hx hb hd rfl (k _ _ _ (st_push hS (hS.2.2.2 _ List.mem_cons_self)))
set_option maxHeartbeats 400000 in
theorem sx_dup2 (hCX : CXX p l B D G adK adV μ s m sargs meth c) (hRf : d ≤ R.frames) (hRl : 36 * d ≤ R.locals) (hlk : lkp pc (codeOf μ) = some (p0, .dup2, len, a, b, z)) (he : exec1 (.dup2) len a b z d pc ls st hp = some (.inl ((pc', ls', st'), hp')))
    (hS : STt B D G adK s sl (maxOf μ) ls st hp H locs) (k : KKs p l e R s m sargs below meth c Q B D G adK (maxOf μ) pc' ls' st' hp') : W p l e R s m sargs below meth c H locs 0 0 Q (F0 m pc sl (st.map (toV B adK))) := by
  obtain ⟨hx, hb, hml, hown, hts, hr, hlocks, hE, hJ, hμ⟩ := id hCX
  obtain ⟨hd, hlen, hok⟩ := ok_at hμ hlk
  have hK := hE.1
  have hlsz : c.maxLocals = sl.size := by
    obtain ⟨-, -, lv, h1, -, -⟩ := hS.2.2.1
    rw [hml, h1.1]
  have hln : len = 1 := by simpa [isSw, lenI] using hlen
  subst hln
  rcases st with _ | ⟨x | _, _ | ⟨_ | r | _, st⟩⟩
  all_goals try cases (show (none : Option ACT) = some (.inl ((pc', ls', st'), hp')) from he)
  obtain ⟨rfl, rfl, rfl, rfl⟩ := aC_inj (show aC (pc + 1) ls (vI x :: vR r :: vI x :: vR r :: st) hp = _ from he)
  exact lv_dup2_11 hx hb hd rfl rfl (k _ _ _ (st_push (st_push hS (hS.2.2.2 _ (List.mem_cons_of_mem _ List.mem_cons_self))) trivial))
set_option maxHeartbeats 400000 in
theorem sx_pop (hCX : CXX p l B D G adK adV μ s m sargs meth c) (hRf : d ≤ R.frames) (hRl : 36 * d ≤ R.locals) (hlk : lkp pc (codeOf μ) = some (p0, .pop, len, a, b, z)) (he : exec1 (.pop) len a b z d pc ls st hp = some (.inl ((pc', ls', st'), hp')))
    (hS : STt B D G adK s sl (maxOf μ) ls st hp H locs) (k : KKs p l e R s m sargs below meth c Q B D G adK (maxOf μ) pc' ls' st' hp') : W p l e R s m sargs below meth c H locs 0 0 Q (F0 m pc sl (st.map (toV B adK))) := by
  obtain ⟨hx, hb, hml, hown, hts, hr, hlocks, hE, hJ, hμ⟩ := id hCX
  obtain ⟨hd, hlen, hok⟩ := ok_at hμ hlk
  have hK := hE.1
  have hlsz : c.maxLocals = sl.size := by
    obtain ⟨-, -, lv, h1, -, -⟩ := hS.2.2.1
    rw [hml, h1.1]
  have hln : len = 1 := by simpa [isSw, lenI] using hlen
  subst hln
  rcases st with _ | ⟨x | _, st⟩
  all_goals try cases (show (none : Option ACT) = some (.inl ((pc', ls', st'), hp')) from he)
  obtain ⟨rfl, rfl, rfl, rfl⟩ := aC_inj (show aC (pc + 1) ls st hp = _ from he)
  exact lv_pop hx hb hd rfl (k _ _ _ (st_pop hS))
set_option maxHeartbeats 400000 in
theorem sx_goto (hCX : CXX p l B D G adK adV μ s m sargs meth c) (hRf : d ≤ R.frames) (hRl : 36 * d ≤ R.locals) {off : Int} (hlk : lkp pc (codeOf μ) = some (p0, .goto off, len, a, b, z)) (he : exec1 (.goto off) len a b z d pc ls st hp = some (.inl ((pc', ls', st'), hp')))
    (hS : STt B D G adK s sl (maxOf μ) ls st hp H locs) (k : KKs p l e R s m sargs below meth c Q B D G adK (maxOf μ) pc' ls' st' hp') : W p l e R s m sargs below meth c H locs 0 0 Q (F0 m pc sl (st.map (toV B adK))) := by
  obtain ⟨hx, hb, hml, hown, hts, hr, hlocks, hE, hJ, hμ⟩ := id hCX
  obtain ⟨hd, hlen, hok⟩ := ok_at hμ hlk
  have hK := hE.1
  have hlsz : c.maxLocals = sl.size := by
    obtain ⟨-, -, lv, h1, -, -⟩ := hS.2.2.1
    rw [hml, h1.1]
  have hln : len = 3 := by simpa [isSw, lenI] using hlen
  subst hln
  obtain ⟨rfl, rfl, rfl, rfl⟩ := aC_inj (show aC (tg pc off) ls st hp = _ from he)
  exact lv_goto hx hb hd (tg_of hok) (k _ _ _ hS)
set_option maxHeartbeats 400000 in
theorem sx_if_icmp (hCX : CXX p l B D G adK adV μ s m sargs meth c) (hRf : d ≤ R.frames) (hRl : 36 * d ≤ R.locals) {cd : Jvm.ClassFile.Cond} {off : Int} (hlk : lkp pc (codeOf μ) = some (p0, .if_icmp cd off, len, a, b, z)) (he : exec1 (.if_icmp cd off) len a b z d pc ls st hp = some (.inl ((pc', ls', st'), hp')))
    (hS : STt B D G adK s sl (maxOf μ) ls st hp H locs) (k : KKs p l e R s m sargs below meth c Q B D G adK (maxOf μ) pc' ls' st' hp') : W p l e R s m sargs below meth c H locs 0 0 Q (F0 m pc sl (st.map (toV B adK))) := by
  obtain ⟨hx, hb, hml, hown, hts, hr, hlocks, hE, hJ, hμ⟩ := id hCX
  obtain ⟨hd, hlen, hok⟩ := ok_at hμ hlk
  have hK := hE.1
  have hlsz : c.maxLocals = sl.size := by
    obtain ⟨-, -, lv, h1, -, -⟩ := hS.2.2.1
    rw [hml, h1.1]
  have hln : len = 3 := by simpa [isSw, lenI] using hlen
  subst hln
  rcases st with _ | ⟨y | _, _ | ⟨x | _, st⟩⟩
  all_goals try cases (show (none : Option ACT) = some (.inl ((pc', ls', st'), hp')) from he)
  exact br_sim hx hb hd hok he (st_pop (st_pop hS)) k
set_option maxHeartbeats 400000 in
theorem sx_ifCond (hCX : CXX p l B D G adK adV μ s m sargs meth c) (hRf : d ≤ R.frames) (hRl : 36 * d ≤ R.locals) {cd : Jvm.ClassFile.Cond} {off : Int} (hlk : lkp pc (codeOf μ) = some (p0, .ifCond cd off, len, a, b, z)) (he : exec1 (.ifCond cd off) len a b z d pc ls st hp = some (.inl ((pc', ls', st'), hp')))
    (hS : STt B D G adK s sl (maxOf μ) ls st hp H locs) (k : KKs p l e R s m sargs below meth c Q B D G adK (maxOf μ) pc' ls' st' hp') : W p l e R s m sargs below meth c H locs 0 0 Q (F0 m pc sl (st.map (toV B adK))) := by
  obtain ⟨hx, hb, hml, hown, hts, hr, hlocks, hE, hJ, hμ⟩ := id hCX
  obtain ⟨hd, hlen, hok⟩ := ok_at hμ hlk
  have hK := hE.1
  have hlsz : c.maxLocals = sl.size := by
    obtain ⟨-, -, lv, h1, -, -⟩ := hS.2.2.1
    rw [hml, h1.1]
  have hln : len = 3 := by simpa [isSw, lenI] using hlen
  subst hln
  rcases st with _ | ⟨x | _, st⟩
  all_goals try cases (show (none : Option ACT) = some (.inl ((pc', ls', st'), hp')) from he)
  exact brc_sim hx hb hd hok he (st_pop hS) k
set_option maxHeartbeats 400000 in
theorem sx_ifnull (hCX : CXX p l B D G adK adV μ s m sargs meth c) (hRf : d ≤ R.frames) (hRl : 36 * d ≤ R.locals) {off : Int} (hlk : lkp pc (codeOf μ) = some (p0, .ifnull off, len, a, b, z)) (he : exec1 (.ifnull off) len a b z d pc ls st hp = some (.inl ((pc', ls', st'), hp')))
    (hS : STt B D G adK s sl (maxOf μ) ls st hp H locs) (k : KKs p l e R s m sargs below meth c Q B D G adK (maxOf μ) pc' ls' st' hp') : W p l e R s m sargs below meth c H locs 0 0 Q (F0 m pc sl (st.map (toV B adK))) := by
  obtain ⟨hx, hb, hml, hown, hts, hr, hlocks, hE, hJ, hμ⟩ := id hCX
  obtain ⟨hd, hlen, hok⟩ := ok_at hμ hlk
  have hK := hE.1
  have hlsz : c.maxLocals = sl.size := by
    obtain ⟨-, -, lv, h1, -, -⟩ := hS.2.2.1
    rw [hml, h1.1]
  have hln : len = 3 := by simpa [isSw, lenI] using hlen
  subst hln
  rcases st with _ | ⟨_ | r | _, st⟩
  all_goals try cases (show (none : Option ACT) = some (.inl ((pc', ls', st'), hp')) from he)
  obtain ⟨rfl, rfl, rfl, rfl⟩ := aC_inj (show aC (pc + 3) ls st hp = _ from he)
  exact lv_ifnull hx hb hd (k _ _ _ (st_pop hS))
set_option maxHeartbeats 400000 in
theorem sx_getfield (hCX : CXX p l B D G adK adV μ s m sargs meth c) (hRf : d ≤ R.frames) (hRl : 36 * d ≤ R.locals) {idx : Nat} (hlk : lkp pc (codeOf μ) = some (p0, .getfield idx, len, a, b, z)) (he : exec1 (.getfield idx) len a b z d pc ls st hp = some (.inl ((pc', ls', st'), hp')))
    (hS : STt B D G adK s sl (maxOf μ) ls st hp H locs) (k : KKs p l e R s m sargs below meth c Q B D G adK (maxOf μ) pc' ls' st' hp') : W p l e R s m sargs below meth c H locs 0 0 Q (F0 m pc sl (st.map (toV B adK))) := by
  obtain ⟨hx, hb, hml, hown, hts, hr, hlocks, hE, hJ, hμ⟩ := id hCX
  obtain ⟨hd, hlen, hok⟩ := ok_at hμ hlk
  have hK := hE.1
  have hlsz : c.maxLocals = sl.size := by
    obtain ⟨-, -, lv, h1, -, -⟩ := hS.2.2.1
    rw [hml, h1.1]
  have hln : len = 3 := by simpa [isSw, lenI] using hlen
  subst hln
  rcases st with _ | ⟨_ | r | _, st⟩
  all_goals try cases (show (none : Option ACT) = some (.inl ((pc', ls', st'), hp')) from he)
  have he : (if r.1 = a then (if fK a b = 2 then aC (pc + 3) ls (vR (fref r b) :: st) hp else aC (pc + 3) ls (vI (hp r b) :: st) hp) else none) = some (.inl ((pc', ls', st'), hp')) := he
  by_cases hra : r.1 = a
  · rw [if_pos hra] at he
    have hok2 : (((clOf μ, idx, a, b) ∈ lnkF ∨ (clOf μ, idx, a, b) ∈ lnkFN) ∧ a ≤ 10) ∧ b < nF a := by
      have h := hok
      unfold okL at h
      simpa only [Bool.and_eq_true, Bool.or_eq_true, decide_eq_true_eq] using h
    obtain ⟨⟨hl, ha⟩, hbn⟩ := hok2
    have hr20 : r.1 ≠ 20 := by omega
    have hrA : r ∈ allR := okR_in (hS.2.2.2 _ List.mem_cons_self) hr20
    have hent : (World B G hp)[adr r]? = some (B + adr r, .inr (a, (List.range (nF a)).map (fv B hp r))) := by
      rw [World_get hrA, ent_obj (by omega), hra]
    have hv : ((List.range (nF a)).map (fv B hp r))[b]? = some (fv B hp r b) := by
      rw [List.getElem?_map, List.getElem?_range hbn]
      rfl
    have hsame : ∀ x, s.fieldFound? (TT a b).1 (TT a b).2.1 (TT a b).2.2.1 = some x → s.fieldFound? (clsN a) (TT a b).2.1 (TT a b).2.2.1 = some x := by
      rw [TT_cls a (by omega) b hbn]
      exact fun _ h => h
    have goal : W p l e R s m sargs below meth c H locs 0 0 Q (F0 m (pc + 3) sl (fv B hp r b :: st.map (toV B adK))) := by
      by_cases h2 : fK a b = 2
      · rw [if_pos h2] at he
        obtain ⟨rfl, rfl, rfl, rfl⟩ := aC_inj he
        have hf := fref_ok r hrA b (by rw [hra]; exact hbn) (by rw [hra]; exact h2)
        have hfv : fv B hp' r b = toV B adK (vR (fref r b)) := by
          rw [toV_ref hf.1]
          unfold fv
          rw [hra, if_pos h2]
        rw [hfv]
        exact k _ _ _ (st_push (st_pop hS) (Or.inr hf : okR (fref r b)))
      · rw [if_neg h2] at he
        obtain ⟨rfl, rfl, rfl, rfl⟩ := aC_inj he
        have hfv : fv B hp' r b = toV B adK (vI (hp' r b)) := by
          unfold fv
          rw [hra, if_neg h2]
          rfl
        rw [hfv]
        exact k _ _ _ (st_push (st_pop hS) trivial)
    show W p l e R s m sargs below meth c H locs 0 0 Q (F0 m pc sl (toV B adK (vR r) :: st.map (toV B adK)))
    rw [toV_ref hr20]
    rcases hl with hl | hl
    · have hq2 : (Jvm.Cond.fieldLink (clsN (clOf μ)) idx (clsN a) (TT a b).2.1 (TT a b).2.2.1).before sargs s = true := hts (wF (clOf μ, idx, a, b)) (inG (lnkF_ok _ hl) rfl)
      exact va_get (T := TT a) (N := nF a) (C := clsN a) (ref := clsN a) hx hb hts (layW a ha) hown hK hS.1 (adr r) hent (vwCl_at a ha) b hbn hq2 hsame hv hd goal
    · have hq : va_Nw (wFN (clOf μ, idx, a, b)) s := hE.2.1 _ hl
      have hq2 : (Jvm.Cond.fieldLinkNest (clsN (clOf μ)) idx (clsN a) (TT a b).2.1 (TT a b).2.2.1 "TypebarMachine").before sargs s = true := va_Nw.use (w := wFN (clOf μ, idx, a, b)) rfl hq
      exact va_getN (T := TT a) (N := nF a) (C := clsN a) (ref := clsN a) (host := "TypebarMachine") hx hb hts (layW a ha) hown hK hS.1 (adr r) hent (vwCl_at a ha) b hbn hq2 hsame hv hd goal
  · rw [if_neg hra] at he
    cases he
set_option maxHeartbeats 400000 in
theorem sx_putfield (hCX : CXX p l B D G adK adV μ s m sargs meth c) (hRf : d ≤ R.frames) (hRl : 36 * d ≤ R.locals) {idx : Nat} (hlk : lkp pc (codeOf μ) = some (p0, .putfield idx, len, a, b, z)) (he : exec1 (.putfield idx) len a b z d pc ls st hp = some (.inl ((pc', ls', st'), hp')))
    (hS : STt B D G adK s sl (maxOf μ) ls st hp H locs) (k : KKs p l e R s m sargs below meth c Q B D G adK (maxOf μ) pc' ls' st' hp') : W p l e R s m sargs below meth c H locs 0 0 Q (F0 m pc sl (st.map (toV B adK))) := by
  obtain ⟨hx, hb, hml, hown, hts, hr, hlocks, hE, hJ, hμ⟩ := id hCX
  obtain ⟨hd, hlen, hok⟩ := ok_at hμ hlk
  have hK := hE.1
  have hlsz : c.maxLocals = sl.size := by
    obtain ⟨-, -, lv, h1, -, -⟩ := hS.2.2.1
    rw [hml, h1.1]
  have hln : len = 3 := by simpa [isSw, lenI] using hlen
  subst hln
  rcases st with _ | ⟨x | _, _ | ⟨_ | r | _, st⟩⟩
  all_goals try cases (show (none : Option ACT) = some (.inl ((pc', ls', st'), hp')) from he)
  have he : (if r.1 = a then (if fK a b = 0 then aC (pc + 3) ls st (up hp r b x) else if isB x = true then aC (pc + 3) ls st (up hp r b x) else none) else none) = some (.inl ((pc', ls', st'), hp')) := he
  by_cases hra : r.1 = a
  · rw [if_pos hra] at he
    have hok2 : (((((clOf μ, idx, a, b) ∈ lnkF ∨ (clOf μ, idx, a, b) ∈ lnkFN) ∧ a ≤ 10) ∧ b < nF a) ∧ (TT a b).2.2.2 = false) ∧ fK a b ≤ 1 := by
      have h := hok
      unfold okL at h
      simpa only [Bool.and_eq_true, Bool.or_eq_true, decide_eq_true_eq, Bool.not_eq_true'] using h
    obtain ⟨⟨⟨⟨hl, ha⟩, hbn⟩, hfin⟩, hk1⟩ := hok2
    have hr20 : r.1 ≠ 20 := by omega
    have hS2 := st_pop (st_pop hS)
    have hrA : r ∈ allR := okR_in (hS.2.2.2 _ (List.mem_cons_of_mem _ List.mem_cons_self)) hr20
    have hent : (World B G hp)[adr r]? = some (B + adr r, .inr (a, (List.range (nF a)).map (fv B hp r))) := by
      rw [World_get hrA, ent_obj (by omega), hra]
    have hsame : ∀ x, s.fieldFound? (TT a b).1 (TT a b).2.1 (TT a b).2.2.1 = some x → s.fieldFound? (clsN a) (TT a b).2.1 (TT a b).2.2.1 = some x := by
      rw [TT_cls a (by omega) b hbn]
      exact fun _ h => h
    have h3 : (narrow (tyT a b) (.int x) = .int x ∧ fits (tyT a b) (.int x) = true) ∧ (pc' = pc + 3 ∧ ls' = ls ∧ st' = st ∧ hp' = up hp r b x) := by
      by_cases h0 : fK a b = 0
      · rw [if_pos h0] at he
        rw [TT_k0 a (by omega) b hbn h0]
        exact ⟨⟨vp_nar_int x, rfl⟩, aC_inj he⟩
      · rw [if_neg h0] at he
        by_cases hB : isB x = true
        · rw [if_pos hB] at he
          rw [TT_k1 a (by omega) b hbn (by omega)]
          exact ⟨⟨okB_0 hB, by rcases isB_or hB with rfl | rfl <;> decide⟩, aC_inj he⟩
        · rw [if_neg hB] at he
          cases he
    obtain ⟨⟨hn, hf⟩, rfl, rfl, rfl, rfl⟩ := h3
    have hlen2 : b < ((List.range (nF a)).map (fv B hp r)).length := by simpa using hbn
    have kk : ∀ (H1 : Heap) (locs1 : List Loc), va_P D vwCl ((World B G hp).set (adr r) (B + adr r, .inr (a, ((List.range (nF a)).map (fv B hp r)).set b (.int x)))) H1 → va_D (inA B) ((World B G hp).set (adr r) (B + adr r, .inr (a, ((List.range (nF a)).map (fv B hp r)).set b (.int x)))) → va_S (inA B) s.heap H1 locs1 → W p l e R s m sargs below meth c H1 locs1 0 0 Q (F0 m (pc + 3) sl (st'.map (toV B adK))) := by
      intro H1 locs1 h1 _ h2
      refine k _ _ _ (st_putf hS2 hrA (by omega) (by rw [hra]; omega) ?_ h2)
      rw [hra]
      exact h1
    show W p l e R s m sargs below meth c H locs 0 0 Q (F0 m pc sl (.int x :: toV B adK (vR r) :: st'.map (toV B adK)))
    rw [toV_ref hr20]
    rcases hl with hl | hl
    · have hq2 : (Jvm.Cond.fieldLink (clsN (clOf μ)) idx (clsN a) (TT a b).2.1 (TT a b).2.2.1).before sargs s = true := hts (wF (clOf μ, idx, a, b)) (inG (lnkF_ok _ hl) rfl)
      exact va_put (T := TT a) (N := nF a) (C := clsN a) (ref := clsN a) hx hb hts (layW a ha) (tyT a) (TT_ty a (by omega)) (TT_nm a (by omega)) hown hK hS.1 World_D hS.2.1 (adr r) hent (vwCl_at a ha) b hbn hq2 hsame hfin (TT_ty a (by omega) b hbn) hn hf hlen2 hd kk
    · have hq : va_Nw (wFN (clOf μ, idx, a, b)) s := hE.2.1 _ hl
      have hq2 : (Jvm.Cond.fieldLinkNest (clsN (clOf μ)) idx (clsN a) (TT a b).2.1 (TT a b).2.2.1 "TypebarMachine").before sargs s = true := va_Nw.use (w := wFN (clOf μ, idx, a, b)) rfl hq
      exact va_putN (T := TT a) (N := nF a) (C := clsN a) (ref := clsN a) (host := "TypebarMachine") hx hb hts (layW a ha) (tyT a) (TT_ty a (by omega)) (TT_nm a (by omega)) hown hK hS.1 World_D hS.2.1 (adr r) hent (vwCl_at a ha) b hbn hq2 hsame hfin (TT_ty a (by omega) b hbn) hn hf hlen2 hd kk
  · rw [if_neg hra] at he
    cases he
set_option maxHeartbeats 400000 in
theorem sx_iaload (hCX : CXX p l B D G adK adV μ s m sargs meth c) (hRf : d ≤ R.frames) (hRl : 36 * d ≤ R.locals) (hlk : lkp pc (codeOf μ) = some (p0, .iaload, len, a, b, z)) (he : exec1 (.iaload) len a b z d pc ls st hp = some (.inl ((pc', ls', st'), hp')))
    (hS : STt B D G adK s sl (maxOf μ) ls st hp H locs) (k : KKs p l e R s m sargs below meth c Q B D G adK (maxOf μ) pc' ls' st' hp') : W p l e R s m sargs below meth c H locs 0 0 Q (F0 m pc sl (st.map (toV B adK))) := by
  obtain ⟨hx, hb, hml, hown, hts, hr, hlocks, hE, hJ, hμ⟩ := id hCX
  obtain ⟨hd, hlen, hok⟩ := ok_at hμ hlk
  have hK := hE.1
  have hlsz : c.maxLocals = sl.size := by
    obtain ⟨-, -, lv, h1, -, -⟩ := hS.2.2.1
    rw [hml, h1.1]
  have hln : len = 1 := by simpa [isSw, lenI] using hlen
  subst hln
  rcases st with _ | ⟨j | _, _ | ⟨_ | r | _, st⟩⟩
  all_goals try cases (show (none : Option ACT) = some (.inl ((pc', ls', st'), hp')) from he)
  have he : (if r.1 = 11 then (if inb j (alen r) = true then aC (pc + 1) ls (vI (hp r j.toNatClampNeg) :: st) hp else none) else none) = some (.inl ((pc', ls', st'), hp')) := he
  by_cases hra : r.1 = 11
  · rw [if_pos hra] at he
    by_cases hi : inb j (alen r) = true
    · rw [if_pos hi] at he
      obtain ⟨rfl, rfl, rfl, rfl⟩ := aC_inj he
      have hr20 : r.1 ≠ 20 := by omega
      have hrA : r ∈ allR := okR_in (hS.2.2.2 _ (List.mem_cons_of_mem _ List.mem_cons_self)) hr20
      have hent := World_get (B := B) (G := G) (hp := hp') hrA
      rw [ent_int hra] at hent
      show W p l e R s m sargs below meth c H locs 0 0 Q (F0 m pc sl (.int j :: toV B adK (vR r) :: st.map (toV B adK)))
      rw [toV_ref hr20]
      exact va_iald hx hb hK hS.1 (adr r) 0 hent rfl (inb_in hi) hd (k _ _ _ (st_push (st_pop (st_pop hS)) trivial))
    · rw [if_neg hi] at he
      cases he
  · rw [if_neg hra] at he
    cases he
set_option maxHeartbeats 400000 in
theorem sx_baload (hCX : CXX p l B D G adK adV μ s m sargs meth c) (hRf : d ≤ R.frames) (hRl : 36 * d ≤ R.locals) (hlk : lkp pc (codeOf μ) = some (p0, .baload, len, a, b, z)) (he : exec1 (.baload) len a b z d pc ls st hp = some (.inl ((pc', ls', st'), hp')))
    (hS : STt B D G adK s sl (maxOf μ) ls st hp H locs) (k : KKs p l e R s m sargs below meth c Q B D G adK (maxOf μ) pc' ls' st' hp') : W p l e R s m sargs below meth c H locs 0 0 Q (F0 m pc sl (st.map (toV B adK))) := by
  obtain ⟨hx, hb, hml, hown, hts, hr, hlocks, hE, hJ, hμ⟩ := id hCX
  obtain ⟨hd, hlen, hok⟩ := ok_at hμ hlk
  have hK := hE.1
  have hlsz : c.maxLocals = sl.size := by
    obtain ⟨-, -, lv, h1, -, -⟩ := hS.2.2.1
    rw [hml, h1.1]
  have hln : len = 1 := by simpa [isSw, lenI] using hlen
  subst hln
  rcases st with _ | ⟨j | _, _ | ⟨_ | r | _, st⟩⟩
  all_goals try cases (show (none : Option ACT) = some (.inl ((pc', ls', st'), hp')) from he)
  have he : (if r.1 = 12 then (if inb j (alen r) = true then aC (pc + 1) ls (vI (hp r j.toNatClampNeg) :: st) hp else none) else none) = some (.inl ((pc', ls', st'), hp')) := he
  by_cases hra : r.1 = 12
  · rw [if_pos hra] at he
    by_cases hi : inb j (alen r) = true
    · rw [if_pos hi] at he
      obtain ⟨rfl, rfl, rfl, rfl⟩ := aC_inj he
      have hr20 : r.1 ≠ 20 := by omega
      have hrA : r ∈ allR := okR_in (hS.2.2.2 _ (List.mem_cons_of_mem _ List.mem_cons_self)) hr20
      have hent := World_get (B := B) (G := G) (hp := hp') hrA
      rw [ent_boo hra] at hent
      show W p l e R s m sargs below meth c H locs 0 0 Q (F0 m pc sl (.int j :: toV B adK (vR r) :: st.map (toV B adK)))
      rw [toV_ref hr20]
      have h2 : alen r = 2 := by unfold alen; rw [if_neg (by omega), if_pos hra]
      rw [h2] at hi
      exact va_zald hx hb hK hS.1 (adr r) 1 hent rfl (inb_in hi) hd (k _ _ _ (st_push (st_pop (st_pop hS)) trivial))
    · rw [if_neg hi] at he
      cases he
  · rw [if_neg hra] at he
    cases he
set_option maxHeartbeats 400000 in
theorem sx_aaload (hCX : CXX p l B D G adK adV μ s m sargs meth c) (hRf : d ≤ R.frames) (hRl : 36 * d ≤ R.locals) (hlk : lkp pc (codeOf μ) = some (p0, .aaload, len, a, b, z)) (he : exec1 (.aaload) len a b z d pc ls st hp = some (.inl ((pc', ls', st'), hp')))
    (hS : STt B D G adK s sl (maxOf μ) ls st hp H locs) (k : KKs p l e R s m sargs below meth c Q B D G adK (maxOf μ) pc' ls' st' hp') : W p l e R s m sargs below meth c H locs 0 0 Q (F0 m pc sl (st.map (toV B adK))) := by
  obtain ⟨hx, hb, hml, hown, hts, hr, hlocks, hE, hJ, hμ⟩ := id hCX
  obtain ⟨hd, hlen, hok⟩ := ok_at hμ hlk
  have hK := hE.1
  have hlsz : c.maxLocals = sl.size := by
    obtain ⟨-, -, lv, h1, -, -⟩ := hS.2.2.1
    rw [hml, h1.1]
  have hln : len = 1 := by simpa [isSw, lenI] using hlen
  subst hln
  rcases st with _ | ⟨j | _, _ | ⟨_ | r | _, st⟩⟩
  all_goals try cases (show (none : Option ACT) = some (.inl ((pc', ls', st'), hp')) from he)
  have he : (if r.1 = 13 then (if inb j 8 = true then aC (pc + 1) ls (vR (3, 0, 2 + j.toNatClampNeg) :: st) hp else none) else none) = some (.inl ((pc', ls', st'), hp')) := he
  by_cases hra : r.1 = 13
  · rw [if_pos hra] at he
    by_cases hi : inb j 8 = true
    · rw [if_pos hi] at he
      obtain ⟨rfl, rfl, rfl, rfl⟩ := aC_inj he
      have hr20 : r.1 ≠ 20 := by omega
      have hrA : r ∈ allR := okR_in (hS.2.2.2 _ (List.mem_cons_of_mem _ List.mem_cons_self)) hr20
      have hent := World_get (B := B) (G := G) (hp := hp') hrA
      rw [ent_ref hra] at hent
      show W p l e R s m sargs below meth c H locs 0 0 Q (F0 m pc sl (.int j :: toV B adK (vR r) :: st.map (toV B adK)))
      rw [toV_ref hr20]
      have hk8 := kept_ok j.toNatClampNeg (inb_lt hi)
      have h20 : ((3, 0, 2 + j.toNatClampNeg) : RF).1 ≠ 20 := by show ¬ (3 : Nat) = 20; decide
      refine va_aldq hx hb hK hS.1 (adr r) 2 hent rfl (inb_in hi) hd ?_
      have hg := k _ _ _ (st_push (st_pop (st_pop hS)) (hk8 : okV (vR (3, 0, 2 + j.toNatClampNeg))))
      rw [List.map_cons, toV_ref h20] at hg
      exact hg
    · rw [if_neg hi] at he
      cases he
  · rw [if_neg hra] at he
    cases he
set_option maxHeartbeats 400000 in
theorem sx_iastore (hCX : CXX p l B D G adK adV μ s m sargs meth c) (hRf : d ≤ R.frames) (hRl : 36 * d ≤ R.locals) (hlk : lkp pc (codeOf μ) = some (p0, .iastore, len, a, b, z)) (he : exec1 (.iastore) len a b z d pc ls st hp = some (.inl ((pc', ls', st'), hp')))
    (hS : STt B D G adK s sl (maxOf μ) ls st hp H locs) (k : KKs p l e R s m sargs below meth c Q B D G adK (maxOf μ) pc' ls' st' hp') : W p l e R s m sargs below meth c H locs 0 0 Q (F0 m pc sl (st.map (toV B adK))) := by
  obtain ⟨hx, hb, hml, hown, hts, hr, hlocks, hE, hJ, hμ⟩ := id hCX
  obtain ⟨hd, hlen, hok⟩ := ok_at hμ hlk
  have hK := hE.1
  have hlsz : c.maxLocals = sl.size := by
    obtain ⟨-, -, lv, h1, -, -⟩ := hS.2.2.1
    rw [hml, h1.1]
  have hln : len = 1 := by simpa [isSw, lenI] using hlen
  subst hln
  rcases st with _ | ⟨x | _, _ | ⟨j | _, _ | ⟨_ | r | _, st⟩⟩⟩
  all_goals try cases (show (none : Option ACT) = some (.inl ((pc', ls', st'), hp')) from he)
  have he : (if r.1 = 11 then (if inb j (alen r) = true then aC (pc + 1) ls st (up hp r j.toNatClampNeg x) else none) else none) = some (.inl ((pc', ls', st'), hp')) := he
  by_cases hra : r.1 = 11
  · rw [if_pos hra] at he
    by_cases hi : inb j (alen r) = true
    · rw [if_pos hi] at he
      obtain ⟨rfl, rfl, rfl, rfl⟩ := aC_inj he
      have hr20 : r.1 ≠ 20 := by omega
      have hrA : r ∈ allR := okR_in (hS.2.2.2 _ (List.mem_cons_of_mem _ (List.mem_cons_of_mem _ List.mem_cons_self))) hr20
      have hent := World_get (B := B) (G := G) (hp := hp) hrA
      rw [ent_int hra] at hent
      show W p l e R s m sargs below meth c H locs 0 0 Q (F0 m pc sl (.int x :: .int j :: toV B adK (vR r) :: st'.map (toV B adK)))
      rw [toV_ref hr20]
      refine va_iast hx hb hK hS.1 World_D hS.2.1 (adr r) 0 hent rfl (inb_in hi) hd (fun H1 locs1 h1 _ h2 => k _ _ _ (st_puta (st_pop (st_pop (st_pop hS))) hrA ?_ h1 h2))
      rw [ent_int hra, up_self]
    · rw [if_neg hi] at he
      cases he
  · rw [if_neg hra] at he
    cases he
set_option maxHeartbeats 400000 in
theorem sx_bastore (hCX : CXX p l B D G adK adV μ s m sargs meth c) (hRf : d ≤ R.frames) (hRl : 36 * d ≤ R.locals) (hlk : lkp pc (codeOf μ) = some (p0, .bastore, len, a, b, z)) (he : exec1 (.bastore) len a b z d pc ls st hp = some (.inl ((pc', ls', st'), hp')))
    (hS : STt B D G adK s sl (maxOf μ) ls st hp H locs) (k : KKs p l e R s m sargs below meth c Q B D G adK (maxOf μ) pc' ls' st' hp') : W p l e R s m sargs below meth c H locs 0 0 Q (F0 m pc sl (st.map (toV B adK))) := by
  obtain ⟨hx, hb, hml, hown, hts, hr, hlocks, hE, hJ, hμ⟩ := id hCX
  obtain ⟨hd, hlen, hok⟩ := ok_at hμ hlk
  have hK := hE.1
  have hlsz : c.maxLocals = sl.size := by
    obtain ⟨-, -, lv, h1, -, -⟩ := hS.2.2.1
    rw [hml, h1.1]
  have hln : len = 1 := by simpa [isSw, lenI] using hlen
  subst hln
  rcases st with _ | ⟨x | _, _ | ⟨j | _, _ | ⟨_ | r | _, st⟩⟩⟩
  all_goals try cases (show (none : Option ACT) = some (.inl ((pc', ls', st'), hp')) from he)
  have he : (if r.1 = 12 then (if inb j (alen r) = true then (if isB x = true then aC (pc + 1) ls st (up hp r j.toNatClampNeg x) else none) else none) else none) = some (.inl ((pc', ls', st'), hp')) := he
  by_cases hra : r.1 = 12
  · rw [if_pos hra] at he
    by_cases hi : inb j (alen r) = true
    · rw [if_pos hi] at he
      by_cases hB : isB x = true
      · rw [if_pos hB] at he
        obtain ⟨rfl, rfl, rfl, rfl⟩ := aC_inj he
        have hr20 : r.1 ≠ 20 := by omega
        have hrA : r ∈ allR := okR_in (hS.2.2.2 _ (List.mem_cons_of_mem _ (List.mem_cons_of_mem _ List.mem_cons_self))) hr20
        have hent := World_get (B := B) (G := G) (hp := hp) hrA
        rw [ent_boo hra] at hent
        have h2 : alen r = 2 := by unfold alen; rw [if_neg (by omega), if_pos hra]
        rw [h2] at hi
        show W p l e R s m sargs below meth c H locs 0 0 Q (F0 m pc sl (.int x :: .int j :: toV B adK (vR r) :: st'.map (toV B adK)))
        rw [toV_ref hr20]
        refine va_zast hx hb hK hS.1 World_D hS.2.1 (adr r) 1 hent rfl (inb_in hi) hd (fun H1 locs1 h1 _ h2 => k _ _ _ (st_puta (st_pop (st_pop (st_pop hS))) hrA ?_ h1 h2))
        rw [ent_boo hra, up_self, nar_B hB]
      · rw [if_neg hB] at he
        cases he
    · rw [if_neg hi] at he
      cases he
  · rw [if_neg hra] at he
    cases he
set_option maxHeartbeats 400000 in
theorem sx_arraylength (hCX : CXX p l B D G adK adV μ s m sargs meth c) (hRf : d ≤ R.frames) (hRl : 36 * d ≤ R.locals) (hlk : lkp pc (codeOf μ) = some (p0, .arraylength, len, a, b, z)) (he : exec1 (.arraylength) len a b z d pc ls st hp = some (.inl ((pc', ls', st'), hp')))
    (hS : STt B D G adK s sl (maxOf μ) ls st hp H locs) (k : KKs p l e R s m sargs below meth c Q B D G adK (maxOf μ) pc' ls' st' hp') : W p l e R s m sargs below meth c H locs 0 0 Q (F0 m pc sl (st.map (toV B adK))) := by
  obtain ⟨hx, hb, hml, hown, hts, hr, hlocks, hE, hJ, hμ⟩ := id hCX
  obtain ⟨hd, hlen, hok⟩ := ok_at hμ hlk
  have hK := hE.1
  have hlsz : c.maxLocals = sl.size := by
    obtain ⟨-, -, lv, h1, -, -⟩ := hS.2.2.1
    rw [hml, h1.1]
  have hln : len = 1 := by simpa [isSw, lenI] using hlen
  subst hln
  rcases st with _ | ⟨_ | r | _, st⟩
  all_goals try cases (show (none : Option ACT) = some (.inl ((pc', ls', st'), hp')) from he)
  have he : (if 11 ≤ r.1 ∧ r.1 ≠ 20 then aC (pc + 1) ls (vI (nI (alen r)) :: st) hp else none) = some (.inl ((pc', ls', st'), hp')) := he
  by_cases hra : 11 ≤ r.1 ∧ r.1 ≠ 20
  · rw [if_pos hra] at he
    obtain ⟨rfl, rfl, rfl, rfl⟩ := aC_inj he
    have hrA : r ∈ allR := okR_in (hS.2.2.2 _ List.mem_cons_self) hra.2
    have h13 := allR_cls r hrA
    have hent := World_get (B := B) (G := G) (hp := hp') hrA
    have hg := k _ _ _ (st_push (st_pop hS) (trivial : okV (vI (nI (alen r)))))
    show W p l e R s m sargs below meth c H locs 0 0 Q (F0 m pc sl (toV B adK (vR r) :: st.map (toV B adK)))
    rw [toV_ref hra.2]
    rcases (show r.1 = 11 ∨ r.1 = 12 ∨ r.1 = 13 by omega) with h | h | h
    · rw [ent_int h] at hent
      exact va_alen hx hb hK hS.1 (adr r) 0 hent rfl rfl hd hg
    · rw [ent_boo h] at hent
      have h2 : alen r = 2 := by unfold alen; rw [if_neg (by omega), if_pos h]
      rw [h2] at hg
      exact va_alen hx hb hK hS.1 (adr r) 1 hent rfl rfl hd hg
    · rw [ent_ref h] at hent
      have h2 : alen r = 8 := by unfold alen; rw [if_neg (by omega), if_neg (by omega)]
      rw [h2] at hg
      exact va_alen hx hb hK hS.1 (adr r) 2 hent rfl rfl hd hg
  · rw [if_neg hra] at he
    cases he
set_option maxHeartbeats 400000 in
theorem sx_i2d (hCX : CXX p l B D G adK adV μ s m sargs meth c) (hRf : d ≤ R.frames) (hRl : 36 * d ≤ R.locals) (hlk : lkp pc (codeOf μ) = some (p0, .i2d, len, a, b, z)) (he : exec1 (.i2d) len a b z d pc ls st hp = some (.inl ((pc', ls', st'), hp')))
    (hS : STt B D G adK s sl (maxOf μ) ls st hp H locs) (k : KKs p l e R s m sargs below meth c Q B D G adK (maxOf μ) pc' ls' st' hp') : W p l e R s m sargs below meth c H locs 0 0 Q (F0 m pc sl (st.map (toV B adK))) := by
  obtain ⟨hx, hb, hml, hown, hts, hr, hlocks, hE, hJ, hμ⟩ := id hCX
  obtain ⟨hd, hlen, hok⟩ := ok_at hμ hlk
  have hK := hE.1
  have hlsz : c.maxLocals = sl.size := by
    obtain ⟨-, -, lv, h1, -, -⟩ := hS.2.2.1
    rw [hml, h1.1]
  have hln : len = 1 := by simpa [isSw, lenI] using hlen
  subst hln
  rcases st with _ | ⟨x | _, st⟩
  all_goals try cases (show (none : Option ACT) = some (.inl ((pc', ls', st'), hp')) from he)
  obtain ⟨rfl, rfl, rfl, rfl⟩ := aC_inj (show aC (pc + 1) ls (vD (FP.i2d x) :: st) hp = _ from he)
  exact lv_i2d hx hb hd (k _ _ _ (st_push (st_pop hS) trivial))
set_option maxHeartbeats 400000 in
theorem sx_i2f (hCX : CXX p l B D G adK adV μ s m sargs meth c) (hRf : d ≤ R.frames) (hRl : 36 * d ≤ R.locals) (hlk : lkp pc (codeOf μ) = some (p0, .i2f, len, a, b, z)) (he : exec1 (.i2f) len a b z d pc ls st hp = some (.inl ((pc', ls', st'), hp')))
    (hS : STt B D G adK s sl (maxOf μ) ls st hp H locs) (k : KKs p l e R s m sargs below meth c Q B D G adK (maxOf μ) pc' ls' st' hp') : W p l e R s m sargs below meth c H locs 0 0 Q (F0 m pc sl (st.map (toV B adK))) := by
  obtain ⟨hx, hb, hml, hown, hts, hr, hlocks, hE, hJ, hμ⟩ := id hCX
  obtain ⟨hd, hlen, hok⟩ := ok_at hμ hlk
  have hK := hE.1
  have hlsz : c.maxLocals = sl.size := by
    obtain ⟨-, -, lv, h1, -, -⟩ := hS.2.2.1
    rw [hml, h1.1]
  have hln : len = 1 := by simpa [isSw, lenI] using hlen
  subst hln
  rcases st with _ | ⟨x | _, st⟩
  all_goals try cases (show (none : Option ACT) = some (.inl ((pc', ls', st'), hp')) from he)
  obtain ⟨rfl, rfl, rfl, rfl⟩ := aC_inj (show aC (pc + 1) ls (vF (FP.i2f x) :: st) hp = _ from he)
  exact lv_i2f hx hb hd (k _ _ _ (st_push (st_pop hS) trivial))
set_option maxHeartbeats 400000 in
theorem sx_ddiv (hCX : CXX p l B D G adK adV μ s m sargs meth c) (hRf : d ≤ R.frames) (hRl : 36 * d ≤ R.locals) (hlk : lkp pc (codeOf μ) = some (p0, .ddiv, len, a, b, z)) (he : exec1 (.ddiv) len a b z d pc ls st hp = some (.inl ((pc', ls', st'), hp')))
    (hS : STt B D G adK s sl (maxOf μ) ls st hp H locs) (k : KKs p l e R s m sargs below meth c Q B D G adK (maxOf μ) pc' ls' st' hp') : W p l e R s m sargs below meth c H locs 0 0 Q (F0 m pc sl (st.map (toV B adK))) := by
  obtain ⟨hx, hb, hml, hown, hts, hr, hlocks, hE, hJ, hμ⟩ := id hCX
  obtain ⟨hd, hlen, hok⟩ := ok_at hμ hlk
  have hK := hE.1
  have hlsz : c.maxLocals = sl.size := by
    obtain ⟨-, -, lv, h1, -, -⟩ := hS.2.2.1
    rw [hml, h1.1]
  have hln : len = 1 := by simpa [isSw, lenI] using hlen
  subst hln
  rcases st with _ | ⟨_ | _ | y | _, _ | ⟨_ | _ | x | _, st⟩⟩
  all_goals try cases (show (none : Option ACT) = some (.inl ((pc', ls', st'), hp')) from he)
  have he : (if okD (FP.ddiv x y) = true then aC (pc + 1) ls (vD (FP.ddiv x y) :: st) hp else none) = some (.inl ((pc', ls', st'), hp')) := he
  by_cases h0 : okD (FP.ddiv x y) = true
  · rw [if_pos h0] at he
    obtain ⟨rfl, rfl, rfl, rfl⟩ := aC_inj he
    have h1 : vf_n64 (FP.ddiv x y) := of_decide_eq_true (p := (FP.ddiv x y &&& 0x7fffffffffffffff ≤ 0x7ff0000000000000)) h0
    exact lv_ddiv hx hb hd h1 (k _ _ _ (st_push (st_pop (st_pop hS)) trivial))
  · rw [if_neg h0] at he
    cases he
set_option maxHeartbeats 400000 in
theorem sx_fdiv (hCX : CXX p l B D G adK adV μ s m sargs meth c) (hRf : d ≤ R.frames) (hRl : 36 * d ≤ R.locals) (hlk : lkp pc (codeOf μ) = some (p0, .fdiv, len, a, b, z)) (he : exec1 (.fdiv) len a b z d pc ls st hp = some (.inl ((pc', ls', st'), hp')))
    (hS : STt B D G adK s sl (maxOf μ) ls st hp H locs) (k : KKs p l e R s m sargs below meth c Q B D G adK (maxOf μ) pc' ls' st' hp') : W p l e R s m sargs below meth c H locs 0 0 Q (F0 m pc sl (st.map (toV B adK))) := by
  obtain ⟨hx, hb, hml, hown, hts, hr, hlocks, hE, hJ, hμ⟩ := id hCX
  obtain ⟨hd, hlen, hok⟩ := ok_at hμ hlk
  have hK := hE.1
  have hlsz : c.maxLocals = sl.size := by
    obtain ⟨-, -, lv, h1, -, -⟩ := hS.2.2.1
    rw [hml, h1.1]
  have hln : len = 1 := by simpa [isSw, lenI] using hlen
  subst hln
  rcases st with _ | ⟨_ | _ | _ | y, _ | ⟨_ | _ | _ | x, st⟩⟩
  all_goals try cases (show (none : Option ACT) = some (.inl ((pc', ls', st'), hp')) from he)
  have he : (if okF (FP.fdiv x y) = true then aC (pc + 1) ls (vF (FP.fdiv x y) :: st) hp else none) = some (.inl ((pc', ls', st'), hp')) := he
  by_cases h0 : okF (FP.fdiv x y) = true
  · rw [if_pos h0] at he
    obtain ⟨rfl, rfl, rfl, rfl⟩ := aC_inj he
    have h1 : vf_n32 (FP.fdiv x y) := of_decide_eq_true (p := (FP.fdiv x y &&& 0x7fffffff ≤ 0x7f800000)) h0
    exact lv_fdiv hx hb hd h1 (k _ _ _ (st_push (st_pop (st_pop hS)) trivial))
  · rw [if_neg h0] at he
    cases he
set_option maxHeartbeats 400000 in
theorem sx_dconst (hCX : CXX p l B D G adK adV μ s m sargs meth c) (hRf : d ≤ R.frames) (hRl : 36 * d ≤ R.locals) {kk : Fin 2} (hlk : lkp pc (codeOf μ) = some (p0, .dconst kk, len, a, b, z)) (he : exec1 (.dconst kk) len a b z d pc ls st hp = some (.inl ((pc', ls', st'), hp')))
    (hS : STt B D G adK s sl (maxOf μ) ls st hp H locs) (k : KKs p l e R s m sargs below meth c Q B D G adK (maxOf μ) pc' ls' st' hp') : W p l e R s m sargs below meth c H locs 0 0 Q (F0 m pc sl (st.map (toV B adK))) := by
  obtain ⟨hx, hb, hml, hown, hts, hr, hlocks, hE, hJ, hμ⟩ := id hCX
  obtain ⟨hd, hlen, hok⟩ := ok_at hμ hlk
  have hK := hE.1
  have hlsz : c.maxLocals = sl.size := by
    obtain ⟨-, -, lv, h1, -, -⟩ := hS.2.2.1
    rw [hml, h1.1]
  have hln : len = 1 := by simpa [isSw, lenI] using hlen
  subst hln
  have he : (if kk = 0 then aC (pc + 1) ls (vD FP.dconst0 :: st) hp else none) = some (.inl ((pc', ls', st'), hp')) := he
  by_cases h0 : kk = 0
  · rw [if_pos h0] at he
    obtain ⟨rfl, rfl, rfl, rfl⟩ := aC_inj he
    subst h0
    exact lv_dconst0 hx hb hd (k _ _ _ (st_push hS trivial))
  · rw [if_neg h0] at he
    cases he
set_option maxHeartbeats 400000 in
theorem sx_fconst (hCX : CXX p l B D G adK adV μ s m sargs meth c) (hRf : d ≤ R.frames) (hRl : 36 * d ≤ R.locals) {kk : Fin 3} (hlk : lkp pc (codeOf μ) = some (p0, .fconst kk, len, a, b, z)) (he : exec1 (.fconst kk) len a b z d pc ls st hp = some (.inl ((pc', ls', st'), hp')))
    (hS : STt B D G adK s sl (maxOf μ) ls st hp H locs) (k : KKs p l e R s m sargs below meth c Q B D G adK (maxOf μ) pc' ls' st' hp') : W p l e R s m sargs below meth c H locs 0 0 Q (F0 m pc sl (st.map (toV B adK))) := by
  obtain ⟨hx, hb, hml, hown, hts, hr, hlocks, hE, hJ, hμ⟩ := id hCX
  obtain ⟨hd, hlen, hok⟩ := ok_at hμ hlk
  have hK := hE.1
  have hlsz : c.maxLocals = sl.size := by
    obtain ⟨-, -, lv, h1, -, -⟩ := hS.2.2.1
    rw [hml, h1.1]
  have hln : len = 1 := by simpa [isSw, lenI] using hlen
  subst hln
  have he : (if kk = 0 then aC (pc + 1) ls (vF FP.fconst0 :: st) hp else none) = some (.inl ((pc', ls', st'), hp')) := he
  by_cases h0 : kk = 0
  · rw [if_pos h0] at he
    obtain ⟨rfl, rfl, rfl, rfl⟩ := aC_inj he
    subst h0
    exact lv_fconst0 hx hb hd (k _ _ _ (st_push hS trivial))
  · rw [if_neg h0] at he
    cases he
set_option maxHeartbeats 400000 in
theorem sx_ldc (hCX : CXX p l B D G adK adV μ s m sargs meth c) (hRf : d ≤ R.frames) (hRl : 36 * d ≤ R.locals) {idx : Nat} (hlk : lkp pc (codeOf μ) = some (p0, .ldc idx, len, a, b, z)) (he : exec1 (.ldc idx) len a b z d pc ls st hp = some (.inl ((pc', ls', st'), hp')))
    (hS : STt B D G adK s sl (maxOf μ) ls st hp H locs) (k : KKs p l e R s m sargs below meth c Q B D G adK (maxOf μ) pc' ls' st' hp') : W p l e R s m sargs below meth c H locs 0 0 Q (F0 m pc sl (st.map (toV B adK))) := by
  obtain ⟨hx, hb, hml, hown, hts, hr, hlocks, hE, hJ, hμ⟩ := id hCX
  obtain ⟨hd, hlen, hok⟩ := ok_at hμ hlk
  have hK := hE.1
  have hlsz : c.maxLocals = sl.size := by
    obtain ⟨-, -, lv, h1, -, -⟩ := hS.2.2.1
    rw [hml, h1.1]
  have hln : len = 2 := by simpa [isSw, lenI] using hlen
  subst hln
  obtain ⟨rfl, rfl, rfl, rfl⟩ := aC_inj (show aC (pc + 2) ls (vR (20, a, 0) :: st) hp = _ from he)
  have hm : (clOf μ, idx, a) ∈ lnkL := by
    have h := hok
    unfold okL at h
    simpa only [decide_eq_true_eq] using h
  have ha : a < 5 := lnkL_lt _ hm
  have hZ : vk_R (clsN (clOf μ)) idx (txS a) (adK a) s := hE.2.2.2.2.1 (clOf μ, idx, a) hm
  exact va_ldcS hx hb hown hZ hd (k _ _ _ (st_push hS (Or.inl ⟨rfl, ha⟩ : okR (20, a, 0))))
set_option maxHeartbeats 400000 in
theorem sx_tableswitch (hCX : CXX p l B D G adK adV μ s m sargs meth c) (hRf : d ≤ R.frames) (hRl : 36 * d ≤ R.locals) {dflt : Int} {lo : Int} {hi : Int} {offs : Array Int} (hlk : lkp pc (codeOf μ) = some (p0, .tableswitch dflt lo hi offs, len, a, b, z)) (he : exec1 (.tableswitch dflt lo hi offs) len a b z d pc ls st hp = some (.inl ((pc', ls', st'), hp')))
    (hS : STt B D G adK s sl (maxOf μ) ls st hp H locs) (k : KKs p l e R s m sargs below meth c Q B D G adK (maxOf μ) pc' ls' st' hp') : W p l e R s m sargs below meth c H locs 0 0 Q (F0 m pc sl (st.map (toV B adK))) := by
  obtain ⟨hx, hb, hml, hown, hts, hr, hlocks, hE, hJ, hμ⟩ := id hCX
  obtain ⟨hd, hlen, hok⟩ := ok_at hμ hlk
  have hK := hE.1
  have hlsz : c.maxLocals = sl.size := by
    obtain ⟨-, -, lv, h1, -, -⟩ := hS.2.2.1
    rw [hml, h1.1]
  rcases st with _ | ⟨x | _, st⟩
  all_goals try cases (show (none : Option ACT) = some (.inl ((pc', ls', st'), hp')) from he)
  exact tsw_sim (a := clOf μ) (z := z) hx hb hd (show okL (clOf μ) (maxOf μ) none pc (.tableswitch dflt lo hi offs) 0 0 z = true from hok) he (st_pop hS) k
set_option maxHeartbeats 400000 in
theorem sx_lookupswitch (hCX : CXX p l B D G adK adV μ s m sargs meth c) (hRf : d ≤ R.frames) (hRl : 36 * d ≤ R.locals) {dflt : Int} {ps : Array (Int × Int)} (hlk : lkp pc (codeOf μ) = some (p0, .lookupswitch dflt ps, len, a, b, z)) (he : exec1 (.lookupswitch dflt ps) len a b z d pc ls st hp = some (.inl ((pc', ls', st'), hp')))
    (hS : STt B D G adK s sl (maxOf μ) ls st hp H locs) (k : KKs p l e R s m sargs below meth c Q B D G adK (maxOf μ) pc' ls' st' hp') : W p l e R s m sargs below meth c H locs 0 0 Q (F0 m pc sl (st.map (toV B adK))) := by
  obtain ⟨hx, hb, hml, hown, hts, hr, hlocks, hE, hJ, hμ⟩ := id hCX
  obtain ⟨hd, hlen, hok⟩ := ok_at hμ hlk
  have hK := hE.1
  have hlsz : c.maxLocals = sl.size := by
    obtain ⟨-, -, lv, h1, -, -⟩ := hS.2.2.1
    rw [hml, h1.1]
  rcases st with _ | ⟨x | _, st⟩
  all_goals try cases (show (none : Option ACT) = some (.inl ((pc', ls', st'), hp')) from he)
  exact lsw_sim (a := clOf μ) (z := z) hx hb hd (show okL (clOf μ) (maxOf μ) none pc (.lookupswitch dflt ps) 0 0 z = true from hok) he (st_pop hS) k
set_option maxHeartbeats 400000 in
theorem sx_invokevirtual (hCX : CXX p l B D G adK adV μ s m sargs meth c) (hRf : d ≤ R.frames) (hRl : 36 * d ≤ R.locals) {idx : Nat} (hlk : lkp pc (codeOf μ) = some (p0, .invokevirtual idx, len, a, b, z)) (he : exec1 (.invokevirtual idx) len a b z d pc ls st hp = some (.inl ((pc', ls', st'), hp')))
    (hS : STt B D G adK s sl (maxOf μ) ls st hp H locs) (k : KKs p l e R s m sargs below meth c Q B D G adK (maxOf μ) pc' ls' st' hp') : W p l e R s m sargs below meth c H locs 0 0 Q (F0 m pc sl (st.map (toV B adK))) := by
  obtain ⟨hx, hb, hml, hown, hts, hr, hlocks, hE, hJ, hμ⟩ := id hCX
  obtain ⟨hd, hlen, hok⟩ := ok_at hμ hlk
  have hK := hE.1
  have hlsz : c.maxLocals = sl.size := by
    obtain ⟨-, -, lv, h1, -, -⟩ := hS.2.2.1
    rw [hml, h1.1]
  have hln : len = 3 := by simpa [isSw, lenI] using hlen
  subst hln
  exact bv_sim hCX hRf hRl hd hok he hS k
set_option maxHeartbeats 400000 in
theorem sx_invokestatic (hCX : CXX p l B D G adK adV μ s m sargs meth c) (hRf : d ≤ R.frames) (hRl : 36 * d ≤ R.locals) {idx : Nat} (hlk : lkp pc (codeOf μ) = some (p0, .invokestatic idx, len, a, b, z)) (he : exec1 (.invokestatic idx) len a b z d pc ls st hp = some (.inl ((pc', ls', st'), hp')))
    (hS : STt B D G adK s sl (maxOf μ) ls st hp H locs) (k : KKs p l e R s m sargs below meth c Q B D G adK (maxOf μ) pc' ls' st' hp') : W p l e R s m sargs below meth c H locs 0 0 Q (F0 m pc sl (st.map (toV B adK))) := by
  obtain ⟨hx, hb, hml, hown, hts, hr, hlocks, hE, hJ, hμ⟩ := id hCX
  obtain ⟨hd, hlen, hok⟩ := ok_at hμ hlk
  have hK := hE.1
  have hlsz : c.maxLocals = sl.size := by
    obtain ⟨-, -, lv, h1, -, -⟩ := hS.2.2.1
    rw [hml, h1.1]
  have hln : len = 3 := by simpa [isSw, lenI] using hlen
  subst hln
  exact bs_sim hCX hRf hRl hlsz hd hok he hS k
set_option maxHeartbeats 400000 in
theorem sx_ireturn (hCX : CXX p l B D G adK adV μ s m sargs meth c) (hRf : d ≤ R.frames) (hRl : 36 * d ≤ R.locals) (hlk : lkp pc (codeOf μ) = some (p0, .ireturn, len, a, b, z)) (he : exec1 (.ireturn) len a b z d pc ls st hp = some (.inl ((pc', ls', st'), hp')))
    (hS : STt B D G adK s sl (maxOf μ) ls st hp H locs) (k : KKs p l e R s m sargs below meth c Q B D G adK (maxOf μ) pc' ls' st' hp') : W p l e R s m sargs below meth c H locs 0 0 Q (F0 m pc sl (st.map (toV B adK))) := by
  obtain ⟨hx, hb, hml, hown, hts, hr, hlocks, hE, hJ, hμ⟩ := id hCX
  obtain ⟨hd, hlen, hok⟩ := ok_at hμ hlk
  have hK := hE.1
  have hlsz : c.maxLocals = sl.size := by
    obtain ⟨-, -, lv, h1, -, -⟩ := hS.2.2.1
    rw [hml, h1.1]
  exfalso
  rcases st with _ | ⟨x | _, _ | ⟨_, _⟩⟩
  all_goals try cases (show (none : Option ACT) = some (.inl ((pc', ls', st'), hp')) from he)
  have he : (if a = 1 then (if isB x = true then aRet (some (vI x)) else none) else aRet (some (vI x))) = some (.inl ((pc', ls', st'), hp')) := he
  split at he
  · split at he
    · cases he
    · cases he
  · cases he
set_option maxHeartbeats 400000 in
theorem sx_areturn (hCX : CXX p l B D G adK adV μ s m sargs meth c) (hRf : d ≤ R.frames) (hRl : 36 * d ≤ R.locals) (hlk : lkp pc (codeOf μ) = some (p0, .areturn, len, a, b, z)) (he : exec1 (.areturn) len a b z d pc ls st hp = some (.inl ((pc', ls', st'), hp')))
    (hS : STt B D G adK s sl (maxOf μ) ls st hp H locs) (k : KKs p l e R s m sargs below meth c Q B D G adK (maxOf μ) pc' ls' st' hp') : W p l e R s m sargs below meth c H locs 0 0 Q (F0 m pc sl (st.map (toV B adK))) := by
  obtain ⟨hx, hb, hml, hown, hts, hr, hlocks, hE, hJ, hμ⟩ := id hCX
  obtain ⟨hd, hlen, hok⟩ := ok_at hμ hlk
  have hK := hE.1
  have hlsz : c.maxLocals = sl.size := by
    obtain ⟨-, -, lv, h1, -, -⟩ := hS.2.2.1
    rw [hml, h1.1]
  exfalso
  rcases st with _ | ⟨_ | r | _, _ | ⟨_, _⟩⟩
  all_goals try cases (show (none : Option ACT) = some (.inl ((pc', ls', st'), hp')) from he)
  cases (show aRet (some (vR r)) = some (.inl ((pc', ls', st'), hp')) from he)
set_option maxHeartbeats 400000 in
theorem sx_dreturn (hCX : CXX p l B D G adK adV μ s m sargs meth c) (hRf : d ≤ R.frames) (hRl : 36 * d ≤ R.locals) (hlk : lkp pc (codeOf μ) = some (p0, .dreturn, len, a, b, z)) (he : exec1 (.dreturn) len a b z d pc ls st hp = some (.inl ((pc', ls', st'), hp')))
    (hS : STt B D G adK s sl (maxOf μ) ls st hp H locs) (k : KKs p l e R s m sargs below meth c Q B D G adK (maxOf μ) pc' ls' st' hp') : W p l e R s m sargs below meth c H locs 0 0 Q (F0 m pc sl (st.map (toV B adK))) := by
  obtain ⟨hx, hb, hml, hown, hts, hr, hlocks, hE, hJ, hμ⟩ := id hCX
  obtain ⟨hd, hlen, hok⟩ := ok_at hμ hlk
  have hK := hE.1
  have hlsz : c.maxLocals = sl.size := by
    obtain ⟨-, -, lv, h1, -, -⟩ := hS.2.2.1
    rw [hml, h1.1]
  exfalso
  rcases st with _ | ⟨_ | _ | x | _, _ | ⟨_, _⟩⟩
  all_goals try cases (show (none : Option ACT) = some (.inl ((pc', ls', st'), hp')) from he)
  cases (show aRet (some (vD x)) = some (.inl ((pc', ls', st'), hp')) from he)
set_option maxHeartbeats 400000 in
theorem sx_freturn (hCX : CXX p l B D G adK adV μ s m sargs meth c) (hRf : d ≤ R.frames) (hRl : 36 * d ≤ R.locals) (hlk : lkp pc (codeOf μ) = some (p0, .freturn, len, a, b, z)) (he : exec1 (.freturn) len a b z d pc ls st hp = some (.inl ((pc', ls', st'), hp')))
    (hS : STt B D G adK s sl (maxOf μ) ls st hp H locs) (k : KKs p l e R s m sargs below meth c Q B D G adK (maxOf μ) pc' ls' st' hp') : W p l e R s m sargs below meth c H locs 0 0 Q (F0 m pc sl (st.map (toV B adK))) := by
  obtain ⟨hx, hb, hml, hown, hts, hr, hlocks, hE, hJ, hμ⟩ := id hCX
  obtain ⟨hd, hlen, hok⟩ := ok_at hμ hlk
  have hK := hE.1
  have hlsz : c.maxLocals = sl.size := by
    obtain ⟨-, -, lv, h1, -, -⟩ := hS.2.2.1
    rw [hml, h1.1]
  exfalso
  rcases st with _ | ⟨_ | _ | _ | x, _ | ⟨_, _⟩⟩
  all_goals try cases (show (none : Option ACT) = some (.inl ((pc', ls', st'), hp')) from he)
  cases (show aRet (some (vF x)) = some (.inl ((pc', ls', st'), hp')) from he)
set_option maxHeartbeats 400000 in
theorem sx_return_ (hCX : CXX p l B D G adK adV μ s m sargs meth c) (hRf : d ≤ R.frames) (hRl : 36 * d ≤ R.locals) (hlk : lkp pc (codeOf μ) = some (p0, .return_, len, a, b, z)) (he : exec1 (.return_) len a b z d pc ls st hp = some (.inl ((pc', ls', st'), hp')))
    (hS : STt B D G adK s sl (maxOf μ) ls st hp H locs) (k : KKs p l e R s m sargs below meth c Q B D G adK (maxOf μ) pc' ls' st' hp') : W p l e R s m sargs below meth c H locs 0 0 Q (F0 m pc sl (st.map (toV B adK))) := by
  obtain ⟨hx, hb, hml, hown, hts, hr, hlocks, hE, hJ, hμ⟩ := id hCX
  obtain ⟨hd, hlen, hok⟩ := ok_at hμ hlk
  have hK := hE.1
  have hlsz : c.maxLocals = sl.size := by
    obtain ⟨-, -, lv, h1, -, -⟩ := hS.2.2.1
    rw [hml, h1.1]
  exfalso
  rcases st with _ | ⟨_, _⟩
  all_goals try cases (show (none : Option ACT) = some (.inl ((pc', ls', st'), hp')) from he)
  cases (show aRet none = some (.inl ((pc', ls', st'), hp')) from he)
set_option maxHeartbeats 400000 in
theorem sx_new (hCX : CXX p l B D G adK adV μ s m sargs meth c) (hRf : d ≤ R.frames) (hRl : 36 * d ≤ R.locals) {idx : Nat} (hlk : lkp pc (codeOf μ) = some (p0, .new idx, len, a, b, z)) (he : exec1 (.new idx) len a b z d pc ls st hp = some (.inl ((pc', ls', st'), hp')))
    (hS : STt B D G adK s sl (maxOf μ) ls st hp H locs) (k : KKs p l e R s m sargs below meth c Q B D G adK (maxOf μ) pc' ls' st' hp') : W p l e R s m sargs below meth c H locs 0 0 Q (F0 m pc sl (st.map (toV B adK))) := by
  obtain ⟨hx, hb, hml, hown, hts, hr, hlocks, hE, hJ, hμ⟩ := id hCX
  obtain ⟨hd, hlen, hok⟩ := ok_at hμ hlk
  have hK := hE.1
  have hlsz : c.maxLocals = sl.size := by
    obtain ⟨-, -, lv, h1, -, -⟩ := hS.2.2.1
    rw [hml, h1.1]
  exfalso
  have he : (match (generalizing := false) d, st with | _ + 6, [] => aThr a | _, _ => none) = some (.inl ((pc', ls', st'), hp')) := he
  split at he <;> cases he
theorem step_sim (hCX : CXX p l B D G adK adV μ s m sargs meth c) (hRf : d ≤ R.frames) (hRl : 36 * d ≤ R.locals) {i : Instr} (hlk : lkp pc (codeOf μ) = some (p0, i, len, a, b, z)) (he : exec1 i len a b z d pc ls st hp = some (.inl ((pc', ls', st'), hp')))
    (hS : STt B D G adK s sl (maxOf μ) ls st hp H locs) (k : KKs p l e R s m sargs below meth c Q B D G adK (maxOf μ) pc' ls' st' hp') : W p l e R s m sargs below meth c H locs 0 0 Q (F0 m pc sl (st.map (toV B adK))) := by
  cases i
  case aaload => exact sx_aaload hCX hRf hRl hlk he hS k
  case aload => exact sx_aload hCX hRf hRl hlk he hS k
  case aload_n => exact sx_aload_n hCX hRf hRl hlk he hS k
  case areturn => exact sx_areturn hCX hRf hRl hlk he hS k
  case arraylength => exact sx_arraylength hCX hRf hRl hlk he hS k
  case astore => exact sx_astore hCX hRf hRl hlk he hS k
  case astore_n => exact sx_astore_n hCX hRf hRl hlk he hS k
  case baload => exact sx_baload hCX hRf hRl hlk he hS k
  case bastore => exact sx_bastore hCX hRf hRl hlk he hS k
  case bipush => exact sx_bipush hCX hRf hRl hlk he hS k
  case dconst => exact sx_dconst hCX hRf hRl hlk he hS k
  case ddiv => exact sx_ddiv hCX hRf hRl hlk he hS k
  case dreturn => exact sx_dreturn hCX hRf hRl hlk he hS k
  case dup => exact sx_dup hCX hRf hRl hlk he hS k
  case dup2 => exact sx_dup2 hCX hRf hRl hlk he hS k
  case fconst => exact sx_fconst hCX hRf hRl hlk he hS k
  case fdiv => exact sx_fdiv hCX hRf hRl hlk he hS k
  case freturn => exact sx_freturn hCX hRf hRl hlk he hS k
  case getfield => exact sx_getfield hCX hRf hRl hlk he hS k
  case goto => exact sx_goto hCX hRf hRl hlk he hS k
  case i2d => exact sx_i2d hCX hRf hRl hlk he hS k
  case i2f => exact sx_i2f hCX hRf hRl hlk he hS k
  case iadd => exact sx_iadd hCX hRf hRl hlk he hS k
  case iaload => exact sx_iaload hCX hRf hRl hlk he hS k
  case iand => exact sx_iand hCX hRf hRl hlk he hS k
  case iastore => exact sx_iastore hCX hRf hRl hlk he hS k
  case iconst => exact sx_iconst hCX hRf hRl hlk he hS k
  case idiv => exact sx_idiv hCX hRf hRl hlk he hS k
  case if_icmp => exact sx_if_icmp hCX hRf hRl hlk he hS k
  case ifCond => exact sx_ifCond hCX hRf hRl hlk he hS k
  case ifnull => exact sx_ifnull hCX hRf hRl hlk he hS k
  case iinc => exact sx_iinc hCX hRf hRl hlk he hS k
  case iload => exact sx_iload hCX hRf hRl hlk he hS k
  case iload_n => exact sx_iload_n hCX hRf hRl hlk he hS k
  case imul => exact sx_imul hCX hRf hRl hlk he hS k
  case invokestatic => exact sx_invokestatic hCX hRf hRl hlk he hS k
  case invokevirtual => exact sx_invokevirtual hCX hRf hRl hlk he hS k
  case irem => exact sx_irem hCX hRf hRl hlk he hS k
  case ireturn => exact sx_ireturn hCX hRf hRl hlk he hS k
  case ishr => exact sx_ishr hCX hRf hRl hlk he hS k
  case istore => exact sx_istore hCX hRf hRl hlk he hS k
  case istore_n => exact sx_istore_n hCX hRf hRl hlk he hS k
  case isub => exact sx_isub hCX hRf hRl hlk he hS k
  case ldc => exact sx_ldc hCX hRf hRl hlk he hS k
  case lookupswitch => exact sx_lookupswitch hCX hRf hRl hlk he hS k
  case new => exact sx_new hCX hRf hRl hlk he hS k
  case pop => exact sx_pop hCX hRf hRl hlk he hS k
  case putfield => exact sx_putfield hCX hRf hRl hlk he hS k
  case return_ => exact sx_return_ hCX hRf hRl hlk he hS k
  case sipush => exact sx_sipush hCX hRf hRl hlk he hS k
  case tableswitch => exact sx_tableswitch hCX hRf hRl hlk he hS k
  all_goals cases (show (none : Option ACT) = some (.inl ((pc', ls', st'), hp')) from he)
end STEP2
