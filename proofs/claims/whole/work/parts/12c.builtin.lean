/-! ===== the library's own members ===== -/
section BUI
variable {p : Program} {l : Launch} {e : Env} {R : Room} {s : State} {m : MethodId} {sargs : Array Value} {below : List Frame} {meth : Method} {c : Code} {Q : State → Prop}
variable {B d μ nL pc len a b p0 : Nat} {D : va_G} {G : GG} {adK adV : Nat → Nat} {z : Int32} {cc : ByteArray}
variable {ls ls' : List (Option VL)} {st st' : List VL} {hp hp' : HP} {H : Heap} {locs : List Loc} {sl : Array Slot} {pc' : Nat}
theorem biW : ∀ w ∈ ([.static Lib.Math.max.name, .static Lib.Math.min.name, .static Lib.Math.abs.name, .initialized "java/lang/Math", .code Lib.Math.max.name Lib.Math.max.code 2 (some .int), .code Lib.Math.min.name Lib.Math.min.code 2 (some .int), .code Lib.Math.abs.name Lib.Math.abs.code 1 (some .int), .native arraycopyName, .static arraycopyName, .initialized "java/lang/System",
    .instanceMethod yJ0_length_8abf5, .selects RJ0 yJ0_length_8abf5 yJ0_length_8abf5, .initialized RJ0, .code yJ0_length_8abf5 cJ0_length_8abf5 1 (some .int), .instanceMethod yJ0_charAt_5068e, .selects RJ0 yJ0_charAt_5068e yJ0_charAt_5068e, .code yJ0_charAt_5068e cJ0_charAt_5068e 2 (some .char)] : List Jvm.Cond), w ∈ lwG := by
  have key : (([.static Lib.Math.max.name, .static Lib.Math.min.name, .static Lib.Math.abs.name, .initialized "java/lang/Math", .code Lib.Math.max.name Lib.Math.max.code 2 (some .int), .code Lib.Math.min.name Lib.Math.min.code 2 (some .int), .code Lib.Math.abs.name Lib.Math.abs.code 1 (some .int), .native arraycopyName, .static arraycopyName, .initialized "java/lang/System",
    .instanceMethod yJ0_length_8abf5, .selects RJ0 yJ0_length_8abf5 yJ0_length_8abf5, .initialized RJ0, .code yJ0_length_8abf5 cJ0_length_8abf5 1 (some .int), .instanceMethod yJ0_charAt_5068e, .selects RJ0 yJ0_charAt_5068e yJ0_charAt_5068e, .code yJ0_charAt_5068e cJ0_charAt_5068e 2 (some .char)] : List Jvm.Cond).all (fun w => decide (w ∈ tables_1) && goodWord w)) = true := by decide +kernel
  intro w hw
  have h := List.all_eq_true.mp key w hw
  simp only [Bool.and_eq_true, decide_eq_true_eq] at h
  exact inG h.1 h.2
theorem catS : ∀ (st : List VL), ((st.map (toV B adK)).map fun v => v.category).sum ≤ catL st
  | [] => Nat.le_refl _
  | .inl x :: st => by
    exact Nat.add_le_add_left (catS st) 1
  | .inr (.inl r) :: st => by
    exact Nat.add_le_add_left (catS st) 1
  | .inr (.inr (.inl x)) :: st => by
    exact Nat.add_le_add_left (catS st) 2
  | .inr (.inr (.inr x)) :: st => by
    exact Nat.add_le_add_left (catS st) 1
theorem bs_sim (hCX : CXX p l B D G adK adV μ s m sargs meth c) (hRf : d ≤ R.frames) (hRl : 36 * d ≤ R.locals) (hlsz : c.maxLocals = sl.size) {idx : Nat} (hd : decode (bytesOf μ) pc = .ok (.invokestatic idx, 3)) (hok : okL (clOf μ) (maxOf μ) (retOf μ) pc (.invokestatic idx) a b z = true)
    (he : exec1 (.invokestatic idx) 3 a b z d pc ls st hp = some (.inl ((pc', ls', st'), hp'))) (hS : STt B D G adK s sl (maxOf μ) ls st hp H locs)
    (k : KKs p l e R s m sargs below meth c Q B D G adK (maxOf μ) pc' ls' st' hp') : W p l e R s m sargs below meth c H locs 0 0 Q (F0 m pc sl (st.map (toV B adK))) := by
  obtain ⟨hx, hb, hml, hown, hts, hr, hlocks, hE, hJ, hμ⟩ := id hCX
  have hK := hE.1
  have hw : ∀ w ∈ lwG, w.before sargs s = true := hts
  have hlk : 1000 ≤ a → (wB (clOf μ, idx, a)).before sargs s = true := by
    intro ha
    unfold okL at hok
    simp only [if_pos ha, Bool.and_eq_true, decide_eq_true_eq] at hok
    exact hts _ (inG (lnkB_ok _ hok.2) rfl)
  replace he : (if a = 1000 then (match (generalizing := false) d, st with | _ + 1, .inl y :: .inl x :: st => if catL st ≤ 8 then aC (pc + 3) ls (vI (imax x y) :: st) hp else none | _, _ => none)
    else if a = 1001 then (match (generalizing := false) d, st with | _ + 1, .inl y :: .inl x :: st => if catL st ≤ 8 then aC (pc + 3) ls (vI (imin x y) :: st) hp else none | _, _ => none)
    else if a = 1002 then (match (generalizing := false) d, st with | _ + 1, .inl x :: st => if catL st ≤ 8 then aC (pc + 3) ls (vI (iabs x) :: st) hp else none | _, _ => none)
    else if a = 1003 then (match (generalizing := false) d, st with
      | _ + 2, .inl n :: .inl dp :: .inr (.inl r1) :: .inl sp :: .inr (.inl r0) :: st =>
        if r0.1 = 11 ∧ r1.1 = 11 ∧ ¬ r0 = r1 ∧ catL st ≤ 8 then (if sp = 0 ∧ dp = 0 ∧ ¬ n < 0 ∧ n.toNatClampNeg ≤ alen r0 ∧ n.toNatClampNeg ≤ alen r1 then aC (pc + 3) ls st (cpA hp r0 r1 0 0 n.toNatClampNeg) else none) else none
      | _, _ => none)
    else if b ≤ st.length ∧ catL (st.drop b) ≤ 8 then aCall a (st.take b).reverse (st.drop b) else none) = some (.inl ((pc', ls', st'), hp')) := he
  by_cases h0 : a = 1000
  · rw [if_pos h0] at he
    have hl := hlk (by omega)
    subst h0
    split at he
    · rename_i d0 y x st0
      by_cases h4 : catL st0 ≤ 8
      · rw [if_pos h4] at he
        obtain ⟨rfl, rfl, rfl, rfl⟩ := aC_inj he
        have hc := catS (B := B) (adK := adK) st0
        exact va_mmax hx hb hlsz hown hl (hw _ (biW _ (by simp))) (hw _ (biW _ (by simp))) (hw _ (biW _ (by simp))) (by omega) (by omega) (Nat.zero_le _) (Nat.zero_le _) hd (k _ _ _ (st_push (st_pop (st_pop hS)) trivial))
      · rw [if_neg h4] at he
        cases he
    · cases he
  · rw [if_neg h0] at he
    by_cases h1 : a = 1001
    · rw [if_pos h1] at he
      have hl := hlk (by omega)
      subst h1
      split at he
      · rename_i d0 y x st0
        by_cases h4 : catL st0 ≤ 8
        · rw [if_pos h4] at he
          obtain ⟨rfl, rfl, rfl, rfl⟩ := aC_inj he
          have hc := catS (B := B) (adK := adK) st0
          exact va_mmin hx hb hlsz hown hl (hw _ (biW _ (by simp))) (hw _ (biW _ (by simp))) (hw _ (biW _ (by simp))) (by omega) (by omega) (Nat.zero_le _) (Nat.zero_le _) hd (k _ _ _ (st_push (st_pop (st_pop hS)) trivial))
        · rw [if_neg h4] at he
          cases he
      · cases he
    · rw [if_neg h1] at he
      by_cases h2 : a = 1002
      · rw [if_pos h2] at he
        have hl := hlk (by omega)
        subst h2
        split at he
        · rename_i d0 x st0
          by_cases h4 : catL st0 ≤ 8
          · rw [if_pos h4] at he
            obtain ⟨rfl, rfl, rfl, rfl⟩ := aC_inj he
            have hc := catS (B := B) (adK := adK) st0
            exact va_mabs hx hb hlsz hown hl (hw _ (biW _ (by simp))) (hw _ (biW _ (by simp))) (hw _ (biW _ (by simp))) (by omega) (by omega) (Nat.zero_le _) (Nat.zero_le _) hd (k _ _ _ (st_push (st_pop hS) trivial))
          · rw [if_neg h4] at he
            cases he
        · cases he
      · rw [if_neg h2] at he
        by_cases h3 : a = 1003
        · rw [if_pos h3] at he
          have hl := hlk (by omega)
          subst h3
          split at he
          · rename_i d0 n dp r1 sp r0 st0
            by_cases h4 : r0.1 = 11 ∧ r1.1 = 11 ∧ ¬ r0 = r1 ∧ catL st0 ≤ 8
            · rw [if_pos h4] at he
              by_cases h5 : sp = 0 ∧ dp = 0 ∧ ¬ n < 0 ∧ n.toNatClampNeg ≤ alen r0 ∧ n.toNatClampNeg ≤ alen r1
              · rw [if_pos h5] at he
                obtain ⟨rfl, rfl, rfl, rfl⟩ := aC_inj he
                obtain ⟨g0, g1, gne, g4⟩ := h4
                obtain ⟨rfl, rfl, gn, gl0, gl1⟩ := h5
                have hc := catS (B := B) (adK := adK) st'
                have q0 : r0.1 ≠ 20 := by omega
                have q1 : r1.1 ≠ 20 := by omega
                have hA0 : r0 ∈ allR := okR_in (hS.2.2.2 _ (by simp) : okV (vR r0)) q0
                have hA1 : r1 ∈ allR := okR_in (hS.2.2.2 _ (by simp) : okV (vR r1)) q1
                have e0 := World_get (B := B) (G := G) (hp := hp) hA0
                have e1 := World_get (B := B) (G := G) (hp := hp) hA1
                rw [ent_int g0] at e0
                rw [ent_int g1] at e1
                show W p l e R s m sargs below meth c H locs 0 0 Q (F0 m pc sl (.int n :: .int 0 :: toV B adK (vR r1) :: .int 0 :: toV B adK (vR r0) :: st'.map (toV B adK)))
                rw [toV_ref q0, toV_ref q1]
                have z0 : (0 : Int32).toNatClampNeg = 0 := by decide
                refine va_copyi hx hb hlsz hown hl (hw _ (biW _ (by simp))) (hw _ (biW _ (by simp))) (hw _ (biW _ (by simp))) hK hS.1 World_D hS.2.1 (adr r0) (adr r1) 0 0 e0 e1 rfl rfl rfl (by decide) (by decide) gn (by rw [z0]; omega) (by rw [z0]; omega) (fun _ _ => rfl) (by omega) ?_ hd (fun H1 locs1 h1 _ h2 => k _ _ _ ⟨?_, h2, hS.2.2.1, fun w hw => hS.2.2.2 w (by simp [hw])⟩)
                · show _ + (nativeFrameWords "java/lang/System" "arraycopy" 5 + 11) ≤ _
                  have hn : nativeFrameWords "java/lang/System" "arraycopy" 5 = 7 := by decide +kernel
                  rw [hn]
                  omega
                · have hE1 : ent B G (cpA hp r0 r1 0 0 n.toNatClampNeg) r1 = .inl (G.1, alen r1, .inl (va_cpy (hp r0) (hp r1) (0 : Int32).toNatClampNeg (0 : Int32).toNatClampNeg n.toNatClampNeg)) := by
                    rw [ent_int g1, z0]
                    refine congrArg (fun f => Sum.inl (G.1, alen r1, Sum.inl f)) (funext fun j => ?_)
                    simp [cpA, va_cpy]
                  rw [← hE1] at h1
                  rw [World_set hA1 (fun r' _ hne => ent_off (fun j => by simp [cpA, hne]))] at h1
                  exact h1
              · rw [if_neg h5] at he
                cases he
            · rw [if_neg h4] at he
              cases he
          · cases he
        · rw [if_neg h3] at he
          by_cases h6 : b ≤ st.length ∧ catL (st.drop b) ≤ 8
          · rw [if_pos h6] at he
            cases he
          · rw [if_neg h6] at he
            cases he
/-- behind a call that writes nothing -/
theorem ret_call {x : Value} {v : VL} {rest : List VL} {st0 : List Value} (hv : toV B adK v = x)
    (hr : va_Run p l e R s m sargs below meth c H locs 0 0 0 0 (F0 m pc sl st0) (rest.map (toV B adK)) (fun (st : State) (oc : Outcome) (t : State) => oc = .returned (some x) ∧ t.heap = st.heap) (fun _ => False))
    (hS : STt B D G adK s sl nL ls rest hp H locs) (k : KKs p l e R s m sargs below meth c Q B D G adK nL (pc + 3) ls (v :: rest) hp) (hk : okV v) : W p l e R s m sargs below meth c H locs 0 0 Q (F0 m pc sl st0) := by
  intro T hT X
  obtain ⟨w, st₀, t, T', L, h0, X', hL, e1, e2, ⟨hw, hh⟩, stp⟩ := hr T hT X
  cases hw
  have hH : T'.heap = H := by rw [e1, hh, h0]
  have hS2 : STt B D G adK s sl nL ls (v :: rest) hp H (locs ++ L) := by
    refine ⟨hS.1, ⟨hS.2.1.1, hS.2.1.2.1, fun q hq => ?_⟩, hS.2.2.1, (st_push hS hk).2.2.2⟩
    rcases List.mem_append.mp hq with h | h
    · exact hS.2.1.2.2 q h
    · exact (hL q h).elim
  obtain ⟨t2, a1, b1⟩ := k H (locs ++ L) sl hS2 T' hH X'
  refine ⟨t2, stp t2 ?_, b1⟩
  rw [List.map_cons, hv] at a1
  exact a1
theorem bv_sim (hCX : CXX p l B D G adK adV μ s m sargs meth c) (hRf : d ≤ R.frames) (hRl : 36 * d ≤ R.locals) {idx : Nat} (hd : decode (bytesOf μ) pc = .ok (.invokevirtual idx, 3)) (hok : okL (clOf μ) (maxOf μ) (retOf μ) pc (.invokevirtual idx) a b z = true)
    (he : exec1 (.invokevirtual idx) 3 a b z d pc ls st hp = some (.inl ((pc', ls', st'), hp'))) (hS : STt B D G adK s sl (maxOf μ) ls st hp H locs)
    (k : KKs p l e R s m sargs below meth c Q B D G adK (maxOf μ) pc' ls' st' hp') : W p l e R s m sargs below meth c H locs 0 0 Q (F0 m pc sl (st.map (toV B adK))) := by
  obtain ⟨hx, hb, hml, hown, hts, hr, hlocks, hE, hJ, hμ⟩ := id hCX
  have hlsz : sl.size = maxOf μ := by
    obtain ⟨-, -, lv, h1, -, -⟩ := hS.2.2.1
    exact h1.1
  have hlk : a = 1004 ∨ a = 1005 → (wB (clOf μ, idx, a)).before sargs s = true := by
    intro ha
    unfold okL at hok
    simp only [if_pos ha, decide_eq_true_eq] at hok
    exact hts _ (inG (lnkB_ok _ hok) rfl)
  have recv : ∀ w, w < 5 → ∃ cellB : Cell, H[adK w]? = some cellB ∧ cellB.vm.isStatics = false ∧ s.vm.findClass RJ0 = some cellB.cls := by
    intro w hw
    exact vk_recv hE.2.2.2.1 hw hS.2.1
  have henv : ∀ U : State, U.heap = H → s.WarmedH U.vm → ENV B D G adK adV U := fun U hU hW => hE.warm hW (fun q h1 h2 => by rw [hU]; exact hS.2.1.2.1 q h1 h2)
  have blind : ∀ (U : State) (g : JFrame) (mk : MethodId) (a : Array Value), ENV B D G adK adV U → ENV B D G adK adV (U.calling g mk a) := fun U g mk a q => q.warm (State.WarmedH.refl U) (fun _ _ _ => rfl)
  replace he : (if a = 1004 then (match (generalizing := false) d, st with | _ + 5, .inr (.inl r) :: st => if r.1 = 20 ∧ catL st ≤ 8 then aC (pc + 3) ls (vI (nI (txt r.2.1).length) :: st) hp else none | _, _ => none)
    else if a = 1005 then (match (generalizing := false) d, st with | _ + 5, .inl j :: .inr (.inl r) :: st => if r.1 = 20 ∧ catL st ≤ 8 then (if inb j (txt r.2.1).length = true then aC (pc + 3) ls (vI ((txt r.2.1).getD j.toNatClampNeg 0) :: st) hp else none) else none | _, _ => none)
    else (match (generalizing := false) st.drop (b % 16 - 1) with | .inr (.inl r) :: rest => if r.1 = b / 16 ∧ 1 ≤ b % 16 ∧ catL rest ≤ 8 then aCall a (vR r :: (st.take (b % 16 - 1)).reverse) rest else none | _ => none)) = some (.inl ((pc', ls', st'), hp')) := he
  by_cases h0 : a = 1004
  · rw [if_pos h0] at he
    have hl := hlk (Or.inl h0)
    subst h0
    split at he
    · rename_i d0 r st0
      by_cases h4 : r.1 = 20 ∧ catL st0 ≤ 8
      · rw [if_pos h4] at he
        obtain ⟨rfl, rfl, rfl, rfl⟩ := aC_inj he
        have hc := catS (B := B) (adK := adK) st0
        have hr5 : r.2.1 < 5 := by
          rcases (hS.2.2.2 _ List.mem_cons_self : okR r) with h | h
          · exact h.2
          · exact absurd h4.1 h.1
        have hrV : toV B adK (vR r) = .ref (adK r.2.1) := by
          show Value.ref (if r.1 = 20 then adK r.2.1 else B + adr r) = _
          rw [if_pos h4.1]
        have hC : CallW R s sargs (clsN (clOf μ)) RJ0 idx yJ0_length_8abf5 cJ0_length_8abf5 1 (some .int) (Jvm.Cond.code yJ0_length_8abf5 cJ0_length_8abf5 1 (some .int) :: lwG) (rmD 4) 0 0 0 :=
          ⟨callB_of 0 hts (fun w hw => (List.mem_cons.mp hw).elim (fun e => by rw [e]; exact ⟨biW _ (by simp), Or.inl rfl⟩) (fun h => lwG_good w h)) rfl rfl rfl (hts (.initialized RJ0) (biW _ (by simp))) hl (by decide +kernel) ⟨by show 4 + 1 ≤ _; omega, by show 8 + (1 + 11) + 36 * 4 ≤ _; omega⟩, hts _ (biW _ (by simp)), hts _ (biW _ (by simp))⟩
        show W p l e R s m sargs below meth c H locs 0 0 Q (F0 m pc sl (toV B adK (vR r) :: st0.map (toV B adK)))
        rw [hrV]
        refine ret_call (v := vI (nI (txt r.2.1).length)) (x := .int (nI (txt r.2.1).length)) rfl (va_runV (As := []) (rest := st0.map (toV B adK)) ⟨hx, hb, hml, hown, hts⟩ (hJ.1 r.2.1 hr5) hC ⟨fun a U g mk q => ⟨q.1, blind _ _ _ _ q.2⟩, recv _ hr5, fun U hU hW => ⟨rfl, henv U hU hW⟩⟩ rfl rfl hlsz rfl (lv_room (by omega)) hd ⟨Nat.zero_le _, Nat.zero_le _⟩) (st_pop hS) k trivial
      · rw [if_neg h4] at he
        cases he
    · cases he
  · rw [if_neg h0] at he
    by_cases h1 : a = 1005
    · rw [if_pos h1] at he
      have hl := hlk (Or.inr h1)
      subst h1
      split at he
      · rename_i d0 j r st0
        by_cases h4 : r.1 = 20 ∧ catL st0 ≤ 8
        · rw [if_pos h4] at he
          by_cases h5 : inb j (txt r.2.1).length = true
          · rw [if_pos h5] at he
            obtain ⟨rfl, rfl, rfl, rfl⟩ := aC_inj he
            have hc := catS (B := B) (adK := adK) st0
            have hr5 : r.2.1 < 5 := by
              rcases (hS.2.2.2 (vR r) (by simp) : okR r) with h | h
              · exact h.2
              · exact absurd h4.1 h.1
            have hrV : toV B adK (vR r) = .ref (adK r.2.1) := by
              show Value.ref (if r.1 = 20 then adK r.2.1 else B + adr r) = _
              rw [if_pos h4.1]
            have hlen9 : (txt r.2.1).length ≤ 7 := by
              have : ∀ w, w < 5 → (txt w).length ≤ 7 := by decide
              exact this _ hr5
            obtain ⟨j0, hj0, rfl⟩ := vp_in_of (inb_in h5) (by omega)
            have hjc : (nI j0).toNatClampNeg = j0 := nI_clamp (by omega)
            rw [hjc] at k
            have hC : CallW R s sargs (clsN (clOf μ)) RJ0 idx yJ0_charAt_5068e cJ0_charAt_5068e 2 (some .char) (Jvm.Cond.code yJ0_charAt_5068e cJ0_charAt_5068e 2 (some .char) :: lwG) (rmD 4) 0 0 1 :=
              ⟨callB_of 1 hts (fun w hw => (List.mem_cons.mp hw).elim (fun e => by rw [e]; exact ⟨biW _ (by simp), Or.inl rfl⟩) (fun h => lwG_good w h)) rfl rfl rfl (hts (.initialized RJ0) (biW _ (by simp))) hl (by decide +kernel) ⟨by show 4 + 1 ≤ _; omega, by show 8 + (2 + 11) + 36 * 4 ≤ _; omega⟩, hts _ (biW _ (by simp)), hts _ (biW _ (by simp))⟩
            show W p l e R s m sargs below meth c H locs 0 0 Q (F0 m pc sl (.int (nI j0) :: toV B adK (vR r) :: st0.map (toV B adK)))
            rw [hrV]
            refine ret_call (v := vI ((txt r.2.1).getD j0 0)) (x := .int ((txt r.2.1).getD j0 0)) rfl (va_runV (As := [.int (nI j0)]) (rest := st0.map (toV B adK)) ⟨hx, hb, hml, hown, hts⟩ (hJ.2 r.2.1 j0 hr5 hj0) hC ⟨fun a U g mk q => ⟨q.1, blind _ _ _ _ q.2⟩, recv _ hr5, fun U hU hW => ⟨rfl, henv U hU hW⟩⟩ rfl rfl hlsz rfl (lv_room (by omega)) hd ⟨Nat.zero_le _, Nat.zero_le _⟩) (st_pop (st_pop hS)) k trivial
          · rw [if_neg h5] at he
            cases he
        · rw [if_neg h4] at he
          cases he
      · cases he
    · rw [if_neg h1] at he
      split at he
      · rename_i r rest hq
        by_cases h6 : r.1 = b / 16 ∧ 1 ≤ b % 16 ∧ catL rest ≤ 8
        · rw [if_pos h6] at he
          cases he
        · rw [if_neg h6] at he
          cases he
      · cases he
end BUI
