section SIM
variable {l : Launch} {B : Nat} {D : va_G} {G : GG} {adK adV : Nat → Nat}
theorem lkp_lt {pc : Nat} {C : List EN} {x : EN} (h : lkp pc C = some x) : x ∈ C := (lkp_in h).1
/-- what a call needs of the words -/
theorem callB_my {R : Room} {s : State} {sargs : Array Value} {own : String} {idx μ d : Nat} (hμ : μ < 290) (hts : ∀ w ∈ lwG, w.before sargs s = true) (hl : (Jvm.Cond.methodLink own idx (nameOf μ)).before sargs s = true) (hRf : d + 1 ≤ R.frames) (hRl : 36 * (d + 1) ≤ R.locals) :
    CallB R s sargs own idx (nameOf μ) (bytesOf μ) (maxOf μ) (retOf μ) (wsOf μ) (rmD d) 0 0 (mus μ).2.2 := by
  obtain ⟨w1, w2, w3, w4, w5, w6⟩ := okW_at hμ
  obtain ⟨d1, d2, d3, d4⟩ := okD_at hμ
  refine callB_of (mus μ).2.2 hts (fun w hw => ?_) rfl rfl rfl (by rw [w1]; exact hts _ d2) hl ⟨w3.1, w3.2, w4⟩ ⟨hRf, by show 8 + (maxOf μ + 11) + 36 * d ≤ R.locals; omega⟩
  rcases List.mem_cons.mp hw with h | h
  · rw [h]
    exact ⟨d1, Or.inl rfl⟩
  · exact lwG_good w h
theorem callN_my {R : Room} {s : State} {sargs : Array Value} {own : String} {idx μ d : Nat} (hμ : μ < 290) (hts : ∀ w ∈ lwG, w.before sargs s = true) (hl : va_Nw (.methodLinkNest own idx (nameOf μ) "TypebarMachine") s) (hRf : d + 1 ≤ R.frames) (hRl : 36 * (d + 1) ≤ R.locals) :
    va_CN R s sargs own idx (nameOf μ) "TypebarMachine" (bytesOf μ) (maxOf μ) (retOf μ) (wsOf μ) (rmD d) 0 0 (mus μ).2.2 := by
  obtain ⟨w1, w2, w3, w4, w5, w6⟩ := okW_at hμ
  obtain ⟨d1, d2, d3, d4⟩ := okD_at hμ
  refine va_cnB (mus μ).2.2 hts (fun w hw => ?_) rfl rfl rfl hl (by rw [w1]; exact hts _ d2) ⟨w3.1, w3.2, w4⟩ ⟨hRf, by show 8 + (maxOf μ + 11) + 36 * d ≤ R.locals; omega⟩
  rcases List.mem_cons.mp hw with h | h
  · rw [h]
    exact ⟨d1, Or.inl rfl⟩
  · exact lwG_good w h
theorem mem_tk {α : Type} {n : Nat} {l : List α} {x : α} (h : x ∈ l.take n) : x ∈ l := List.mem_of_mem_take h
/-- arguments that were popped are numbers and references: what the callee's contract says -/
theorem okV_I {v : VL} (h : okV v) (h2 : ∀ x, v ≠ .inr (.inr x)) : okI v := by
  rcases v with x | r | x
  · trivial
  · exact h
  · exact absurd rfl (h2 x)
theorem clOf_le : ∀ μ, μ < 290 → clOf μ ≤ 10 := by decide +kernel
theorem no_call {d pc len a b : Nat} {z : Int32} {ls : List (Option VL)} {st : List VL} {hp : HP} {i : Instr} {act : Nat × List VL × List VL} (hnc : contI i = false) (h1 : ¬ ∃ idx, i = .invokevirtual idx) (h2 : ¬ ∃ idx, i = .invokestatic idx) (he : exec1 i len a b z d pc ls st hp = some (.inr (.inl act))) : False := by
  cases i <;> try cases (show true = false from hnc)
  case invokevirtual idx => exact h1 ⟨idx, rfl⟩
  case invokestatic idx => exact h2 ⟨idx, rfl⟩
  all_goals
    simp only [exec1, aRet, aThr] at he
    repeat' split at he
    all_goals cases he
theorem frame_ok (hJ : JST l B D G adK adV) (n : Nat) (IHc : ∀ k, k < n → CallOK l B D G adK adV k) : ∀ k, k ≤ n → RunOK l B D G adK adV k := by
  intro k
  induction k with
  | zero => intro _ d μ pc ls st hp v hp1 h; cases h
  | succ k ih =>
    intro hkn d μ pc ls st hp v hp1 h p e R s m sargs below meth c H locs sl hCX hRf hRl hS
    rw [run] at h
    cases hlk : lkp pc (codeOf μ) with
    | none => rw [hlk] at h; cases h
    | some en =>
      obtain ⟨p0, i, len, a, b, z⟩ := en
      rw [hlk] at h
      dsimp only at h
      cases he : exec1 i len a b z d pc ls st hp with
      | none => rw [he] at h; cases h
      | some act =>
        rw [he] at h
        rcases act with ⟨⟨pc', ls', st'⟩, hp'⟩ | ⟨μ', args, rest⟩ | w | E
        · exact step_sim hCX hRf hRl hlk he hS (fun H locs sl hS2 => ih (Nat.le_of_succ_le hkn) d μ pc' ls' st' hp' v hp1 h p e R s m sargs below meth c H locs sl hCX hRf hRl hS2)
        · dsimp only at h
          obtain ⟨hx, hb, hml, hown, hts, hr, hlocks, hE, hJ, hμ⟩ := id hCX
          obtain ⟨hd, hlen, hok⟩ := ok_at hμ hlk
          have hokB := okB_at hμ hlk
          have hlsz : sl.size = maxOf μ := by
            obtain ⟨-, -, lv, h1, -, -⟩ := hS.2.2.1
            exact h1.1
          cases d with
          | zero => cases h
          | succ d' =>
            dsimp only at h
            by_cases hIR : args.all isIR = true
            case neg =>
              rw [if_neg hIR] at h
              cases h
            rw [if_pos hIR] at h
            cases hcl : run k d' (codeOf μ') 0 (entryL args (maxOf μ')) [] hp with
            | none => rw [hcl] at h; cases h
            | some q =>
              rw [hcl] at h
              obtain ⟨w | E, hpc⟩ := q
              · dsimp only at h
                have henv : ∀ U : State, U.heap = H → s.WarmedH U.vm → ENV B D G adK adV U := fun U hU hW => hE.warm hW (fun q h1 h2 => by rw [hU]; exact hS.2.1.2.1 q h1 h2)
                have blind : FrameBlind (PcS B D G adK adV args hp) := fun a U g mk q => ⟨q.1, q.2.1, q.2.2.warm (State.WarmedH.refl U) (fun _ _ _ => rfl)⟩
                have kk : KKs p l e R s m sargs below meth c (MQ below (QcR B D G adK v hp1) sargs s 0 0 (inA B)) B D G adK (maxOf μ) (pc + 3) ls (w.toList ++ rest) hpc :=
                  fun H locs sl hS2 => ih (Nat.le_of_succ_le hkn) (d' + 1) μ (pc + 3) ls (w.toList ++ rest) hpc v hp1 h p e R s m sargs below meth c H locs sl hCX hRf hRl hS2
                have hnc : contI i = false := by
                  cases hci : contI i with
                  | false => rfl
                  | true =>
                    obtain ⟨q, hq⟩ := exec1_cont hci he
                    cases hq
                by_cases hv : ∃ idx, i = .invokevirtual idx
                · obtain ⟨idx, rfl⟩ := hv
                  have hln : len = 3 := by simpa [isSw, lenI] using hlen
                  subst hln
                  obtain ⟨hna, rfl, r, hst, hargs, hrb, hb1, hr4, hlt⟩ := vcall_inv he
                  have hok2 : (clOf μ, idx, μ') ∈ lnkM ∧ μ' < 290 := by
                    have h := hok
                    unfold okL at h
                    simp only [if_neg hna, Bool.and_eq_true, decide_eq_true_eq] at h
                    exact h
                  obtain ⟨hm, hμ'⟩ := hok2
                  have hB2 : (b = (mus μ').2.2 + 1 + 16 * clOf μ' ∧ (mus μ').2.1 = false) ∧ (mus μ').2.2 < 15 := by
                    have h := hokB
                    unfold okB at h
                    simp only [Bool.or_eq_true, Bool.and_eq_true, decide_eq_true_eq, Bool.not_eq_true'] at h
                    rcases h with h | h
                    · omega
                    · exact h
                  obtain ⟨⟨hbv, hstt⟩, h15⟩ := hB2
                  have hbm : b % 16 = (mus μ').2.2 + 1 := by omega
                  have hbd : b / 16 = clOf μ' := by omega
                  have hc10 : clOf μ' ≤ 10 := by
                    have := clOf_le μ' hμ'
                    exact this
                  have hr20 : r.1 ≠ 20 := by omega
                  have hmem : vR r ∈ st := by rw [hst]; simp
                  have hrA : r ∈ allR := okR_in (hS.2.2.2 _ hmem : okR r) hr20
                  have hirs : ∀ w ∈ args, isIR w = true := List.all_eq_true.mp hIR
                  have hoI : ∀ w ∈ args, okI w := by
                    intro w hw
                    have hwst : w ∈ st := by
                      rw [hargs] at hw
                      rcases List.mem_cons.mp hw with h | h
                      · rw [h]; exact hmem
                      · exact mem_tk (List.mem_reverse.mp h)
                    exact okV_I (hS.2.2.2 w hwst) (fun x hx => by have := hirs w hw; rw [hx] at this; cases this)
                  have hnA : args.length = nA μ' := by
                    rw [hargs]
                    simp only [List.length_cons, List.length_reverse, hlt, nA, hstt]
                    simp
                    omega
                  have hM := IHc k (Nat.lt_of_succ_le hkn) d' μ' args hp w hpc hμ' hnA hoI hcl
                  obtain ⟨d1, d2, d3, d4⟩ := okD_at hμ'
                  obtain ⟨g1, g2⟩ := d4 hstt
                  obtain ⟨w1, -⟩ := okW_at hμ'
                  have hent := World_get (B := B) (G := G) (hp := hp) hrA
                  rw [ent_obj (by omega), hrb, hbd] at hent
                  have hargV : (args.map (toV B adK)).toArray = (Value.ref (B + adr r) :: (st.take (b % 16 - 1)).reverse.map (toV B adK)).toArray := by
                    rw [hargs, List.map_cons, toV_ref hr20]
                  have hL : (Jvm.Cond.methodLink (clsN (clOf μ)) idx (nameOf μ')).before sargs s = true := hts (wM (clOf μ, idx, μ')) (inG (lnkM_ok _ hm) rfl)
                  have hstk : st.map (toV B adK) = ((st.take (b % 16 - 1)).reverse.map (toV B adK)).reverse ++ Value.ref (B + adr r) :: rest.map (toV B adK) := by
                    rw [List.map_reverse, List.reverse_reverse, ← toV_ref hr20, ← List.map_cons, ← List.map_append, ← hst]
                  have hcat := catS (B := B) (adK := adK) rest
                  refine my_call (rest := rest) (va_runV (C := clsN (clOf μ')) (As := (st.take (b % 16 - 1)).reverse.map (toV B adK)) (rest := rest.map (toV B adK)) ⟨hx, hb, hml, hown, hts⟩ hM ⟨callB_my hμ' hts hL hRf hRl, hts _ g1, hts _ g2⟩ ⟨blind, ?_, fun U hU hW => ⟨hargV.symm, by rw [hU]; exact hS.1, henv U hU hW⟩⟩ rfl ?_ hlsz hstk (lv_room (by omega)) hd ⟨Nat.zero_le _, Nat.zero_le _⟩) ⟨hS.1, hS.2.1, hS.2.2.1, fun w hw => hS.2.2.2 w (by rw [hst]; simp [hw])⟩ kk
                  · exact va_recv hE.1 hS.1 (vwCl_at _ hc10) hent
                  · rw [List.length_map, List.length_reverse, hlt]
                    omega
                · by_cases hv2 : ∃ idx, i = .invokestatic idx
                  · obtain ⟨idx, rfl⟩ := hv2
                    have hln : len = 3 := by simpa [isSw, lenI] using hlen
                    subst hln
                    have ha : a < 1000 := by
                      rcases Nat.lt_or_ge a 1000 with h | h
                      · exact h
                      · exfalso
                        have h3 := hok
                        unfold okL at h3
                        simp only [if_pos h, Bool.and_eq_true, decide_eq_true_eq] at h3
                        rcases scall_inv he with h4 | h4
                        · omega
                        · omega
                    obtain ⟨rfl, hargs, hrest, hbl, hr4⟩ := scall_inv2 he ha
                    have hok2 : ((clOf μ, idx, μ') ∈ lnkM ∨ (clOf μ, idx, μ') ∈ lnkMN) ∧ μ' < 290 := by
                      have h := hok
                      unfold okL at h
                      simp only [if_neg (show ¬ 1000 ≤ μ' by omega), Bool.and_eq_true, Bool.or_eq_true, decide_eq_true_eq] at h
                      exact h
                    obtain ⟨hm, hμ'⟩ := hok2
                    have hB2 : b = (mus μ').2.2 ∧ (mus μ').2.1 = true := by
                      have h := hokB
                      unfold okB at h
                      simp only [Bool.or_eq_true, Bool.and_eq_true, decide_eq_true_eq] at h
                      rcases h with h | h
                      · omega
                      · exact h
                    obtain ⟨hbv, hstt⟩ := hB2
                    have hst : st = st.take b ++ rest := by rw [hrest, List.take_append_drop]
                    have hirs : ∀ w ∈ args, isIR w = true := List.all_eq_true.mp hIR
                    have hoI : ∀ w ∈ args, okI w := by
                      intro w hw
                      have hwst : w ∈ st := by
                        rw [hargs] at hw
                        exact mem_tk (List.mem_reverse.mp hw)
                      exact okV_I (hS.2.2.2 w hwst) (fun x hx => by have := hirs w hw; rw [hx] at this; cases this)
                    have hnA : args.length = nA μ' := by
                      rw [hargs]
                      simp only [List.length_reverse, List.length_take, nA, hstt]
                      simp
                      omega
                    have hM := IHc k (Nat.lt_of_succ_le hkn) d' μ' args hp w hpc hμ' hnA hoI hcl
                    obtain ⟨d1, d2, d3, d4⟩ := okD_at hμ'
                    have hargV : (args.map (toV B adK)).toArray = ((st.take b).reverse.map (toV B adK)).toArray := by rw [hargs]
                    have hstk : st.map (toV B adK) = ((st.take b).reverse.map (toV B adK)).reverse ++ rest.map (toV B adK) := by
                      rw [List.map_reverse, List.reverse_reverse, ← List.map_append, ← hst]
                    have hcat := catS (B := B) (adK := adK) rest
                    have hr4' : catL rest ≤ 8 := by rw [hrest]; exact hr4
                    have hSr : STt B D G adK s sl (maxOf μ) ls rest hp H locs := ⟨hS.1, hS.2.1, hS.2.2.1, fun w hw => hS.2.2.2 w (by rw [hst]; simp [hw])⟩
                    have hAl : ((st.take b).reverse.map (toV B adK)).length = (mus μ').2.2 := by
                      rw [List.length_map, List.length_reverse, List.length_take]
                      omega
                    rcases hm with hm | hm
                    · have hL : (Jvm.Cond.methodLink (clsN (clOf μ)) idx (nameOf μ')).before sargs s = true := hts (wM (clOf μ, idx, μ')) (inG (lnkM_ok _ hm) rfl)
                      exact my_call (rest := rest) (va_runS (As := (st.take b).reverse.map (toV B adK)) (rest := rest.map (toV B adK)) ⟨hx, hb, hml, hown, hts⟩ hM ⟨callB_my hμ' hts hL hRf hRl, hts _ (d3 hstt)⟩ ⟨blind, fun U hU hW => ⟨hargV.symm, by rw [hU]; exact hS.1, henv U hU hW⟩⟩ rfl hAl hlsz hstk (lv_room (by omega)) hd ⟨Nat.zero_le _, Nat.zero_le _⟩) hSr kk
                    · have hL : va_Nw (.methodLinkNest (clsN (clOf μ)) idx (nameOf μ') "TypebarMachine") s := hE.2.2.1 (clOf μ, idx, μ') hm
                      exact my_call (rest := rest) (va_runSN (As := (st.take b).reverse.map (toV B adK)) (rest := rest.map (toV B adK)) ⟨hx, hb, hml, hown, hts⟩ hM ⟨callN_my hμ' hts hL hRf hRl, hts _ (d3 hstt), trivial⟩ ⟨blind, fun U hU hW => ⟨hargV.symm, by rw [hU]; exact hS.1, henv U hU hW⟩⟩ rfl hAl hlsz hstk (lv_room (by omega)) hd ⟨Nat.zero_le _, Nat.zero_le _⟩) hSr kk
                  · exfalso
                    exact no_call hnc hv hv2 he
              · cases h
        · have hq : (.inl v, hp1) = ((.inl w, hp) : RES) := (Option.some.inj h).symm
          cases hq
          exact ret_sim hCX hlk he hS
        · cases h
theorem lg_sl1 : ∀ (vs : List Value), (∀ v ∈ vs, v.category = 1) → (lg_sl vs).length = vs.length
  | [], _ => rfl
  | v :: vs, h => by
    have h1 := h v List.mem_cons_self
    have ih := lg_sl1 vs (fun w hw => h w (List.mem_cons_of_mem _ hw))
    show ((if v.category = 2 then [Slot.val v, Slot.second] else [Slot.val v]) ++ lg_sl vs).length = _
    rw [h1, if_neg (by decide), List.length_append, ih]
    simp only [List.length_cons, List.length_nil]
    omega
theorem lv_args1 : ∀ (vs : List Value) (i : Nat), (∀ v ∈ vs, v.category = 1) → (∀ q ∈ lv_args i vs, q.2.category = 1) ∧ ∀ (j : Nat) (v : Value), vs[j]? = some v → (i + j, v) ∈ lv_args i vs
  | [], i, _ => ⟨fun q hq => absurd hq List.not_mem_nil, fun j v h => by simp at h⟩
  | w :: vs, i, h => by
    have h1 := h w List.mem_cons_self
    obtain ⟨g1, g2⟩ := lv_args1 vs (i + 1) (fun w hw => h w (List.mem_cons_of_mem _ hw))
    have e1 : lv_args i (w :: vs) = (i, w) :: lv_args (i + 1) vs := by
      show (i, w) :: lv_args (if w.category = 2 then i + 2 else i + 1) vs = _
      rw [h1, if_neg (by decide)]
    rw [e1]
    refine ⟨fun q hq => ?_, fun j v hj => ?_⟩
    · rcases List.mem_cons.mp hq with rfl | hq
      · exact h1
      · exact g1 q hq
    · cases j with
      | zero =>
        rw [List.getElem?_cons_zero] at hj
        cases hj
        exact List.mem_cons_self
      | succ j =>
        rw [List.getElem?_cons_succ] at hj
        have h3 := g2 j v hj
        rw [show i + 1 + j = i + (j + 1) by omega] at h3
        exact List.mem_cons_of_mem _ h3
theorem call_ok (hJ : JST l B D G adK adV) (n : Nat) (hR : RunOK l B D G adK adV n) : CallOK l B D G adK adV n := by
  intro d μ args hp v hp1 hμ hnA hoI h
  obtain ⟨w1, w2, w3, w4, w5, w6⟩ := okW_at hμ
  refine Met.ofW (cc := bytesOf μ) (maxL := maxOf μ) (ret := retOf μ) w2 rfl ?_
  intro p e s m sargs below meth c s₁ Bd hml hv
  obtain ⟨rfl, hP, hE⟩ := hv
  have hts := atoms_spec (ws := wsOf μ) Bd.pre
  have hown : s.vm.findClass (clsN (clOf μ)) = some m.cls := by
    have h1 := findClass_of_methodNamed Bd.named
    rw [w1] at h1
    exact h1
  have hcat : ∀ v ∈ args.map (toV B adK), v.category = 1 := by
    intro v hv
    obtain ⟨w, hw, rfl⟩ := List.mem_map.mp hv
    exact (hoI w hw).cat
  have hle : (lg_sl (args.map (toV B adK))).length ≤ maxOf μ := by
    rw [lg_sl1 _ hcat, List.length_map]
    omega
  have hl := lv_entry (args.map (toV B adK)) hle
  obtain ⟨g1, g2⟩ := lv_args1 (args.map (toV B adK)) 0 hcat
  rw [lg_entry_eq]
  have hS : STt B D G adK s ((lg_sl (args.map (toV B adK)) ++ List.replicate (maxOf μ - (lg_sl (args.map (toV B adK))).length) Slot.unset).toArray) (maxOf μ) (entryL args (maxOf μ)) [] hp s.heap [] := by
    refine ⟨hP, va_S.rf, ⟨?_, ?_, _, hl, g1, ?_⟩, fun v hv => absurd hv List.not_mem_nil⟩
    · unfold entryL
      simp only [List.length_append, List.length_map, List.length_replicate]
      omega
    · intro v hv
      unfold entryL at hv
      rcases List.mem_append.mp hv with hv | hv
      · obtain ⟨w, hw, e⟩ := List.mem_map.mp hv
        cases e
        exact hoI _ hw
      · have := (List.mem_replicate.mp hv).2
        cases this
    · intro i v hv
      unfold entryL at hv
      by_cases hi : i < args.length
      · rw [List.getElem?_append_left (by rw [List.length_map]; exact hi), List.getElem?_map] at hv
        obtain ⟨w, hw, e⟩ := Option.map_eq_some_iff.mp hv
        cases e
        have h3 := g2 i (toV B adK v) (by rw [List.getElem?_map, hw]; rfl)
        rw [Nat.zero_add] at h3
        exact h3
      · rw [List.getElem?_append_right (by rw [List.length_map]; omega)] at hv
        have := List.mem_of_getElem? hv
        have := (List.mem_replicate.mp this).2
        cases this
  exact hR d μ 0 (entryL args (maxOf μ)) [] hp v hp1 h p e (headSpec (wsOf μ) (rmD d)).room s m _ below meth c s.heap [] _ ⟨Bd.exec, Bd.bytes, hml, hown, fun w hw => hts w (List.mem_cons_of_mem _ hw), Bd.returns, Bd.notSynchronized, hE, hJ, hμ⟩ (Nat.le_refl _) (Nat.le_refl _) hS
theorem all_ok (hJ : JST l B D G adK adV) : ∀ n, CallOK l B D G adK adV n ∧ RunOK l B D G adK adV n := by
  have key : ∀ n, ∀ k, k < n → CallOK l B D G adK adV k := by
    intro n
    induction n with
    | zero => exact fun k h => absurd h (Nat.not_lt_zero k)
    | succ n ih =>
      intro k hk
      rcases Nat.lt_or_ge k n with h | h
      · exact ih k h
      · have hkn : k = n := by omega
        subst hkn
        exact call_ok hJ k (frame_ok hJ k ih k (Nat.le_refl _))
  exact fun n => ⟨key (n + 1) n (Nat.lt_succ_self n), frame_ok hJ n (key n) n (Nat.le_refl _)⟩
/-- THE SMALL MACHINE IS THE MACHINE: a method that returns there meets its contract -/
theorem sim_call (hJ : JST l B D G adK adV) {d μ : Nat} {args : List VL} {hp : HP} {v : Option VL} {hp1 : HP} (hμ : μ < 290) (hn : args.length = nA μ) (hI : ∀ w ∈ args, okI w) (h : Calls d μ args hp (.inl v, hp1)) : RMet l B D G adK adV d μ args hp v hp1 := by
  obtain ⟨n, hn2⟩ := h
  exact (all_ok hJ n).1 d μ args hp v hp1 hμ hn hI hn2
end SIM
