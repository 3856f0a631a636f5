section SIMX
variable {l : Launch} {B : Nat} {D : va_G} {G : GG} {adK adV adM : Nat → Nat}
def CallOX (l : Launch) (B : Nat) (D : va_G) (G : GG) (adK adV adM : Nat → Nat) (k : Nat) : Prop := ∀ (d μ : Nat) (args : List VL) (hp : HP) (E : Nat) (hp1 : HP), μ < 290 → args.length = nA μ → (∀ w ∈ args, okI w) → run k d (codeOf μ) 0 (entryL args (maxOf μ)) [] hp = some (.inr E, hp1) → TMet l B D G adK adV adM d μ args hp E hp1
def RunOX (l : Launch) (B : Nat) (D : va_G) (G : GG) (adK adV adM : Nat → Nat) (k : Nat) : Prop := ∀ (d μ pc : Nat) (ls : List (Option VL)) (st : List VL) (hp : HP) (E : Nat) (hp1 : HP), run k d (codeOf μ) pc ls st hp = some (.inr E, hp1) →
  ∀ (p : Program) (e : Env) (R : Room) (s : State) (m : MethodId) (sargs : Array Value) (below : List Frame) (meth : Method) (c : Code) (H : Heap) (locs : List Loc) (sl : Array Slot), CXX p l B D G adK adV μ s m sargs meth c → ENVX B adM s → (∀ x ∈ c.exceptionTable.toList, False) → d ≤ R.frames → 36 * d ≤ R.locals → 1 ≤ R.cells → 6 ≤ R.slots → STt B D G adK s sl (maxOf μ) ls st hp H locs →
    W p l e R s m sargs below meth c H locs 0 0 (vx_MQ below QNo (XCS B D G E hp1) sargs s 1 6 (inA B)) (F0 m pc sl (st.map (toV B adK)))
theorem callX_my {R : Room} {s : State} {sargs : Array Value} {own : String} {idx μ d : Nat} (hμ : μ < 290) (hts : ∀ w ∈ lwG, w.before sargs s = true) (hl : (Jvm.Cond.methodLink own idx (nameOf μ)).before sargs s = true) (hRf : d + 1 ≤ R.frames) (hRl : 36 * (d + 1) ≤ R.locals) :
    CallB R s sargs own idx (nameOf μ) (bytesOf μ) (maxOf μ) (retOf μ) (wsOf μ) (rmX d) 1 6 (mus μ).2.2 := by
  obtain ⟨w1, w2, w3, w4, w5, w6⟩ := okW_at hμ
  obtain ⟨d1, d2, d3, d4⟩ := okD_at hμ
  refine callB_of (mus μ).2.2 hts (fun w hw => ?_) rfl rfl rfl (by rw [w1]; exact hts _ d2) hl ⟨w3.1, w3.2, w4⟩ ⟨hRf, by show 8 + (maxOf μ + 11) + 36 * d ≤ R.locals; omega⟩
  rcases List.mem_cons.mp hw with h | h
  · rw [h]
    exact ⟨d1, Or.inl rfl⟩
  · exact lwG_good w h
theorem nwX_tab : ∀ w ∈ nwX, w.onTables = true := by decide +kernel
/-- the methods that may throw -/
def thS (μ : Nat) : Bool := [87, 91, 92, 93, 94, 95, 96, 97, 98, 99, 100, 101, 102, 103, 104, 105, 106, 107, 108, 109, 110, 111, 112, 113, 114, 115, 116, 117, 118, 119, 120, 121, 122, 123, 125, 126, 127, 128, 129, 130, 131, 133, 134, 135, 136, 138, 139, 141, 142, 143, 144, 145, 146, 147, 148, 149].contains μ
def thC (μ : Nat) : Bool := thS μ || (codeOf μ).all (fun e => match e.2.1 with
  | .new _ => false
  | .invokevirtual _ => !(thS e.2.2.2.1)
  | .invokestatic _ => !(thS e.2.2.2.1)
  | _ => true)
theorem thC_ok : ∀ μ, μ < 290 → thC μ = true := by decide +kernel
theorem thN_ok : ∀ x ∈ lnkMN, thS x.2.2 = false := by decide +kernel
theorem run_th : ∀ (k d μ pc : Nat) (ls : List (Option VL)) (st : List VL) (hp : HP) (E : Nat) (hp1 : HP), μ < 290 → run k d (codeOf μ) pc ls st hp = some (.inr E, hp1) → thS μ = true := by
  intro k
  induction k with
  | zero => intro d μ pc ls st hp E hp1 _ h; cases h
  | succ k ih =>
    intro d μ pc ls st hp E hp1 hμ h
    rw [run] at h
    cases hlk : lkp pc (codeOf μ) with
    | none => rw [hlk] at h; cases h
    | some en =>
      obtain ⟨p0, i, len, a, b, z⟩ := en
      rw [hlk] at h
      dsimp only at h
      cases he : exec1 i len a b z d pc ls st hp with
      | none => rw [he] at h; cases h
      | some act =>
        rw [he] at h
        rcases act with ⟨⟨pc', ls', st'⟩, hp'⟩ | ⟨μ', args, rest⟩ | w | E0
        · exact ih d μ pc' ls' st' hp' E hp1 hμ h
        · dsimp only at h
          cases d with
          | zero => cases h
          | succ d' =>
            dsimp only at h
            by_cases hIR : args.all isIR = true
            case neg =>
              rw [if_neg hIR] at h
              cases h
            rw [if_pos hIR] at h
            cases hcl : run k d' (codeOf μ') 0 (entryL args (maxOf μ')) [] hp with
            | none => rw [hcl] at h; cases h
            | some q =>
              rw [hcl] at h
              obtain ⟨w | E1, hpc⟩ := q
              · exact ih (d' + 1) μ (pc + 3) ls (w.toList ++ rest) hpc E hp1 hμ h
              · obtain ⟨hd, hlen, hok⟩ := ok_at hμ hlk
                have hnc : contI i = false := by
                  cases hci : contI i with
                  | false => rfl
                  | true =>
                    obtain ⟨q, hq⟩ := exec1_cont hci he
                    cases hq
                have hC := thC_ok μ hμ
                unfold thC at hC
                rw [Bool.or_eq_true] at hC
                rcases hC with hC | hC
                · exact hC
                · have hC2 := List.all_eq_true.mp hC _ (lkp_in hlk).1
                  by_cases hv : ∃ idx, i = .invokevirtual idx
                  · obtain ⟨idx, rfl⟩ := hv
                    obtain ⟨hna, rfl, -⟩ := vcall_inv he
                    have hμ' : μ' < 290 := by
                      have h := hok
                      unfold okL at h
                      simp only [if_neg hna, Bool.and_eq_true, decide_eq_true_eq] at h
                      exact h.2
                    have h5 := ih d' μ' 0 _ [] hp E1 hpc hμ' hcl
                    simp only [h5] at hC2
                    cases hC2
                  · by_cases hv2 : ∃ idx, i = .invokestatic idx
                    · obtain ⟨idx, rfl⟩ := hv2
                      have ha : a < 1000 := by
                        rcases Nat.lt_or_ge a 1000 with h | h
                        · exact h
                        · exfalso
                          have h3 := hok
                          unfold okL at h3
                          simp only [if_pos h, Bool.and_eq_true, decide_eq_true_eq] at h3
                          rcases scall_inv he with h4 | h4
                          · omega
                          · omega
                      obtain ⟨rfl, -⟩ := scall_inv2 he ha
                      have hμ' : μ' < 290 := by
                        have h := hok
                        unfold okL at h
                        simp only [if_neg (show ¬ 1000 ≤ μ' by omega), Bool.and_eq_true, Bool.or_eq_true, decide_eq_true_eq] at h
                        exact h.2
                      have h5 := ih d' μ' 0 _ [] hp E1 hpc hμ' hcl
                      simp only [h5] at hC2
                      cases hC2
                    · exact (no_call hnc hv hv2 he).elim
        · cases h
        · obtain ⟨x, hxL, h1, h2, h3, h4, h6, -⟩ := thr_at hμ hlk he
          have hC := thC_ok μ hμ
          unfold thC at hC
          rw [Bool.or_eq_true] at hC
          rcases hC with hC | hC
          · exact hC
          · have hC2 := List.all_eq_true.mp hC _ (lkp_in hlk).1
            rw [h3] at hC2
            cases hC2
theorem nestX_no {k d μ μ' idx : Nat} {args : List VL} {hp hp1 : HP} {E : Nat} (hμ' : μ' < 290) (hm : (clOf μ, idx, μ') ∈ lnkMN) (h : run k d (codeOf μ') 0 (entryL args (maxOf μ')) [] hp = some (.inr E, hp1)) : False := by
  have h1 := run_th k d μ' 0 _ [] hp E hp1 hμ' h
  have h2 := thN_ok _ hm
  simp only at h2
  rw [h1] at h2
  cases h2
theorem frameX_ok (hJ : JST l B D G adK adV) (hst : l.stackTraces = false) (n : Nat) (IHc : ∀ k, k < n → CallOX l B D G adK adV adM k) : ∀ k, k ≤ n → RunOX l B D G adK adV adM k := by
  intro k
  induction k with
  | zero => intro _ d μ pc ls st hp v hp1 h; cases h
  | succ k ih =>
    intro hkn d μ pc ls st hp E hp1 h p e R s m sargs below meth c H locs sl hCX hEX hout hRf hRl hRc hRs hS
    rw [run] at h
    cases hlk : lkp pc (codeOf μ) with
    | none => rw [hlk] at h; cases h
    | some en =>
      obtain ⟨p0, i, len, a, b, z⟩ := en
      rw [hlk] at h
      dsimp only at h
      cases he : exec1 i len a b z d pc ls st hp with
      | none => rw [he] at h; cases h
      | some act =>
        rw [he] at h
        have hlsz : sl.size = maxOf μ := by
          obtain ⟨-, -, lv, h1, -, -⟩ := hS.2.2.1
          exact h1.1
        rcases act with ⟨⟨pc', ls', st'⟩, hp'⟩ | ⟨μ', args, rest⟩ | w | E0
        · exact step_sim hCX hRf hRl hlk he hS (fun H locs sl hS2 => ih (Nat.le_of_succ_le hkn) d μ pc' ls' st' hp' E hp1 h p e R s m sargs below meth c H locs sl hCX hEX hout hRf hRl hRc hRs hS2)
        · dsimp only at h
          obtain ⟨hx, hb, hml, hown, hts, hr, hlocks, hE, hJ, hμ⟩ := id hCX
          obtain ⟨hd, hlen, hok⟩ := ok_at hμ hlk
          have hokB := okB_at hμ hlk
          cases d with
          | zero => cases h
          | succ d' =>
            dsimp only at h
            by_cases hIR : args.all isIR = true
            case neg =>
              rw [if_neg hIR] at h
              cases h
            rw [if_pos hIR] at h
            cases hcl : run k d' (codeOf μ') 0 (entryL args (maxOf μ')) [] hp with
            | none => rw [hcl] at h; cases h
            | some q =>
              rw [hcl] at h
              have henv : ∀ U : State, U.heap = H → s.WarmedH U.vm → ENV B D G adK adV U := fun U hU hW => hE.warm hW (fun q h1 h2 => by rw [hU]; exact hS.2.1.2.1 q h1 h2)
              have henvX : ∀ U : State, U.heap = H → s.WarmedH U.vm → ENVX B adM U := fun U hU hW => hEX.warm hW (fun q h1 h2 => by rw [hU]; exact hS.2.1.2.1 q h1 h2)
              have blind : FrameBlind (PcS B D G adK adV args hp) := fun a U g mk q => ⟨q.1, q.2.1, q.2.2.warm (State.WarmedH.refl U) (fun _ _ _ => rfl)⟩
              have blindX : FrameBlind (PcX B D G adK adV adM args hp) := fun a U g mk q => ⟨blind a U g mk q.1, q.2.warm (State.WarmedH.refl U) (fun _ _ _ => rfl)⟩
              have hnc : contI i = false := by
                cases hci : contI i with
                | false => rfl
                | true =>
                  obtain ⟨q, hq⟩ := exec1_cont hci he
                  cases hq
              by_cases hv : ∃ idx, i = .invokevirtual idx
              · obtain ⟨idx, rfl⟩ := hv
                have hln : len = 3 := by simpa [isSw, lenI] using hlen
                subst hln
                obtain ⟨hna, rfl, r, hst', hargs, hrb, hb1, hr4, hlt⟩ := vcall_inv he
                have hok2 : (clOf μ, idx, μ') ∈ lnkM ∧ μ' < 290 := by
                  have h := hok
                  unfold okL at h
                  simp only [if_neg hna, Bool.and_eq_true, decide_eq_true_eq] at h
                  exact h
                obtain ⟨hm, hμ'⟩ := hok2
                have hB2 : (b = (mus μ').2.2 + 1 + 16 * clOf μ' ∧ (mus μ').2.1 = false) ∧ (mus μ').2.2 < 15 := by
                  have h := hokB
                  unfold okB at h
                  simp only [Bool.or_eq_true, Bool.and_eq_true, decide_eq_true_eq, Bool.not_eq_true'] at h
                  rcases h with h | h
                  · omega
                  · exact h
                obtain ⟨⟨hbv, hstt⟩, h15⟩ := hB2
                have hbm : b % 16 = (mus μ').2.2 + 1 := by omega
                have hbd : b / 16 = clOf μ' := by omega
                have hc10 : clOf μ' ≤ 10 := clOf_le μ' hμ'
                have hr20 : r.1 ≠ 20 := by omega
                have hmem : vR r ∈ st := by rw [hst']; simp
                have hrA : r ∈ allR := okR_in (hS.2.2.2 _ hmem : okR r) hr20
                have hirs : ∀ w ∈ args, isIR w = true := List.all_eq_true.mp hIR
                have hoI : ∀ w ∈ args, okI w := by
                  intro w hw
                  have hwst : w ∈ st := by
                    rw [hargs] at hw
                    rcases List.mem_cons.mp hw with h | h
                    · rw [h]; exact hmem
                    · exact mem_tk (List.mem_reverse.mp h)
                  exact okV_I (hS.2.2.2 w hwst) (fun x hx => by have := hirs w hw; rw [hx] at this; cases this)
                have hnA : args.length = nA μ' := by
                  rw [hargs]
                  simp only [List.length_cons, List.length_reverse, hlt, nA, hstt]
                  simp
                  omega
                obtain ⟨d1, d2, d3, d4⟩ := okD_at hμ'
                obtain ⟨g1, g2⟩ := d4 hstt
                have hent := World_get (B := B) (G := G) (hp := hp) hrA
                rw [ent_obj (by omega), hrb, hbd] at hent
                have hargV : (args.map (toV B adK)).toArray = (Value.ref (B + adr r) :: (st.take (b % 16 - 1)).reverse.map (toV B adK)).toArray := by
                  rw [hargs, List.map_cons, toV_ref hr20]
                have hL : (Jvm.Cond.methodLink (clsN (clOf μ)) idx (nameOf μ')).before sargs s = true := hts (wM (clOf μ, idx, μ')) (inG (lnkM_ok _ hm) rfl)
                have hstk : st.map (toV B adK) = ((st.take (b % 16 - 1)).reverse.map (toV B adK)).reverse ++ Value.ref (B + adr r) :: rest.map (toV B adK) := by
                  rw [List.map_reverse, List.reverse_reverse, ← toV_ref hr20, ← List.map_cons, ← List.map_append, ← hst']
                have hcat := catS (B := B) (adK := adK) rest
                have hSr : STt B D G adK s sl (maxOf μ) ls rest hp H locs := ⟨hS.1, hS.2.1, hS.2.2.1, fun w hw => hS.2.2.2 w (by rw [hst']; simp [hw])⟩
                have hAl : ((st.take (b % 16 - 1)).reverse.map (toV B adK)).length = (mus μ').2.2 := by
                  rw [List.length_map, List.length_reverse, hlt]
                  omega
                obtain ⟨w | E1, hpc⟩ := q
                · dsimp only at h
                  have hM := (all_ok hJ k).1 d' μ' args hp w hpc hμ' hnA hoI hcl
                  exact my_call (rest := rest) (va_runV (C := clsN (clOf μ')) (As := (st.take (b % 16 - 1)).reverse.map (toV B adK)) (rest := rest.map (toV B adK)) ⟨hx, hb, hml, hown, hts⟩ hM ⟨callB_my hμ' hts hL hRf hRl, hts _ g1, hts _ g2⟩ ⟨blind, va_recv hE.1 hS.1 (vwCl_at _ hc10) hent, fun U hU hW => ⟨hargV.symm, by rw [hU]; exact hS.1, henv U hU hW⟩⟩ rfl hAl hlsz hstk (lv_room (by omega)) hd ⟨Nat.zero_le _, Nat.zero_le _⟩) hSr
                    (fun H locs sl hS2 => ih (Nat.le_of_succ_le hkn) (d' + 1) μ (pc + 3) ls (w.toList ++ rest) hpc E hp1 h p e R s m sargs below meth c H locs sl hCX hEX hout hRf hRl hRc hRs hS2)
                · have hq : (.inr E, hp1) = ((.inr E1, hpc) : RES) := (Option.some.inj h).symm
                  cases hq
                  have hM := IHc k (Nat.lt_of_succ_le hkn) d' μ' args hp E hp1 hμ' hnA hoI hcl
                  exact my_callT hout hlocks (vx_runV (C := clsN (clOf μ')) (As := (st.take (b % 16 - 1)).reverse.map (toV B adK)) (rest := rest.map (toV B adK)) ⟨hx, hb, hml, hown, hts⟩ hM ⟨callX_my hμ' hts hL hRf hRl, hts _ g1, hts _ g2⟩ ⟨blindX, va_recv hE.1 hS.1 (vwCl_at _ hc10) hent, fun U hU hW => ⟨⟨hargV.symm, by rw [hU]; exact hS.1, henv U hU hW⟩, henvX U hU hW⟩⟩ rfl hAl hlsz hstk (lv_room (by omega)) hd ⟨by omega, by omega⟩) hS.2.1
              · by_cases hv2 : ∃ idx, i = .invokestatic idx
                · obtain ⟨idx, rfl⟩ := hv2
                  have hln : len = 3 := by simpa [isSw, lenI] using hlen
                  subst hln
                  have ha : a < 1000 := by
                    rcases Nat.lt_or_ge a 1000 with h | h
                    · exact h
                    · exfalso
                      have h3 := hok
                      unfold okL at h3
                      simp only [if_pos h, Bool.and_eq_true, decide_eq_true_eq] at h3
                      rcases scall_inv he with h4 | h4
                      · omega
                      · omega
                  obtain ⟨rfl, hargs, hrest, hbl, hr4⟩ := scall_inv2 he ha
                  have hok2 : ((clOf μ, idx, μ') ∈ lnkM ∨ (clOf μ, idx, μ') ∈ lnkMN) ∧ μ' < 290 := by
                    have h := hok
                    unfold okL at h
                    simp only [if_neg (show ¬ 1000 ≤ μ' by omega), Bool.and_eq_true, Bool.or_eq_true, decide_eq_true_eq] at h
                    exact h
                  obtain ⟨hm, hμ'⟩ := hok2
                  have hB2 : b = (mus μ').2.2 ∧ (mus μ').2.1 = true := by
                    have h := hokB
                    unfold okB at h
                    simp only [Bool.or_eq_true, Bool.and_eq_true, decide_eq_true_eq] at h
                    rcases h with h | h
                    · omega
                    · exact h
                  obtain ⟨hbv, hstt⟩ := hB2
                  have hst' : st = st.take b ++ rest := by rw [hrest, List.take_append_drop]
                  have hirs : ∀ w ∈ args, isIR w = true := List.all_eq_true.mp hIR
                  have hoI : ∀ w ∈ args, okI w := by
                    intro w hw
                    have hwst : w ∈ st := by
                      rw [hargs] at hw
                      exact mem_tk (List.mem_reverse.mp hw)
                    exact okV_I (hS.2.2.2 w hwst) (fun x hx => by have := hirs w hw; rw [hx] at this; cases this)
                  have hnA : args.length = nA μ' := by
                    rw [hargs]
                    simp only [List.length_reverse, List.length_take, nA, hstt]
                    simp
                    omega
                  obtain ⟨d1, d2, d3, d4⟩ := okD_at hμ'
                  have hargV : (args.map (toV B adK)).toArray = ((st.take b).reverse.map (toV B adK)).toArray := by rw [hargs]
                  have hstk : st.map (toV B adK) = ((st.take b).reverse.map (toV B adK)).reverse ++ rest.map (toV B adK) := by
                    rw [List.map_reverse, List.reverse_reverse, ← List.map_append, ← hst']
                  have hcat := catS (B := B) (adK := adK) rest
                  have hr4' : catL rest ≤ 8 := by rw [hrest]; exact hr4
                  have hSr : STt B D G adK s sl (maxOf μ) ls rest hp H locs := ⟨hS.1, hS.2.1, hS.2.2.1, fun w hw => hS.2.2.2 w (by rw [hst']; simp [hw])⟩
                  have hAl : ((st.take b).reverse.map (toV B adK)).length = (mus μ').2.2 := by
                    rw [List.length_map, List.length_reverse, List.length_take]
                    omega
                  obtain ⟨w | E1, hpc⟩ := q
                  · dsimp only at h
                    have hM := (all_ok hJ k).1 d' μ' args hp w hpc hμ' hnA hoI hcl
                    have kk : KKs p l e R s m sargs below meth c (vx_MQ below QNo (XCS B D G E hp1) sargs s 1 6 (inA B)) B D G adK (maxOf μ) (pc + 3) ls (w.toList ++ rest) hpc :=
                      fun H locs sl hS2 => ih (Nat.le_of_succ_le hkn) (d' + 1) μ (pc + 3) ls (w.toList ++ rest) hpc E hp1 h p e R s m sargs below meth c H locs sl hCX hEX hout hRf hRl hRc hRs hS2
                    rcases hm with hm | hm
                    · have hL : (Jvm.Cond.methodLink (clsN (clOf μ)) idx (nameOf μ')).before sargs s = true := hts (wM (clOf μ, idx, μ')) (inG (lnkM_ok _ hm) rfl)
                      exact my_call (rest := rest) (va_runS (As := (st.take b).reverse.map (toV B adK)) (rest := rest.map (toV B adK)) ⟨hx, hb, hml, hown, hts⟩ hM ⟨callB_my hμ' hts hL hRf hRl, hts _ (d3 hstt)⟩ ⟨blind, fun U hU hW => ⟨hargV.symm, by rw [hU]; exact hS.1, henv U hU hW⟩⟩ rfl hAl hlsz hstk (lv_room (by omega)) hd ⟨Nat.zero_le _, Nat.zero_le _⟩) hSr kk
                    · have hL : va_Nw (.methodLinkNest (clsN (clOf μ)) idx (nameOf μ') "TypebarMachine") s := hE.2.2.1 (clOf μ, idx, μ') hm
                      exact my_call (rest := rest) (va_runSN (As := (st.take b).reverse.map (toV B adK)) (rest := rest.map (toV B adK)) ⟨hx, hb, hml, hown, hts⟩ hM ⟨callN_my hμ' hts hL hRf hRl, hts _ (d3 hstt), trivial⟩ ⟨blind, fun U hU hW => ⟨hargV.symm, by rw [hU]; exact hS.1, henv U hU hW⟩⟩ rfl hAl hlsz hstk (lv_room (by omega)) hd ⟨Nat.zero_le _, Nat.zero_le _⟩) hSr kk
                  · have hq : (.inr E, hp1) = ((.inr E1, hpc) : RES) := (Option.some.inj h).symm
                    cases hq
                    have hM := IHc k (Nat.lt_of_succ_le hkn) d' μ' args hp E hp1 hμ' hnA hoI hcl
                    rcases hm with hm | hm
                    · have hL : (Jvm.Cond.methodLink (clsN (clOf μ)) idx (nameOf μ')).before sargs s = true := hts (wM (clOf μ, idx, μ')) (inG (lnkM_ok _ hm) rfl)
                      exact my_callT hout hlocks (vx_runS (As := (st.take b).reverse.map (toV B adK)) (rest := rest.map (toV B adK)) ⟨hx, hb, hml, hown, hts⟩ hM ⟨callX_my hμ' hts hL hRf hRl, hts _ (d3 hstt)⟩ ⟨blindX, fun U hU hW => ⟨⟨hargV.symm, by rw [hU]; exact hS.1, henv U hU hW⟩, henvX U hU hW⟩⟩ rfl hAl hlsz hstk (lv_room (by omega)) hd ⟨by omega, by omega⟩) hS.2.1
                    · exfalso
                      exact nestX_no hμ' hm hcl
                · exfalso
                  exact no_call hnc hv hv2 he
        · cases h
        · have hq : (.inr E, hp1) = ((.inr E0, hp) : RES) := (Option.some.inj h).symm
          cases hq
          obtain ⟨hx, hb, hml, hown, hts, hr, hlocks, hE, hJ, hμ⟩ := id hCX
          obtain ⟨x, hxL, h1, h2, h3, h4, h6, rfl⟩ := thr_at hμ hlk he
          obtain ⟨c1, c2, c3, c4, c5, c6, c7⟩ := thr_code x hxL
          obtain ⟨w1, w2, w3⟩ := thr_words x hxL
          rw [h1] at c2 c3 c4 c5 c6 c7
          rw [h2] at c3 c4 c5 c6 c7
          have hown9 : s.vm.findClass RX9 = some m.cls := by
            have h := hown
            rw [c2] at h
            exact h
          have hat : ∀ w ∈ vx_atS RX9 x.2.2.2.2.1 (excN x.2.2.2.2.2.1) excS, w.before sargs s = true := by
            intro w hw
            have h := List.all_eq_true.mp w3 w hw
            simp only [Bool.or_eq_true, Bool.and_eq_true, decide_eq_true_eq] at h
            rcases h with h | h
            · exact hts w (List.mem_filter.mpr h)
            · have hn := hEX.1 w h
              exact va_Nw.use (nwX_tab w h) hn
          refine vx_throwSW (A := inA B) (names := excS) (cls := excN x.2.2.2.2.2.1) (text := msgS x.2.2.2.2.2.2) hx hb hst hown9 (thr_fit x hxL) excS_fit (hts _ (inG w1 rfl)) (hts _ (inG w2 rfl)) (hEX.2.2.2 x hxL) hat (List.all_eq_true.mp (thr_ot x hxL)) hEX.2.1 hEX.2.2.1 hS.2.1 (by rw [hml]; exact hlsz) c3 c4 c5 c6 c7 (fun x hx => (hout x hx).elim) (by show 2 + 3 < R.frames; omega) (by show 0 + (13 * (2 + 1) + 43) ≤ R.locals; omega) (by omega) (by omega) hlocks (fun t ht hsz hsame => ?_) hS.2.1.2.2 (Nat.le_refl _) (Nat.le_refl _)
          refine ⟨by rw [h4], hS.1.kept (fun k q hk => hsame _ (hS.1 k q hk).lt), ⟨Nat.le_trans hS.2.1.1 hsz, fun q hq1 hq2 => ?_⟩⟩
          rw [hsame q (Nat.lt_of_lt_of_le hq1 hS.2.1.1)]
          exact hS.2.1.2.1 q hq1 hq2
theorem callX_ok (hJ : JST l B D G adK adV) (n : Nat) (hR : RunOX l B D G adK adV adM n) : CallOX l B D G adK adV adM n := by
  intro d μ args hp E hp1 hμ hnA hoI h
  obtain ⟨w1, w2, w3, w4, w5, w6⟩ := okW_at hμ
  refine vx_ofW (cc := bytesOf μ) (maxL := maxOf μ) (ret := retOf μ) w2 rfl ?_
  intro p e s m sargs below meth c s₁ Bd hml hout hv
  obtain ⟨⟨rfl, hP, hE⟩, hEX⟩ := hv
  have hts := atoms_spec (ws := wsOf μ) Bd.pre
  have hown : s.vm.findClass (clsN (clOf μ)) = some m.cls := by
    have h1 := findClass_of_methodNamed Bd.named
    rw [w1] at h1
    exact h1
  have hcat : ∀ v ∈ args.map (toV B adK), v.category = 1 := by
    intro v hv
    obtain ⟨w, hw, rfl⟩ := List.mem_map.mp hv
    exact (hoI w hw).cat
  have hle : (lg_sl (args.map (toV B adK))).length ≤ maxOf μ := by
    rw [lg_sl1 _ hcat, List.length_map]
    omega
  have hl := lv_entry (args.map (toV B adK)) hle
  obtain ⟨g1, g2⟩ := lv_args1 (args.map (toV B adK)) 0 hcat
  rw [lg_entry_eq]
  have hS : STt B D G adK s ((lg_sl (args.map (toV B adK)) ++ List.replicate (maxOf μ - (lg_sl (args.map (toV B adK))).length) Slot.unset).toArray) (maxOf μ) (entryL args (maxOf μ)) [] hp s.heap [] := by
    refine ⟨hP, va_S.rf, ⟨?_, ?_, _, hl, g1, ?_⟩, fun v hv => absurd hv List.not_mem_nil⟩
    · unfold entryL
      simp only [List.length_append, List.length_map, List.length_replicate]
      omega
    · intro v hv
      unfold entryL at hv
      rcases List.mem_append.mp hv with hv | hv
      · obtain ⟨w, hw, e⟩ := List.mem_map.mp hv
        cases e
        exact hoI _ hw
      · have := (List.mem_replicate.mp hv).2
        cases this
    · intro i v hv
      unfold entryL at hv
      by_cases hi : i < args.length
      · rw [List.getElem?_append_left (by rw [List.length_map]; exact hi), List.getElem?_map] at hv
        obtain ⟨w, hw, e⟩ := Option.map_eq_some_iff.mp hv
        cases e
        have h3 := g2 i (toV B adK v) (by rw [List.getElem?_map, hw]; rfl)
        rw [Nat.zero_add] at h3
        exact h3
      · rw [List.getElem?_append_right (by rw [List.length_map]; omega)] at hv
        have := List.mem_of_getElem? hv
        have := (List.mem_replicate.mp this).2
        cases this
  exact hR d μ 0 (entryL args (maxOf μ)) [] hp E hp1 h p e (headSpec (wsOf μ) (rmX d)).room s m _ below meth c s.heap [] _ ⟨Bd.exec, Bd.bytes, hml, hown, fun w hw => hts w (List.mem_cons_of_mem _ hw), Bd.returns, Bd.notSynchronized, hE, hJ, hμ⟩ hEX hout (Nat.le_refl _) (Nat.le_refl _) (Nat.le_refl _) (Nat.le_refl _) hS
/-- a method that throws in the small machine meets its contract of a throw -/
theorem simx_call (hJ : JST l B D G adK adV) (hst : l.stackTraces = false) {d μ : Nat} {args : List VL} {hp : HP} {E : Nat} {hp1 : HP} (hμ : μ < 290) (hn : args.length = nA μ) (hI : ∀ w ∈ args, okI w) (h : Calls d μ args hp (.inr E, hp1)) : TMet l B D G adK adV adM d μ args hp E hp1 := by
  obtain ⟨n, hn2⟩ := h
  have key : ∀ n, ∀ k, k < n → CallOX l B D G adK adV adM k := by
    intro n
    induction n with
    | zero => exact fun k h => absurd h (Nat.not_lt_zero k)
    | succ n ih =>
      intro k hk
      rcases Nat.lt_or_ge k n with h | h
      · exact ih k h
      · have hkn : k = n := by omega
        subst hkn
        exact callX_ok hJ k (frameX_ok hJ hst k ih k (Nat.le_refl _))
  exact key (n + 1) n (Nat.lt_succ_self n) d μ args hp E hp1 hμ hn hI hn2
end SIMX
