/-! ===== the small machine's runs ===== -/
def entryL (args : List VL) (n : Nat) : List (Option VL) := args.map some ++ List.replicate (n - args.length) none
/-- a value that a method may be given -/
def isIR (v : VL) : Bool := match v with
  | .inr (.inr _) => false | _ => true
def run : Nat → Nat → List EN → Nat → List (Option VL) → List VL → HP → Option RES
  | 0, _, _, _, _, _, _ => none
  | n + 1, d, C, pc, ls, st, hp =>
    match lkp pc C with
    | none => none
    | some (_, i, len, a, b, z) =>
      match exec1 i len a b z d pc ls st hp with
      | none => none
      | some (.inl ((pc', ls', st'), hp')) => run n d C pc' ls' st' hp'
      | some (.inr (.inl (μ, args, rest))) =>
        (match d with
        | 0 => none
        | d' + 1 => if args.all isIR = true then (match run n d' (codeOf μ) 0 (entryL args (maxOf μ)) [] hp with
          | some (.inl v, hp') => run n (d' + 1) C (pc + 3) ls (v.toList ++ rest) hp'
          | some (.inr E, hp') => some (.inr E, hp')
          | none => none) else none)
      | some (.inr (.inr (.inl v))) => some (.inl v, hp)
      | some (.inr (.inr (.inr E))) => some (.inr E, hp)
theorem run_mono : ∀ (n d : Nat) (C : List EN) (pc : Nat) (ls : List (Option VL)) (st : List VL) (hp : HP) (r : RES), run n d C pc ls st hp = some r → run (n + 1) d C pc ls st hp = some r := by
  intro n
  induction n with
  | zero => intro d C pc ls st hp r h; cases h
  | succ n ih =>
    intro d C pc ls st hp r h
    rw [run] at h ⊢
    cases hl : lkp pc C with
    | none => rw [hl] at h; cases h
    | some e =>
      obtain ⟨p, i, len, a, b, z⟩ := e
      rw [hl] at h
      dsimp only at h ⊢
      cases he : exec1 i len a b z d pc ls st hp with
      | none => rw [he] at h; cases h
      | some act =>
        rw [he] at h
        rcases act with ⟨⟨pc', ls', st'⟩, hp'⟩ | ⟨μ, args, rest⟩ | v | E
        · exact ih _ _ _ _ _ _ _ h
        · dsimp only at h ⊢
          cases d with
          | zero => cases h
          | succ d' =>
            dsimp only at h ⊢
            by_cases hIR : args.all isIR = true
            case neg =>
              rw [if_neg hIR] at h
              cases h
            rw [if_pos hIR] at h ⊢
            cases hc : run n d' (codeOf μ) 0 (entryL args (maxOf μ)) [] hp with
            | none => rw [hc] at h; cases h
            | some q =>
              rw [hc] at h
              rw [ih _ _ _ _ _ _ _ hc]
              obtain ⟨v | E, hp'⟩ := q
              · exact ih _ _ _ _ _ _ _ h
              · exact h
        · exact h
        · exact h
theorem run_up {n d : Nat} {C : List EN} {pc : Nat} {ls : List (Option VL)} {st : List VL} {hp : HP} {r : RES} (h : run n d C pc ls st hp = some r) (k : Nat) : run (n + k) d C pc ls st hp = some r := by
  induction k with
  | zero => exact h
  | succ k ih => exact run_mono _ _ _ _ _ _ _ _ ih
def Ex (d : Nat) (C : List EN) (pc : Nat) (ls : List (Option VL)) (st : List VL) (hp : HP) (r : RES) : Prop := ∃ n, run n d C pc ls st hp = some r
def Calls (d μ : Nat) (args : List VL) (hp : HP) (r : RES) : Prop := Ex d (codeOf μ) 0 (entryL args (maxOf μ)) [] hp r
section EX
variable {d : Nat} {C : List EN} {pc : Nat} {ls : List (Option VL)} {st : List VL} {hp : HP} {r : RES}
theorem Ex.go (k : Nat) {pc' : Nat} {ls' : List (Option VL)} {st' : List VL} {hp' : HP} (h : ∀ n, run (n + k) d C pc ls st hp = run n d C pc' ls' st' hp') (x : Ex d C pc' ls' st' hp' r) : Ex d C pc ls st hp r := by
  obtain ⟨n, hn⟩ := x
  exact ⟨n + k, (h n).trans hn⟩
theorem Ex.one {p : Nat} {i : Instr} {len a b : Nat} {z : Int32} {pc' : Nat} {ls' : List (Option VL)} {st' : List VL} {hp' : HP} (hl : lkp pc C = some (p, i, len, a, b, z)) (he : exec1 i len a b z d pc ls st hp = some (.inl ((pc', ls', st'), hp'))) (x : Ex d C pc' ls' st' hp' r) : Ex d C pc ls st hp r := by
  obtain ⟨n, hn⟩ := x
  refine ⟨n + 1, ?_⟩
  rw [run, hl]
  dsimp only
  rw [he]
  exact hn
theorem Ex.ret {p : Nat} {i : Instr} {len a b : Nat} {z : Int32} {v : Option VL} (hl : lkp pc C = some (p, i, len, a, b, z)) (he : exec1 i len a b z d pc ls st hp = aRet v) (hr : r = (.inl v, hp)) : Ex d C pc ls st hp r := by
  refine ⟨1, ?_⟩
  rw [run, hl]
  dsimp only
  rw [he, hr]
  rfl
theorem Ex.thr {p : Nat} {i : Instr} {len a b : Nat} {z : Int32} {E : Nat} (hl : lkp pc C = some (p, i, len, a, b, z)) (he : exec1 i len a b z d pc ls st hp = aThr E) (hr : r = (.inr E, hp)) : Ex d C pc ls st hp r := by
  refine ⟨1, ?_⟩
  rw [run, hl]
  dsimp only
  rw [he, hr]
  rfl
theorem Ex.call {p : Nat} {i : Instr} {len a b μ : Nat} {z : Int32} {args rest : List VL} {v : Option VL} {hp1 : HP} (hl : lkp pc C = some (p, i, len, a, b, z)) (he : exec1 i len a b z (d + 1) pc ls st hp = aCall μ args rest) (hIR : args.all isIR = true)
    (hc : Calls d μ args hp (.inl v, hp1)) (k : Ex (d + 1) C (pc + 3) ls (v.toList ++ rest) hp1 r) : Ex (d + 1) C pc ls st hp r := by
  obtain ⟨n1, h1⟩ := hc
  obtain ⟨n2, h2⟩ := k
  refine ⟨(n1 + n2) + 1, ?_⟩
  rw [run, hl]
  dsimp only
  rw [he]
  show (if args.all isIR = true then (match run (n1 + n2) d (codeOf μ) 0 (entryL args (maxOf μ)) [] hp with
          | some (.inl v, hp') => run (n1 + n2) (d + 1) C (pc + 3) ls (v.toList ++ rest) hp'
          | some (.inr E, hp') => some (.inr E, hp')
          | none => none) else none) = some r
  rw [if_pos hIR, run_up h1 n2]
  dsimp only
  rw [Nat.add_comm]
  exact run_up h2 n1
theorem Ex.callT {p : Nat} {i : Instr} {len a b μ : Nat} {z : Int32} {args rest : List VL} {E : Nat} {hp1 : HP} (hl : lkp pc C = some (p, i, len, a, b, z)) (he : exec1 i len a b z (d + 1) pc ls st hp = aCall μ args rest) (hIR : args.all isIR = true)
    (hc : Calls d μ args hp (.inr E, hp1)) (hr : r = (.inr E, hp1)) : Ex (d + 1) C pc ls st hp r := by
  obtain ⟨n1, h1⟩ := hc
  refine ⟨n1 + 1, ?_⟩
  rw [run, hl]
  dsimp only
  rw [he]
  show (if args.all isIR = true then (match run n1 d (codeOf μ) 0 (entryL args (maxOf μ)) [] hp with
          | some (.inl v, hp') => run n1 (d + 1) C (pc + 3) ls (v.toList ++ rest) hp'
          | some (.inr E, hp') => some (.inr E, hp')
          | none => none) else none) = some r
  rw [if_pos hIR, h1, hr]
theorem Ex.icmp {p : Nat} {c : Jvm.ClassFile.Cond} {off : Int} {len a b : Nat} {z x y : Int32} (hl : lkp pc C = some (p, .if_icmp c off, len, a, b, z)) (k : brI c x y (Ex d C (tg pc off) ls st hp r) (Ex d C (pc + len) ls st hp r)) : Ex d C pc ls (vI y :: vI x :: st) hp r := by
  have key : ∀ g : Prop → Prop, True := fun _ => trivial
  cases c <;> simp only [brI] at k <;> split at k <;> rename_i hc
  all_goals first
    | exact Ex.one (ls' := ls) (st' := st) (hp' := hp) hl (by simp only [exec1, brI]; rw [if_pos hc]; rfl) k
    | exact Ex.one (ls' := ls) (st' := st) (hp' := hp) hl (by simp only [exec1, brI]; rw [if_neg hc]; rfl) k
theorem Ex.ifc {p : Nat} {c : Jvm.ClassFile.Cond} {off : Int} {len a b : Nat} {z x : Int32} (hl : lkp pc C = some (p, .ifCond c off, len, a, b, z)) (k : brI c x 0 (Ex d C (tg pc off) ls st hp r) (Ex d C (pc + len) ls st hp r)) : Ex d C pc ls (vI x :: st) hp r := by
  cases c <;> simp only [brI] at k <;> split at k <;> rename_i hc
  all_goals first
    | exact Ex.one (ls' := ls) (st' := st) (hp' := hp) hl (by simp only [exec1, brI]; rw [if_pos hc]; rfl) k
    | exact Ex.one (ls' := ls) (st' := st) (hp' := hp) hl (by simp only [exec1, brI]; rw [if_neg hc]; rfl) k
end EX
