/-! ===== rows of the small machine, for the methods' functions ===== -/
abbrev rsI (v : Int32) (hp : HP) : RES := (.inl (some (vI v)), hp)
abbrev rsV (_ : Unit) (hp : HP) : RES := (.inl none, hp)
abbrev rsD (v : UInt64) (hp : HP) : RES := (.inl (some (vD v)), hp)
abbrev rsF (v : UInt32) (hp : HP) : RES := (.inl (some (vF v)), hp)
abbrev rsM (m : Nat) (hp : HP) : RES := (.inl (some (vR (3, 0, m))), hp)
abbrev rsS (m : Nat) (hp : HP) : RES := (.inl (some (vR (8, 0, m))), hp)
abbrev rsT {τ : Type} (f : τ → HP → RES) (q : τ ⊕ Nat) (hp : HP) : RES := match q with
  | .inl v => f v hp
  | .inr E => (.inr E, hp)
/-- far more turns than any loop takes -/
theorem FU_ex : ∃ n : Nat, 12000 ≤ n := ⟨12000, Nat.le_refl _⟩
noncomputable def FU : Nat := Classical.choose FU_ex
theorem FU_ge : 12000 ≤ FU := Classical.choose_spec FU_ex
section BR
variable {α : Type} {x y : Int32} {a b : α}
theorem brI_eq_p (h : x = y) : brI .eq x y a b = a := if_pos h
theorem brI_eq_n (h : ¬ x = y) : brI .eq x y a b = b := if_neg h
theorem brI_ne_p (h : x = y) : brI .ne x y a b = b := if_pos h
theorem brI_ne_n (h : ¬ x = y) : brI .ne x y a b = a := if_neg h
theorem brI_lt_p (h : x < y) : brI .lt x y a b = a := if_pos h
theorem brI_lt_n (h : ¬ x < y) : brI .lt x y a b = b := if_neg h
theorem brI_ge_p (h : x < y) : brI .ge x y a b = b := if_pos h
theorem brI_ge_n (h : ¬ x < y) : brI .ge x y a b = a := if_neg h
theorem brI_gt_p (h : y < x) : brI .gt x y a b = a := if_pos h
theorem brI_gt_n (h : ¬ y < x) : brI .gt x y a b = b := if_neg h
theorem brI_le_p (h : y < x) : brI .le x y a b = b := if_pos h
theorem brI_le_n (h : ¬ y < x) : brI .le x y a b = a := if_neg h
end BR
theorem sw_c {x k : Int32} {f : Int → Prop} {dd : Prop} {kk off : Int} {l : List (Int × Int)} (hk : Int32.ofInt kk = k) (h1 : x = k → f off) (h2 : ¬ x = k → swI x f dd l) : swI x f dd ((kk, off) :: l) := by
  show if x = Int32.ofInt kk then f off else swI x f dd l
  rw [hk]
  by_cases h : x = k
  · rw [if_pos h]; exact h1 h
  · rw [if_neg h]; exact h2 h
section EX2
variable {d : Nat} {C : List EN} {pc p len a b : Nat} {z : Int32} {ls : List (Option VL)} {st : List VL} {hp : HP} {res : RES} {r : RF}
theorem Ex.iald {j : Int32} {k : Nat} (hl : lkp pc C = some (p, .iaload, len, a, b, z)) (h1 : r.1 = 11) (hc : inb j (alen r) = true) (hk : j.toNatClampNeg = k) (x : Ex d C (pc + len) ls (vI (hp r k) :: st) hp res) : Ex d C pc ls (vI j :: vR r :: st) hp res := by
  subst hk
  refine Ex.one (ls' := ls) (st' := vI (hp r j.toNatClampNeg) :: st) (hp' := hp) hl ?_ x
  show (if r.1 = 11 then (if inb j (alen r) = true then aC (pc + len) ls (vI (hp r j.toNatClampNeg) :: st) hp else none) else none) = _
  rw [if_pos h1, if_pos hc]
  rfl
theorem Ex.bald {j : Int32} {k : Nat} (hl : lkp pc C = some (p, .baload, len, a, b, z)) (h1 : r.1 = 12) (hc : inb j (alen r) = true) (hk : j.toNatClampNeg = k) (x : Ex d C (pc + len) ls (vI (hp r k) :: st) hp res) : Ex d C pc ls (vI j :: vR r :: st) hp res := by
  subst hk
  refine Ex.one (ls' := ls) (st' := vI (hp r j.toNatClampNeg) :: st) (hp' := hp) hl ?_ x
  show (if r.1 = 12 then (if inb j (alen r) = true then aC (pc + len) ls (vI (hp r j.toNatClampNeg) :: st) hp else none) else none) = _
  rw [if_pos h1, if_pos hc]
  rfl
theorem Ex.aald {j : Int32} (hl : lkp pc C = some (p, .aaload, len, a, b, z)) (h1 : r.1 = 13) (hc : inb j 8 = true) (x : Ex d C (pc + len) ls (vR (3, 0, 2 + j.toNatClampNeg) :: st) hp res) : Ex d C pc ls (vI j :: vR r :: st) hp res := by
  refine Ex.one (ls' := ls) (st' := vR (3, 0, 2 + j.toNatClampNeg) :: st) (hp' := hp) hl ?_ x
  show (if r.1 = 13 then (if inb j 8 = true then aC (pc + len) ls (vR (3, 0, 2 + j.toNatClampNeg) :: st) hp else none) else none) = _
  rw [if_pos h1, if_pos hc]
  rfl
theorem Ex.iast {j y : Int32} {k : Nat} (hl : lkp pc C = some (p, .iastore, len, a, b, z)) (h1 : r.1 = 11) (hc : inb j (alen r) = true) (hk : j.toNatClampNeg = k) (x : Ex d C (pc + len) ls st (up hp r k y) res) : Ex d C pc ls (vI y :: vI j :: vR r :: st) hp res := by
  subst hk
  refine Ex.one (ls' := ls) (st' := st) (hp' := up hp r j.toNatClampNeg y) hl ?_ x
  show (if r.1 = 11 then (if inb j (alen r) = true then aC (pc + len) ls st (up hp r j.toNatClampNeg y) else none) else none) = _
  rw [if_pos h1, if_pos hc]
  rfl
theorem Ex.bast {j y : Int32} {k : Nat} (hl : lkp pc C = some (p, .bastore, len, a, b, z)) (h1 : r.1 = 12) (hc : inb j (alen r) = true) (hk : j.toNatClampNeg = k) (hB : isB y = true) (x : Ex d C (pc + len) ls st (up hp r k y) res) : Ex d C pc ls (vI y :: vI j :: vR r :: st) hp res := by
  subst hk
  refine Ex.one (ls' := ls) (st' := st) (hp' := up hp r j.toNatClampNeg y) hl ?_ x
  show (if r.1 = 12 then (if inb j (alen r) = true then (if isB y = true then aC (pc + len) ls st (up hp r j.toNatClampNeg y) else none) else none) else none) = _
  rw [if_pos h1, if_pos hc, if_pos hB]
  rfl
theorem Ex.putz {y : Int32} {idx : Nat} (hl : lkp pc C = some (p, .putfield idx, len, a, b, z)) (h1 : r.1 = a) (h2 : fK a b = 1) (hB : isB y = true) (_ : (0 : Nat) = 0) (x : Ex d C (pc + len) ls st (up hp r b y) res) : Ex d C pc ls (vI y :: vR r :: st) hp res := by
  refine Ex.one (ls' := ls) (st' := st) (hp' := up hp r b y) hl ?_ x
  show (if r.1 = a then (if fK a b = 0 then aC (pc + len) ls st (up hp r b y) else if isB y = true then aC (pc + len) ls st (up hp r b y) else none) else none) = _
  rw [if_pos h1, if_neg (by rw [h2]; decide), if_pos hB]
  rfl
theorem Ex.idiv {y w : Int32} (hl : lkp pc C = some (p, .idiv, len, a, b, z)) (hne : ¬ y = 0) (x : Ex d C (pc + len) ls (vI (idv w y) :: st) hp res) : Ex d C pc ls (vI y :: vI w :: st) hp res := by
  refine Ex.one (ls' := ls) (st' := vI (idv w y) :: st) (hp' := hp) hl ?_ x
  show (if y = 0 then none else aC (pc + len) ls (vI (idv w y) :: st) hp) = _
  rw [if_neg hne]
  rfl
theorem Ex.irem {y w : Int32} (hl : lkp pc C = some (p, .irem, len, a, b, z)) (hne : ¬ y = 0) (x : Ex d C (pc + len) ls (vI (irm w y) :: st) hp res) : Ex d C pc ls (vI y :: vI w :: st) hp res := by
  refine Ex.one (ls' := ls) (st' := vI (irm w y) :: st) (hp' := hp) hl ?_ x
  show (if y = 0 then none else aC (pc + len) ls (vI (irm w y) :: st) hp) = _
  rw [if_neg hne]
  rfl
theorem Ex.ddiv {y w : UInt64} (hl : lkp pc C = some (p, .ddiv, len, a, b, z)) (hc : okD (FP.ddiv w y) = true) (x : Ex d C (pc + len) ls (vD (FP.ddiv w y) :: st) hp res) : Ex d C pc ls (vD y :: vD w :: st) hp res := by
  refine Ex.one (ls' := ls) (st' := vD (FP.ddiv w y) :: st) (hp' := hp) hl ?_ x
  show (if okD (FP.ddiv w y) = true then aC (pc + len) ls (vD (FP.ddiv w y) :: st) hp else none) = _
  rw [if_pos hc]
  rfl
theorem Ex.fdiv {y w : UInt32} (hl : lkp pc C = some (p, .fdiv, len, a, b, z)) (hc : okF (FP.fdiv w y) = true) (x : Ex d C (pc + len) ls (vF (FP.fdiv w y) :: st) hp res) : Ex d C pc ls (vF y :: vF w :: st) hp res := by
  refine Ex.one (ls' := ls) (st' := vF (FP.fdiv w y) :: st) (hp' := hp) hl ?_ x
  show (if okF (FP.fdiv w y) = true then aC (pc + len) ls (vF (FP.fdiv w y) :: st) hp else none) = _
  rw [if_pos hc]
  rfl
theorem Ex.chr {idx : Nat} {j : Int32} (hl : lkp pc C = some (p, .invokevirtual idx, len, 1005, b, z)) (h1 : r.1 = 20) (hc : inb j (txt r.2.1).length = true) (x : Ex (d + 5) C (pc + len) ls (vI ((txt r.2.1).getD j.toNatClampNeg 0) :: st) hp res) (hs : decide (catL st ≤ 8) = true := by rfl) : Ex (d + 5) C pc ls (vI j :: vR r :: st) hp res := by
  refine Ex.one (ls' := ls) (st' := vI ((txt r.2.1).getD j.toNatClampNeg 0) :: st) (hp' := hp) hl ?_ x
  show (if r.1 = 20 ∧ catL st ≤ 8 then (if inb j (txt r.2.1).length = true then aC (pc + len) ls (vI ((txt r.2.1).getD j.toNatClampNeg 0) :: st) hp else none) else none) = _
  rw [if_pos ⟨h1, of_decide_eq_true hs⟩, if_pos hc]
  rfl
theorem Ex.acp {idx : Nat} {n : Int32} {r0 r1 : RF} (hl : lkp pc C = some (p, .invokestatic idx, len, 1003, b, z)) (h0 : r0.1 = 11) (h1 : r1.1 = 11) (hc : (¬ r0 = r1) ∧ ¬ n < 0 ∧ n.toNatClampNeg ≤ alen r0 ∧ n.toNatClampNeg ≤ alen r1) (x : Ex (d + 2) C (pc + len) ls st (cpA hp r0 r1 0 0 n.toNatClampNeg) res) (hs : decide (catL st ≤ 8) = true := by rfl) : Ex (d + 2) C pc ls (vI n :: vI 0 :: vR r1 :: vI 0 :: vR r0 :: st) hp res := by
  refine Ex.one (ls' := ls) (st' := st) (hp' := cpA hp r0 r1 0 0 n.toNatClampNeg) hl ?_ x
  show (if r0.1 = 11 ∧ r1.1 = 11 ∧ ¬ r0 = r1 ∧ catL st ≤ 8 then (if (0 : Int32) = 0 ∧ (0 : Int32) = 0 ∧ ¬ n < 0 ∧ n.toNatClampNeg ≤ alen r0 ∧ n.toNatClampNeg ≤ alen r1 then aC (pc + len) ls st (cpA hp r0 r1 0 0 n.toNatClampNeg) else none) else none) = _
  rw [if_pos ⟨h0, h1, hc.1, of_decide_eq_true hs⟩, if_pos ⟨rfl, rfl, hc.2⟩]
  rfl
theorem Ex.retz {y : Int32} (hl : lkp pc C = some (p, .ireturn, len, 1, b, z)) (hB : isB y = true) (hr : res = (.inl (some (vI y)), hp)) : Ex d C pc ls [vI y] hp res := by
  refine Ex.ret (v := some (vI y)) hl ?_ hr
  show (if (1 : Nat) = 1 then (if isB y = true then aRet (some (vI y)) else none) else aRet (some (vI y))) = _
  rw [if_pos rfl, if_pos hB]
theorem Ex.iinc {k : Nat} {nn : Int} {x : Int32} (hl : lkp pc C = some (p, .iinc k nn, len, a, b, z)) (hk : ls[k]? = some (some (vI x))) (h : Ex d C (pc + len) (ls.set k (some (vI (x + z)))) st hp res) : Ex d C pc ls st hp res := by
  refine Ex.one (ls' := ls.set k (some (vI (x + z)))) (st' := st) (hp' := hp) hl ?_ h
  simp only [exec1, hk]
  rfl
theorem swI_Ex {α : Type} {x : Int32} {f : Int → α} {g : α} (P : α → Prop) : ∀ (l : List (Int × Int)), swI x (fun o => P (f o)) (P g) l → P (swI x f g l)
  | [], h => h
  | (k, o) :: l, h => by
    have h : if x = Int32.ofInt k then P (f o) else swI x (fun o => P (f o)) (P g) l := h
    show P (if x = Int32.ofInt k then f o else swI x f g l)
    by_cases hx : x = Int32.ofInt k
    · rw [if_pos hx] at h ⊢; exact h
    · rw [if_neg hx] at h ⊢; exact swI_Ex P l h
theorem Ex.tsw {x : Int32} {dflt lo hi : Int} {offs : Array Int} (hl : lkp pc C = some (p, .tableswitch dflt lo hi offs, len, a, b, z)) (k : swI x (fun o => Ex d C (tg pc o) ls st hp res) (Ex d C (tg pc dflt) ls st hp res) (tsP lo offs.toList)) : Ex d C pc ls (vI x :: st) hp res := by
  have h := swI_Ex (f := fun o => tg pc o) (g := tg pc dflt) (fun q => Ex d C q ls st hp res) _ k
  refine Ex.one (ls' := ls) (st' := st) (hp' := hp) hl ?_ h
  show swI x (fun o => aC (tg pc o) ls st hp) (aC (tg pc dflt) ls st hp) (tsP lo offs.toList) = _
  generalize tsP lo offs.toList = l
  induction l with
  | nil => rfl
  | cons q l ih =>
    obtain ⟨kk, o⟩ := q
    show (if x = Int32.ofInt kk then aC (tg pc o) ls st hp else swI x (fun o => aC (tg pc o) ls st hp) (aC (tg pc dflt) ls st hp) l) = some (Sum.inl (((if x = Int32.ofInt kk then tg pc o else swI x (fun o => tg pc o) (tg pc dflt) l), ls, st), hp))
    by_cases hx : x = Int32.ofInt kk
    · rw [if_pos hx, if_pos hx]; rfl
    · rw [if_neg hx, if_neg hx]; exact ih
theorem Ex.lsw {x : Int32} {dflt : Int} {ps : Array (Int × Int)} (hl : lkp pc C = some (p, .lookupswitch dflt ps, len, a, b, z)) (k : swI x (fun o => Ex d C (tg pc o) ls st hp res) (Ex d C (tg pc dflt) ls st hp res) ps.toList) : Ex d C pc ls (vI x :: st) hp res := by
  have h := swI_Ex (f := fun o => tg pc o) (g := tg pc dflt) (fun q => Ex d C q ls st hp res) _ k
  refine Ex.one (ls' := ls) (st' := st) (hp' := hp) hl ?_ h
  show swI x (fun o => aC (tg pc o) ls st hp) (aC (tg pc dflt) ls st hp) ps.toList = _
  generalize ps.toList = l
  induction l with
  | nil => rfl
  | cons q l ih =>
    obtain ⟨kk, o⟩ := q
    show (if x = Int32.ofInt kk then aC (tg pc o) ls st hp else swI x (fun o => aC (tg pc o) ls st hp) (aC (tg pc dflt) ls st hp) l) = some (Sum.inl (((if x = Int32.ofInt kk then tg pc o else swI x (fun o => tg pc o) (tg pc dflt) l), ls, st), hp))
    by_cases hx : x = Int32.ofInt kk
    · rw [if_pos hx, if_pos hx]; rfl
    · rw [if_neg hx, if_neg hx]; exact ih
end EX2
