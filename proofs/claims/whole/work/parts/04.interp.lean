/-! ===== a small machine of numbers: what the methods of the class and of the reference do, instruction by instruction ===== -/
abbrev RF : Type := Nat × Nat × Nat
abbrev VL : Type := Int32 ⊕ (RF ⊕ (UInt64 ⊕ UInt32))
abbrev HP : Type := RF → Nat → Int32
abbrev vI (x : Int32) : VL := .inl x
abbrev vR (r : RF) : VL := .inr (.inl r)
abbrev vD (x : UInt64) : VL := .inr (.inr (.inl x))
abbrev vF (x : UInt32) : VL := .inr (.inr (.inr x))
/-- minus one -/
def m1 : Int32 := -1
abbrev EN : Type := Nat × Instr × Nat × Nat × Nat × Int32
abbrev ACT : Type := ((Nat × List (Option VL) × List VL) × HP) ⊕ ((Nat × List VL × List VL) ⊕ (Option VL ⊕ Nat))
abbrev RES : Type := (Option VL ⊕ Nat) × HP
/-- the words that values take -/
def catL : List VL → Nat
  | [] => 0
  | .inr (.inr (.inl _)) :: l => 2 + catL l
  | _ :: l => 1 + catL l
def up (hp : HP) (r : RF) (k : Nat) (x : Int32) : HP := fun r' k' => if r' = r ∧ k' = k then x else hp r' k'
/-- the fields: how many, of which kind (0 a number, 1 a truth value, 2 a reference) -/
def nF (c : Nat) : Nat := match c with
  | 0 => 9 | 1 => 5 | 2 => 3 | 3 => 10 | 4 => 3 | 5 => 9 | 6 => 5 | 7 => 1 | 8 => 2 | 9 => 12 | 10 => 31 | _ => 0
def inb (i : Int32) (n : Nat) : Bool := !(decide (i < 0)) && decide (i.toNatClampNeg < n)
def isB (x : Int32) : Bool := decide (x = 0) || decide (x = 1)
def imax (x y : Int32) : Int32 := if x < y then y else x
def imin (x y : Int32) : Int32 := if y < x then y else x
def iabs (x : Int32) : Int32 := if 0 ≤ x then x else 0 - x
def idv (x y : Int32) : Int32 := x / y
def irm (x y : Int32) : Int32 := x - x / y * y
def okD (x : UInt64) : Bool := decide (x &&& 0x7fffffffffffffff ≤ 0x7ff0000000000000)
def okF (x : UInt32) : Bool := decide (x &&& 0x7fffffff ≤ 0x7f800000)
def tg (pc : Nat) (off : Int) : Nat := ((pc : Int) + off).toNat
def aC (pc : Nat) (ls : List (Option VL)) (st : List VL) (hp : HP) : Option ACT := some (.inl ((pc, ls, st), hp))
def aCall (μ : Nat) (args rest : List VL) : Option ACT := some (.inr (.inl (μ, args, rest)))
def aRet (v : Option VL) : Option ACT := some (.inr (.inr (.inl v)))
def aThr (E : Nat) : Option ACT := some (.inr (.inr (.inr E)))
def brI {α : Type} (c : Jvm.ClassFile.Cond) (x y : Int32) (a b : α) : α := match c with
  | .eq => if x = y then a else b
  | .ne => if x = y then b else a
  | .lt => if x < y then a else b
  | .ge => if x < y then b else a
  | .gt => if y < x then a else b
  | .le => if y < x then b else a
/-- a switch: its cases one behind the other -/
def swI {α : Type} (x : Int32) (f : Int → α) (d : α) : List (Int × Int) → α
  | [] => d
  | (k, off) :: l => if x = Int32.ofInt k then f off else swI x f d l
def tsP (lo : Int) (offs : List Int) : List (Int × Int) := match offs with
  | [] => []
  | o :: l => (lo, o) :: tsP (lo + 1) l
def cpA (hp : HP) (src dst : RF) (sp dp n : Nat) : HP := fun r k => if r = dst ∧ (dp ≤ k ∧ k < dp + n) then hp src (sp + (k - dp)) else hp r k
def fK (c k : Nat) : Nat := match c with
  | 0 => (match k with | 0 => 2 | 1 => 2 | 2 => 2 | 3 => 2 | 4 => 2 | 5 => 0 | 6 => 0 | 7 => 0 | 8 => 0 | _ => 3)
  | 1 => (match k with | 0 => 2 | 1 => 2 | 2 => 0 | 3 => 0 | 4 => 1 | _ => 3)
  | 2 => (match k with | 0 => 2 | 1 => 0 | 2 => 0 | _ => 3)
  | 3 => (match k with | 0 => 2 | 1 => 2 | 2 => 2 | 3 => 2 | 4 => 2 | 5 => 2 | 6 => 0 | 7 => 0 | 8 => 0 | 9 => 0 | _ => 3)
  | 4 => (match k with | 0 => 2 | 1 => 2 | 2 => 2 | _ => 3)
  | 5 => (match k with | 0 => 2 | 1 => 2 | 2 => 0 | 3 => 0 | 4 => 0 | 5 => 0 | 6 => 0 | 7 => 0 | 8 => 0 | _ => 3)
  | 6 => (match k with | 0 => 2 | 1 => 2 | 2 => 0 | 3 => 1 | 4 => 0 | _ => 3)
  | 7 => (match k with | 0 => 2 | _ => 3)
  | 8 => (match k with | 0 => 2 | 1 => 1 | _ => 3)
  | 9 => (match k with | 0 => 2 | 1 => 0 | 2 => 1 | 3 => 2 | 4 => 2 | 5 => 2 | 6 => 2 | 7 => 2 | 8 => 2 | 9 => 2 | 10 => 0 | 11 => 2 | _ => 3)
  | 10 => (match k with | 0 => 0 | 1 => 1 | 2 => 0 | 3 => 2 | 4 => 2 | 5 => 2 | 6 => 2 | 7 => 2 | 8 => 0 | 9 => 2 | 10 => 2 | 11 => 0 | 12 => 0 | 13 => 0 | 14 => 0 | 15 => 0 | 16 => 0 | 17 => 0 | 18 => 0 | 19 => 0 | 20 => 0 | 21 => 2 | 22 => 2 | 23 => 2 | 24 => 0 | 25 => 0 | 26 => 2 | 27 => 2 | 28 => 0 | 29 => 2 | 30 => 0 | _ => 3)
  | _ => 3
/-- where a reference field points, in the finished system -/
def fref (r : RF) (k : Nat) : RF := match r with | (c, w, m) => (match c with
  | 0 => (match k with | 0 => (7, 0, m) | 1 => (7, 5, m) | 2 => (7, 6, m) | 3 => (7, 7, m) | 4 => (7, 8, m) | _ => (99, 0, 0))
  | 1 => (match k with | 0 => (7, 0, m) | 1 => (7, 4, m) | _ => (99, 0, 0))
  | 2 => (match k with | 0 => (13, 0, 0) | _ => (99, 0, 0))
  | 3 => (match k with | 0 => (7, 0, m) | 1 => (6, 0, m) | 2 => (4, 0, m) | 3 => (1, 0, m) | 4 => (0, 0, m) | 5 => (7, 9, m) | _ => (99, 0, 0))
  | 4 => (match k with | 0 => (7, 0, m) | 1 => (7, 2, m) | 2 => (7, 3, m) | _ => (99, 0, 0))
  | 5 => (match k with | 0 => (7, 10, 0) | 1 => (3, 0, 1) | _ => (99, 0, 0))
  | 6 => (match k with | 0 => (7, 0, m) | 1 => (7, 1, m) | _ => (99, 0, 0))
  | 7 => (match k with | 0 => (11, w, m) | _ => (99, 0, 0))
  | 8 => (match k with | 0 => (3, 0, 10 + m) | _ => (99, 0, 0))
  | 9 => (match k with | 0 => (7, 10, 0) | 3 => (3, 0, 0) | 4 => (3, 0, 1) | 5 => (5, 0, 0) | 6 => (2, 0, 0) | 7 => (8, 0, 0) | 8 => (8, 0, 1) | 9 => (7, 11, 0) | 11 => (7, 12, 0) | _ => (99, 0, 0))
  | 10 => (match k with | 3 => (11, 20, 0) | 4 => (11, 21, 0) | 5 => (11, 22, 0) | 6 => (11, 23, 0) | 7 => (11, 24, 0) | 9 => (12, 0, 0) | 10 => (11, 25, 0) | 21 => (11, 26, 0) | 22 => (11, 27, 0) | 23 => (11, 28, 0) | 26 => (11, 29, 0) | 27 => (11, 30, 0) | 29 => (11, 31, 0) | _ => (99, 0, 0))
  | _ => (99, 0, 0))
def wlen (w : Nat) : Nat := match w with | 0 => 13 | 1 => 60 | 2 => 480 | 3 => 480 | 4 => 40 | 5 => 26 | 6 => 26 | 7 => 26 | 8 => 26 | 9 => 14 | 10 => 500 | 11 => 40 | 12 => 41 | 20 => 26 | 21 => 26 | 22 => 1150 | 23 => 1150 | 24 => 11500 | 25 => 500 | 26 => 1150 | 27 => 26 | 28 => 26 | 29 => 41 | 30 => 41 | 31 => 60 | _ => 0
def alen (r : RF) : Nat := if r.1 = 11 then wlen r.2.1 else if r.1 = 12 then 2 else 8
/-- the words: 0 machine, 1 speed, 2 ribbon, 3 bar, 4 tab -/
def txt (w : Nat) : List Int32 := match w with | 0 => [109, 97, 99, 104, 105, 110, 101] | 1 => [115, 112, 101, 101, 100] | 2 => [114, 105, 98, 98, 111, 110] | 3 => [98, 97, 114] | 4 => [116, 97, 98] | _ => []
/-- one instruction -/
def exec1 (i : Instr) (len a b : Nat) (z : Int32) (d pc : Nat) (ls : List (Option VL)) (st : List VL) (hp : HP) : Option ACT := match i with
  | .iconst _ => aC (pc + len) ls (vI z :: st) hp
  | .bipush _ => aC (pc + len) ls (vI z :: st) hp
  | .sipush _ => aC (pc + len) ls (vI z :: st) hp
  | .iload k => (match ls[k]? with | some (some (.inl x)) => aC (pc + len) ls (vI x :: st) hp | _ => none)
  | .iload_n k => (match ls[k.val]? with | some (some (.inl x)) => aC (pc + len) ls (vI x :: st) hp | _ => none)
  | .aload k => (match ls[k]? with | some (some (.inr (.inl r))) => aC (pc + len) ls (vR r :: st) hp | _ => none)
  | .aload_n k => (match ls[k.val]? with | some (some (.inr (.inl r))) => aC (pc + len) ls (vR r :: st) hp | _ => none)
  | .istore k => (match st with | .inl x :: st => aC (pc + len) (ls.set k (some (vI x))) st hp | _ => none)
  | .istore_n k => (match st with | .inl x :: st => aC (pc + len) (ls.set k.val (some (vI x))) st hp | _ => none)
  | .astore k => (match st with | .inr (.inl r) :: st => aC (pc + len) (ls.set k (some (vR r))) st hp | _ => none)
  | .astore_n k => (match st with | .inr (.inl r) :: st => aC (pc + len) (ls.set k.val (some (vR r))) st hp | _ => none)
  | .iinc k _ => (match ls[k]? with | some (some (.inl x)) => aC (pc + len) (ls.set k (some (vI (x + z)))) st hp | _ => none)
  | .iadd => (match st with | .inl y :: .inl x :: st => aC (pc + len) ls (vI (x + y) :: st) hp | _ => none)
  | .isub => (match st with | .inl y :: .inl x :: st => aC (pc + len) ls (vI (x - y) :: st) hp | _ => none)
  | .imul => (match st with | .inl y :: .inl x :: st => aC (pc + len) ls (vI (x * y) :: st) hp | _ => none)
  | .iand => (match st with | .inl y :: .inl x :: st => aC (pc + len) ls (vI (x &&& y) :: st) hp | _ => none)
  | .ishr => (match st with | .inl y :: .inl x :: st => aC (pc + len) ls (vI (x >>> (y &&& 31)) :: st) hp | _ => none)
  | .idiv => (match st with | .inl y :: .inl x :: st => if y = 0 then none else aC (pc + len) ls (vI (idv x y) :: st) hp | _ => none)
  | .irem => (match st with | .inl y :: .inl x :: st => if y = 0 then none else aC (pc + len) ls (vI (irm x y) :: st) hp | _ => none)
  | .dup => (match st with | .inl x :: st => aC (pc + len) ls (vI x :: vI x :: st) hp | .inr (.inl r) :: st => aC (pc + len) ls (vR r :: vR r :: st) hp | _ => none)
  | .dup2 => (match st with | .inl x :: .inr (.inl r) :: st => aC (pc + len) ls (vI x :: vR r :: vI x :: vR r :: st) hp | _ => none)
  | .pop => (match st with | .inl _ :: st => aC (pc + len) ls st hp | _ => none)
  | .goto off => aC (tg pc off) ls st hp
  | .if_icmp c off => (match st with | .inl y :: .inl x :: st => brI c x y (aC (tg pc off) ls st hp) (aC (pc + len) ls st hp) | _ => none)
  | .ifCond c off => (match st with | .inl x :: st => brI c x 0 (aC (tg pc off) ls st hp) (aC (pc + len) ls st hp) | _ => none)
  | .ifnull _ => (match st with | .inr (.inl _) :: st => aC (pc + len) ls st hp | _ => none)
  | .getfield _ => (match st with | .inr (.inl r) :: st => if r.1 = a then (if fK a b = 2 then aC (pc + len) ls (vR (fref r b) :: st) hp else aC (pc + len) ls (vI (hp r b) :: st) hp) else none | _ => none)
  | .putfield _ => (match st with | .inl x :: .inr (.inl r) :: st => if r.1 = a then (if fK a b = 0 then aC (pc + len) ls st (up hp r b x) else if isB x = true then aC (pc + len) ls st (up hp r b x) else none) else none | _ => none)
  | .iaload => (match st with | .inl j :: .inr (.inl r) :: st => if r.1 = 11 then (if inb j (alen r) = true then aC (pc + len) ls (vI (hp r j.toNatClampNeg) :: st) hp else none) else none | _ => none)
  | .iastore => (match st with | .inl x :: .inl j :: .inr (.inl r) :: st => if r.1 = 11 then (if inb j (alen r) = true then aC (pc + len) ls st (up hp r j.toNatClampNeg x) else none) else none | _ => none)
  | .baload => (match st with | .inl j :: .inr (.inl r) :: st => if r.1 = 12 then (if inb j (alen r) = true then aC (pc + len) ls (vI (hp r j.toNatClampNeg) :: st) hp else none) else none | _ => none)
  | .bastore => (match st with | .inl x :: .inl j :: .inr (.inl r) :: st => if r.1 = 12 then (if inb j (alen r) = true then (if isB x = true then aC (pc + len) ls st (up hp r j.toNatClampNeg x) else none) else none) else none | _ => none)
  | .aaload => (match st with | .inl j :: .inr (.inl r) :: st => if r.1 = 13 then (if inb j 8 = true then aC (pc + len) ls (vR (3, 0, 2 + j.toNatClampNeg) :: st) hp else none) else none | _ => none)
  | .arraylength => (match st with | .inr (.inl r) :: st => if 11 ≤ r.1 ∧ r.1 ≠ 20 then aC (pc + len) ls (vI (nI (alen r)) :: st) hp else none | _ => none)
  | .i2d => (match st with | .inl x :: st => aC (pc + len) ls (vD (FP.i2d x) :: st) hp | _ => none)
  | .i2f => (match st with | .inl x :: st => aC (pc + len) ls (vF (FP.i2f x) :: st) hp | _ => none)
  | .ddiv => (match st with | .inr (.inr (.inl y)) :: .inr (.inr (.inl x)) :: st => if okD (FP.ddiv x y) = true then aC (pc + len) ls (vD (FP.ddiv x y) :: st) hp else none | _ => none)
  | .fdiv => (match st with | .inr (.inr (.inr y)) :: .inr (.inr (.inr x)) :: st => if okF (FP.fdiv x y) = true then aC (pc + len) ls (vF (FP.fdiv x y) :: st) hp else none | _ => none)
  | .dconst k => if k = 0 then aC (pc + len) ls (vD FP.dconst0 :: st) hp else none
  | .fconst k => if k = 0 then aC (pc + len) ls (vF FP.fconst0 :: st) hp else none
  | .tableswitch dflt lo _ offs => (match st with | .inl x :: st => swI x (fun o => aC (tg pc o) ls st hp) (aC (tg pc dflt) ls st hp) (tsP lo offs.toList) | _ => none)
  | .lookupswitch dflt ps => (match st with | .inl x :: st => swI x (fun o => aC (tg pc o) ls st hp) (aC (tg pc dflt) ls st hp) ps.toList | _ => none)
  | .ldc _ => aC (pc + len) ls (vR (20, a, 0) :: st) hp
  | .new _ => (match d, st with | _ + 6, [] => aThr a | _, _ => none)
  | .invokevirtual _ =>
    if a = 1004 then (match d, st with | _ + 5, .inr (.inl r) :: st => if r.1 = 20 ∧ catL st ≤ 8 then aC (pc + len) ls (vI (nI (txt r.2.1).length) :: st) hp else none | _, _ => none)
    else if a = 1005 then (match d, st with | _ + 5, .inl j :: .inr (.inl r) :: st => if r.1 = 20 ∧ catL st ≤ 8 then (if inb j (txt r.2.1).length = true then aC (pc + len) ls (vI ((txt r.2.1).getD j.toNatClampNeg 0) :: st) hp else none) else none | _, _ => none)
    else (match st.drop (b % 16 - 1) with | .inr (.inl r) :: rest => if r.1 = b / 16 ∧ 1 ≤ b % 16 ∧ catL rest ≤ 8 then aCall a (vR r :: (st.take (b % 16 - 1)).reverse) rest else none | _ => none)
  | .invokestatic _ =>
    if a = 1000 then (match d, st with | _ + 1, .inl y :: .inl x :: st => if catL st ≤ 8 then aC (pc + len) ls (vI (imax x y) :: st) hp else none | _, _ => none)
    else if a = 1001 then (match d, st with | _ + 1, .inl y :: .inl x :: st => if catL st ≤ 8 then aC (pc + len) ls (vI (imin x y) :: st) hp else none | _, _ => none)
    else if a = 1002 then (match d, st with | _ + 1, .inl x :: st => if catL st ≤ 8 then aC (pc + len) ls (vI (iabs x) :: st) hp else none | _, _ => none)
    else if a = 1003 then (match d, st with
      | _ + 2, .inl n :: .inl dp :: .inr (.inl r1) :: .inl sp :: .inr (.inl r0) :: st =>
        if r0.1 = 11 ∧ r1.1 = 11 ∧ ¬ r0 = r1 ∧ catL st ≤ 8 then (if sp = 0 ∧ dp = 0 ∧ ¬ n < 0 ∧ n.toNatClampNeg ≤ alen r0 ∧ n.toNatClampNeg ≤ alen r1 then aC (pc + len) ls st (cpA hp r0 r1 0 0 n.toNatClampNeg) else none) else none
      | _, _ => none)
    else if b ≤ st.length ∧ catL (st.drop b) ≤ 8 then aCall a (st.take b).reverse (st.drop b) else none
  | .ireturn => (match st with | [.inl x] => if a = 1 then (if isB x = true then aRet (some (vI x)) else none) else aRet (some (vI x)) | _ => none)
  | .areturn => (match st with | [.inr (.inl r)] => aRet (some (vR r)) | _ => none)
  | .dreturn => (match st with | [.inr (.inr (.inl x))] => aRet (some (vD x)) | _ => none)
  | .freturn => (match st with | [.inr (.inr (.inr x))] => aRet (some (vF x)) | _ => none)
  | .return_ => (match st with | [] => aRet none | _ => none)
  | _ => none
def lkp (pc : Nat) : List EN → Option EN
  | [] => none
  | e :: l => if e.1 = pc then some e else lkp pc l
