/-! ===== the tables are the bytes: each entry is what the bytes decode to, and its links stand in the claim's tables ===== -/
def lenI (i : Instr) : Nat := match i with
  | .bipush _ => 2 | .sipush _ => 3 | .iload _ => 2 | .aload _ => 2 | .istore _ => 2 | .astore _ => 2 | .iinc _ _ => 3 | .goto _ => 3 | .if_icmp _ _ => 3 | .ifCond _ _ => 3 | .ifnull _ => 3
  | .getfield _ => 3 | .putfield _ => 3 | .ldc _ => 2 | .new _ => 3 | .invokevirtual _ => 3 | .invokestatic _ => 3 | _ => 1
def isSw (i : Instr) : Bool := match i with
  | .tableswitch _ _ _ _ => true | .lookupswitch _ _ => true | _ => false
def okOff (pc : Nat) (off : Int) : Bool := decide (0 ≤ (pc : Int) + off)
def okL (own : Nat) (nL : Nat) (ret : Option FieldType) (pc : Nat) (i : Instr) (a b : Nat) (z : Int32) : Bool := match i with
  | .iconst n => decide (Int32.ofInt n = z)
  | .bipush n => decide ((Int8.ofInt n).toInt32 = z)
  | .sipush n => decide ((Int16.ofInt n).toInt32 = z)
  | .istore k => decide (k < nL)
  | .istore_n k => decide (k.val < nL)
  | .astore k => decide (k < nL)
  | .astore_n k => decide (k.val < nL)
  | .iinc k n => decide (k < nL) && decide (Int32.ofInt n = z)
  | .goto off => okOff pc off
  | .if_icmp _ off => okOff pc off
  | .ifCond _ off => okOff pc off
  | .ifnull off => okOff pc off
  | .getfield idx => (decide ((own, idx, a, b) ∈ lnkF) || decide ((own, idx, a, b) ∈ lnkFN)) && decide (a ≤ 10) && decide (b < nF a)
  | .putfield idx => (decide ((own, idx, a, b) ∈ lnkF) || decide ((own, idx, a, b) ∈ lnkFN)) && decide (a ≤ 10) && decide (b < nF a) && !(TT a b).2.2.2 && decide (fK a b ≤ 1)
  | .tableswitch d lo hi offs => decide (hi - lo + 1 = (offs.size : Int)) && okOff pc d && offs.toList.all (okOff pc) && decide (-2147483648 ≤ lo) && decide (hi ≤ 2147483647)
  | .lookupswitch d ps => (ps.toList.zip (ps.toList.drop 1)).all (fun (x, next) => x.1 < next.1) && okOff pc d && ps.toList.all (fun x => okOff pc x.2 && decide (-2147483648 ≤ x.1) && decide (x.1 ≤ 2147483647))
  | .ldc idx => decide ((own, idx, a) ∈ lnkL)
  | .invokevirtual idx => if a = 1004 ∨ a = 1005 then decide ((own, idx, a) ∈ lnkB) else (decide ((own, idx, a) ∈ lnkM) && decide (a < 290))
  | .invokestatic idx => if 1000 ≤ a then decide (a ≤ 1003) && decide ((own, idx, a) ∈ lnkB) else ((decide ((own, idx, a) ∈ lnkM) || decide ((own, idx, a) ∈ lnkMN)) && decide (a < 290))
  | .ireturn => decide (ret = if a = 1 then some .boolean else some .int)
  | .dreturn => decide (ret = some .double)
  | .freturn => decide (ret = some .float)
  | .return_ => decide (ret = none)
  | .areturn => (match ret with | some (.object _) => true | _ => false)
  | _ => true
def okE (own : Nat) (cc : ByteArray) (nL : Nat) (ret : Option FieldType) (e : EN) : Bool := decide (decode cc e.1 = .ok (e.2.1, e.2.2.1)) && (isSw e.2.1 || decide (e.2.2.1 = lenI e.2.1)) && okL own nL ret e.1 e.2.1 e.2.2.2.1 e.2.2.2.2.1 e.2.2.2.2.2
/-- a method's class (by its name's class), is it static, how many arguments with the object itself -/
def mu0 (i : Nat) : Nat × Bool × Nat := match i with | 0 => (0, false, 1) | 1 => (0, false, 0) | 2 => (0, false, 2) | 3 => (0, false, 1) | 4 => (0, false, 1) | 5 => (0, false, 1) | 6 => (0, false, 1) | 7 => (0, false, 0) | 8 => (0, false, 1) | 9 => (0, false, 2) | 10 => (0, false, 2) | 11 => (0, false, 2) | 12 => (0, false, 1) | 13 => (0, false, 0) | 14 => (0, false, 2) | 15 => (0, false, 0) | 16 => (0, false, 0) | 17 => (1, false, 1) | 18 => (1, false, 0) | 19 => (1, false, 1) | _ => (0, false, 0)
def mu1 (i : Nat) : Nat × Bool × Nat := match i with | 0 => (1, false, 1) | 1 => (1, false, 0) | 2 => (1, false, 1) | 3 => (1, false, 0) | 4 => (1, false, 0) | 5 => (1, false, 1) | 6 => (1, false, 1) | 7 => (1, false, 2) | 8 => (1, false, 3) | 9 => (1, true, 3) | 10 => (2, false, 0) | 11 => (2, false, 1) | 12 => (2, false, 1) | 13 => (2, false, 1) | 14 => (3, false, 1) | 15 => (3, false, 1) | 16 => (3, false, 0) | 17 => (3, false, 0) | 18 => (3, false, 2) | 19 => (3, false, 0) | _ => (0, false, 0)
def mu2 (i : Nat) : Nat × Bool × Nat := match i with | 0 => (3, false, 1) | 1 => (3, false, 1) | 2 => (3, false, 1) | 3 => (3, false, 2) | 4 => (3, false, 2) | 5 => (3, false, 0) | 6 => (3, false, 1) | 7 => (3, false, 1) | 8 => (3, false, 0) | 9 => (3, false, 1) | 10 => (3, false, 2) | 11 => (4, false, 1) | 12 => (4, false, 0) | 13 => (4, false, 2) | 14 => (4, false, 1) | 15 => (4, false, 3) | 16 => (4, false, 0) | 17 => (4, false, 1) | 18 => (4, false, 1) | 19 => (4, false, 1) | _ => (0, false, 0)
def mu3 (i : Nat) : Nat × Bool × Nat := match i with | 0 => (4, false, 0) | 1 => (4, false, 0) | 2 => (4, false, 0) | 3 => (5, false, 1) | 4 => (5, false, 0) | 5 => (5, false, 0) | 6 => (5, false, 2) | 7 => (5, false, 2) | 8 => (5, false, 2) | 9 => (5, false, 1) | 10 => (5, false, 0) | 11 => (5, false, 1) | 12 => (5, false, 1) | 13 => (5, false, 0) | 14 => (5, false, 0) | 15 => (5, false, 0) | 16 => (6, false, 1) | 17 => (6, false, 0) | 18 => (6, false, 0) | 19 => (6, false, 0) | _ => (0, false, 0)
def mu4 (i : Nat) : Nat × Bool × Nat := match i with | 0 => (6, false, 0) | 1 => (7, false, 1) | 2 => (7, false, 2) | 3 => (7, false, 1) | 4 => (7, false, 1) | 5 => (9, false, 5) | 6 => (9, false, 1) | 7 => (9, false, 1) | 8 => (9, false, 0) | 9 => (9, false, 0) | 10 => (9, false, 0) | 11 => (9, false, 1) | 12 => (9, false, 1) | 13 => (9, false, 1) | 14 => (9, false, 2) | 15 => (9, false, 1) | 16 => (9, false, 0) | 17 => (9, false, 1) | 18 => (9, false, 1) | 19 => (9, false, 2) | _ => (0, false, 0)
def mu5 (i : Nat) : Nat × Bool × Nat := match i with | 0 => (9, false, 2) | 1 => (9, false, 1) | 2 => (9, false, 0) | 3 => (9, false, 0) | 4 => (9, false, 1) | 5 => (9, false, 1) | 6 => (9, false, 1) | 7 => (9, false, 0) | 8 => (9, false, 0) | 9 => (9, false, 0) | 10 => (9, false, 0) | 11 => (9, false, 1) | 12 => (9, false, 0) | 13 => (9, false, 2) | 14 => (9, false, 1) | 15 => (9, false, 2) | 16 => (9, false, 0) | 17 => (9, false, 2) | 18 => (9, false, 1) | 19 => (9, false, 1) | _ => (0, false, 0)
def mu6 (i : Nat) : Nat × Bool × Nat := match i with | 0 => (9, false, 0) | 1 => (9, false, 1) | 2 => (9, false, 1) | 3 => (9, false, 0) | 4 => (9, false, 1) | 5 => (9, false, 1) | 6 => (9, false, 2) | 7 => (9, false, 1) | 8 => (9, false, 1) | 9 => (9, false, 2) | 10 => (9, false, 2) | 11 => (9, false, 2) | 12 => (9, false, 2) | 13 => (9, false, 1) | 14 => (9, false, 0) | 15 => (9, false, 0) | 16 => (9, false, 0) | 17 => (9, false, 0) | 18 => (9, false, 1) | 19 => (9, false, 1) | _ => (0, false, 0)
def mu7 (i : Nat) : Nat × Bool × Nat := match i with | 0 => (9, false, 1) | 1 => (9, false, 0) | 2 => (9, false, 1) | 3 => (9, false, 1) | 4 => (9, false, 1) | 5 => (9, false, 1) | 6 => (9, false, 1) | 7 => (9, true, 1) | 8 => (9, true, 1) | 9 => (9, true, 1) | 10 => (9, true, 1) | 11 => (9, true, 2) | 12 => (9, true, 2) | 13 => (9, true, 1) | 14 => (9, true, 1) | 15 => (9, true, 1) | 16 => (9, true, 1) | 17 => (10, false, 0) | 18 => (10, true, 3) | 19 => (10, true, 1) | _ => (0, false, 0)
def mu8 (i : Nat) : Nat × Bool × Nat := match i with | 0 => (10, false, 2) | 1 => (10, false, 0) | 2 => (10, false, 5) | 3 => (10, false, 0) | 4 => (10, false, 0) | 5 => (10, false, 0) | 6 => (10, false, 1) | 7 => (10, true, 1) | 8 => (10, true, 1) | 9 => (10, false, 0) | 10 => (10, false, 1) | 11 => (10, false, 2) | 12 => (10, false, 0) | 13 => (10, false, 1) | 14 => (10, false, 1) | 15 => (10, false, 2) | 16 => (10, false, 2) | 17 => (10, false, 0) | 18 => (10, false, 0) | 19 => (10, false, 0) | _ => (0, false, 0)
def mu9 (i : Nat) : Nat × Bool × Nat := match i with | 0 => (10, false, 1) | 1 => (10, false, 2) | 2 => (10, false, 0) | 3 => (10, false, 1) | 4 => (10, false, 0) | 5 => (10, false, 0) | 6 => (10, false, 0) | 7 => (10, false, 0) | 8 => (10, false, 1) | 9 => (10, false, 0) | 10 => (10, false, 1) | 11 => (10, false, 1) | 12 => (10, false, 1) | 13 => (10, false, 2) | 14 => (10, false, 2) | 15 => (10, false, 2) | 16 => (10, false, 1) | 17 => (10, false, 2) | 18 => (10, false, 1) | 19 => (10, false, 0) | _ => (0, false, 0)
def mu10 (i : Nat) : Nat × Bool × Nat := match i with | 0 => (10, false, 0) | 1 => (10, false, 1) | 2 => (10, false, 2) | 3 => (10, false, 1) | 4 => (10, false, 0) | 5 => (10, false, 2) | 6 => (10, false, 0) | 7 => (10, false, 1) | 8 => (10, false, 1) | 9 => (10, false, 0) | 10 => (10, false, 0) | 11 => (10, false, 1) | 12 => (10, false, 1) | 13 => (10, true, 1) | 14 => (10, false, 1) | 15 => (10, true, 1) | 16 => (10, false, 1) | 17 => (10, false, 1) | 18 => (10, false, 0) | 19 => (10, false, 1) | _ => (0, false, 0)
def mu11 (i : Nat) : Nat × Bool × Nat := match i with | 0 => (10, false, 1) | 1 => (10, false, 1) | 2 => (10, false, 1) | 3 => (10, false, 1) | 4 => (10, false, 2) | 5 => (10, false, 1) | 6 => (10, false, 0) | 7 => (10, false, 1) | 8 => (10, false, 0) | 9 => (10, false, 0) | 10 => (10, false, 1) | 11 => (10, false, 1) | 12 => (10, false, 1) | 13 => (10, false, 2) | 14 => (10, false, 1) | 15 => (10, false, 2) | 16 => (10, false, 2) | 17 => (10, false, 2) | 18 => (10, false, 2) | 19 => (10, false, 1) | _ => (0, false, 0)
def mu12 (i : Nat) : Nat × Bool × Nat := match i with | 0 => (10, false, 0) | 1 => (10, false, 0) | 2 => (10, false, 1) | 3 => (10, false, 1) | 4 => (10, false, 1) | 5 => (10, false, 1) | 6 => (10, false, 0) | 7 => (10, false, 0) | 8 => (10, false, 0) | 9 => (10, false, 0) | 10 => (10, false, 0) | 11 => (10, false, 1) | 12 => (10, false, 0) | 13 => (10, false, 2) | 14 => (10, false, 1) | 15 => (10, false, 2) | 16 => (10, false, 2) | 17 => (10, false, 0) | 18 => (10, false, 0) | 19 => (10, false, 1) | _ => (0, false, 0)
def mu13 (i : Nat) : Nat × Bool × Nat := match i with | 0 => (10, false, 1) | 1 => (10, false, 2) | 2 => (10, false, 1) | 3 => (10, false, 2) | 4 => (10, false, 1) | 5 => (10, false, 0) | 6 => (10, false, 1) | 7 => (10, false, 1) | 8 => (10, false, 1) | 9 => (10, false, 1) | 10 => (10, false, 0) | 11 => (10, false, 1) | 12 => (10, false, 1) | 13 => (10, false, 1) | 14 => (10, false, 0) | 15 => (10, false, 2) | 16 => (10, false, 1) | 17 => (10, false, 1) | 18 => (10, false, 2) | 19 => (10, false, 2) | _ => (0, false, 0)
def mu14 (i : Nat) : Nat × Bool × Nat := match i with | 0 => (10, false, 2) | 1 => (10, false, 2) | 2 => (10, false, 2) | 3 => (10, false, 1) | 4 => (10, false, 0) | 5 => (10, false, 0) | 6 => (10, false, 0) | 7 => (10, false, 0) | 8 => (10, false, 1) | 9 => (10, false, 1) | _ => (0, false, 0)
def mus (μ : Nat) : Nat × Bool × Nat := match μ / 20 with | 0 => mu0 (μ % 20) | 1 => mu1 (μ % 20) | 2 => mu2 (μ % 20) | 3 => mu3 (μ % 20) | 4 => mu4 (μ % 20) | 5 => mu5 (μ % 20) | 6 => mu6 (μ % 20) | 7 => mu7 (μ % 20) | 8 => mu8 (μ % 20) | 9 => mu9 (μ % 20) | 10 => mu10 (μ % 20) | 11 => mu11 (μ % 20) | 12 => mu12 (μ % 20) | 13 => mu13 (μ % 20) | 14 => mu14 (μ % 20) | _ => (0, false, 0)
def clOf (μ : Nat) : Nat := (mus μ).1
def okW (μ : Nat) : Bool := decide ((nameOf μ).cls = clsN (clOf μ)) && plainName (nameOf μ).cls && decide ((nameOf μ).cls ≠ "java/lang/invoke/MethodHandle") && decide ((nameOf μ).cls ≠ "java/lang/invoke/VarHandle") && decide ((parseMethodDescriptor (nameOf μ).desc).map (fun d => d.parameters.length) = some (mus μ).2.2) && decide (maxOf μ ≤ 17) && decide ((mus μ).2.2 + (if (mus μ).2.1 = true then 0 else 1) ≤ maxOf μ)
def okM (μ : Nat) : Bool := (codeOf μ).all (okE (clOf μ) (bytesOf μ) (maxOf μ) (retOf μ)) && okW μ
theorem okM_0 : okM 0 = true := by decide +kernel
theorem okM_1 : okM 1 = true := by decide +kernel
theorem okM_2 : okM 2 = true := by decide +kernel
theorem okM_3 : okM 3 = true := by decide +kernel
theorem okM_4 : okM 4 = true := by decide +kernel
theorem okM_5 : okM 5 = true := by decide +kernel
theorem okM_6 : okM 6 = true := by decide +kernel
theorem okM_7 : okM 7 = true := by decide +kernel
theorem okM_8 : okM 8 = true := by decide +kernel
theorem okM_9 : okM 9 = true := by decide +kernel
theorem okM_10 : okM 10 = true := by decide +kernel
theorem okM_11 : okM 11 = true := by decide +kernel
theorem okM_12 : okM 12 = true := by decide +kernel
theorem okM_13 : okM 13 = true := by decide +kernel
theorem okM_14 : okM 14 = true := by decide +kernel
theorem okM_15 : okM 15 = true := by decide +kernel
theorem okM_16 : okM 16 = true := by decide +kernel
theorem okM_17 : okM 17 = true := by decide +kernel
theorem okM_18 : okM 18 = true := by decide +kernel
theorem okM_19 : okM 19 = true := by decide +kernel
theorem okM_20 : okM 20 = true := by decide +kernel
theorem okM_21 : okM 21 = true := by decide +kernel
theorem okM_22 : okM 22 = true := by decide +kernel
theorem okM_23 : okM 23 = true := by decide +kernel
theorem okM_24 : okM 24 = true := by decide +kernel
theorem okM_25 : okM 25 = true := by decide +kernel
theorem okM_26 : okM 26 = true := by decide +kernel
theorem okM_27 : okM 27 = true := by decide +kernel
theorem okM_28 : okM 28 = true := by decide +kernel
theorem okM_29 : okM 29 = true := by decide +kernel
theorem okM_30 : okM 30 = true := by decide +kernel
theorem okM_31 : okM 31 = true := by decide +kernel
theorem okM_32 : okM 32 = true := by decide +kernel
theorem okM_33 : okM 33 = true := by decide +kernel
theorem okM_34 : okM 34 = true := by decide +kernel
theorem okM_35 : okM 35 = true := by decide +kernel
theorem okM_36 : okM 36 = true := by decide +kernel
theorem okM_37 : okM 37 = true := by decide +kernel
theorem okM_38 : okM 38 = true := by decide +kernel
theorem okM_39 : okM 39 = true := by decide +kernel
theorem okM_40 : okM 40 = true := by decide +kernel
theorem okM_41 : okM 41 = true := by decide +kernel
theorem okM_42 : okM 42 = true := by decide +kernel
theorem okM_43 : okM 43 = true := by decide +kernel
theorem okM_44 : okM 44 = true := by decide +kernel
theorem okM_45 : okM 45 = true := by decide +kernel
theorem okM_46 : okM 46 = true := by decide +kernel
theorem okM_47 : okM 47 = true := by decide +kernel
theorem okM_48 : okM 48 = true := by decide +kernel
theorem okM_49 : okM 49 = true := by decide +kernel
theorem okM_50 : okM 50 = true := by decide +kernel
theorem okM_51 : okM 51 = true := by decide +kernel
theorem okM_52 : okM 52 = true := by decide +kernel
theorem okM_53 : okM 53 = true := by decide +kernel
theorem okM_54 : okM 54 = true := by decide +kernel
theorem okM_55 : okM 55 = true := by decide +kernel
theorem okM_56 : okM 56 = true := by decide +kernel
theorem okM_57 : okM 57 = true := by decide +kernel
theorem okM_58 : okM 58 = true := by decide +kernel
theorem okM_59 : okM 59 = true := by decide +kernel
theorem okM_60 : okM 60 = true := by decide +kernel
theorem okM_61 : okM 61 = true := by decide +kernel
theorem okM_62 : okM 62 = true := by decide +kernel
theorem okM_63 : okM 63 = true := by decide +kernel
theorem okM_64 : okM 64 = true := by decide +kernel
theorem okM_65 : okM 65 = true := by decide +kernel
theorem okM_66 : okM 66 = true := by decide +kernel
theorem okM_67 : okM 67 = true := by decide +kernel
theorem okM_68 : okM 68 = true := by decide +kernel
theorem okM_69 : okM 69 = true := by decide +kernel
theorem okM_70 : okM 70 = true := by decide +kernel
theorem okM_71 : okM 71 = true := by decide +kernel
theorem okM_72 : okM 72 = true := by decide +kernel
theorem okM_73 : okM 73 = true := by decide +kernel
theorem okM_74 : okM 74 = true := by decide +kernel
theorem okM_75 : okM 75 = true := by decide +kernel
theorem okM_76 : okM 76 = true := by decide +kernel
theorem okM_77 : okM 77 = true := by decide +kernel
theorem okM_78 : okM 78 = true := by decide +kernel
theorem okM_79 : okM 79 = true := by decide +kernel
theorem okM_80 : okM 80 = true := by decide +kernel
theorem okM_81 : okM 81 = true := by decide +kernel
theorem okM_82 : okM 82 = true := by decide +kernel
theorem okM_83 : okM 83 = true := by decide +kernel
theorem okM_84 : okM 84 = true := by decide +kernel
theorem okM_85 : okM 85 = true := by decide +kernel
theorem okM_86 : okM 86 = true := by decide +kernel
theorem okM_87 : okM 87 = true := by decide +kernel
theorem okM_88 : okM 88 = true := by decide +kernel
theorem okM_89 : okM 89 = true := by decide +kernel
theorem okM_90 : okM 90 = true := by decide +kernel
theorem okM_91 : okM 91 = true := by decide +kernel
theorem okM_92 : okM 92 = true := by decide +kernel
theorem okM_93 : okM 93 = true := by decide +kernel
theorem okM_94 : okM 94 = true := by decide +kernel
theorem okM_95 : okM 95 = true := by decide +kernel
theorem okM_96 : okM 96 = true := by decide +kernel
theorem okM_97 : okM 97 = true := by decide +kernel
theorem okM_98 : okM 98 = true := by decide +kernel
theorem okM_99 : okM 99 = true := by decide +kernel
theorem okM_100 : okM 100 = true := by decide +kernel
theorem okM_101 : okM 101 = true := by decide +kernel
theorem okM_102 : okM 102 = true := by decide +kernel
theorem okM_103 : okM 103 = true := by decide +kernel
theorem okM_104 : okM 104 = true := by decide +kernel
theorem okM_105 : okM 105 = true := by decide +kernel
theorem okM_106 : okM 106 = true := by decide +kernel
theorem okM_107 : okM 107 = true := by decide +kernel
theorem okM_108 : okM 108 = true := by decide +kernel
theorem okM_109 : okM 109 = true := by decide +kernel
theorem okM_110 : okM 110 = true := by decide +kernel
theorem okM_111 : okM 111 = true := by decide +kernel
theorem okM_112 : okM 112 = true := by decide +kernel
theorem okM_113 : okM 113 = true := by decide +kernel
theorem okM_114 : okM 114 = true := by decide +kernel
theorem okM_115 : okM 115 = true := by decide +kernel
theorem okM_116 : okM 116 = true := by decide +kernel
theorem okM_117 : okM 117 = true := by decide +kernel
theorem okM_118 : okM 118 = true := by decide +kernel
theorem okM_119 : okM 119 = true := by decide +kernel
theorem okM_120 : okM 120 = true := by decide +kernel
theorem okM_121 : okM 121 = true := by decide +kernel
theorem okM_122 : okM 122 = true := by decide +kernel
theorem okM_123 : okM 123 = true := by decide +kernel
theorem okM_124 : okM 124 = true := by decide +kernel
theorem okM_125 : okM 125 = true := by decide +kernel
theorem okM_126 : okM 126 = true := by decide +kernel
theorem okM_127 : okM 127 = true := by decide +kernel
theorem okM_128 : okM 128 = true := by decide +kernel
theorem okM_129 : okM 129 = true := by decide +kernel
theorem okM_130 : okM 130 = true := by decide +kernel
theorem okM_131 : okM 131 = true := by decide +kernel
theorem okM_132 : okM 132 = true := by decide +kernel
theorem okM_133 : okM 133 = true := by decide +kernel
theorem okM_134 : okM 134 = true := by decide +kernel
theorem okM_135 : okM 135 = true := by decide +kernel
theorem okM_136 : okM 136 = true := by decide +kernel
theorem okM_137 : okM 137 = true := by decide +kernel
theorem okM_138 : okM 138 = true := by decide +kernel
theorem okM_139 : okM 139 = true := by decide +kernel
theorem okM_140 : okM 140 = true := by decide +kernel
theorem okM_141 : okM 141 = true := by decide +kernel
theorem okM_142 : okM 142 = true := by decide +kernel
theorem okM_143 : okM 143 = true := by decide +kernel
theorem okM_144 : okM 144 = true := by decide +kernel
theorem okM_145 : okM 145 = true := by decide +kernel
theorem okM_146 : okM 146 = true := by decide +kernel
theorem okM_147 : okM 147 = true := by decide +kernel
theorem okM_148 : okM 148 = true := by decide +kernel
theorem okM_149 : okM 149 = true := by decide +kernel
theorem okM_150 : okM 150 = true := by decide +kernel
theorem okM_151 : okM 151 = true := by decide +kernel
theorem okM_152 : okM 152 = true := by decide +kernel
theorem okM_153 : okM 153 = true := by decide +kernel
theorem okM_154 : okM 154 = true := by decide +kernel
theorem okM_155 : okM 155 = true := by decide +kernel
theorem okM_156 : okM 156 = true := by decide +kernel
theorem okM_157 : okM 157 = true := by decide +kernel
theorem okM_158 : okM 158 = true := by decide +kernel
theorem okM_159 : okM 159 = true := by decide +kernel
theorem okM_160 : okM 160 = true := by decide +kernel
theorem okM_161 : okM 161 = true := by decide +kernel
theorem okM_162 : okM 162 = true := by decide +kernel
theorem okM_163 : okM 163 = true := by decide +kernel
theorem okM_164 : okM 164 = true := by decide +kernel
theorem okM_165 : okM 165 = true := by decide +kernel
theorem okM_166 : okM 166 = true := by decide +kernel
theorem okM_167 : okM 167 = true := by decide +kernel
theorem okM_168 : okM 168 = true := by decide +kernel
theorem okM_169 : okM 169 = true := by decide +kernel
theorem okM_170 : okM 170 = true := by decide +kernel
theorem okM_171 : okM 171 = true := by decide +kernel
theorem okM_172 : okM 172 = true := by decide +kernel
theorem okM_173 : okM 173 = true := by decide +kernel
theorem okM_174 : okM 174 = true := by decide +kernel
theorem okM_175 : okM 175 = true := by decide +kernel
theorem okM_176 : okM 176 = true := by decide +kernel
theorem okM_177 : okM 177 = true := by decide +kernel
theorem okM_178 : okM 178 = true := by decide +kernel
theorem okM_179 : okM 179 = true := by decide +kernel
theorem okM_180 : okM 180 = true := by decide +kernel
theorem okM_181 : okM 181 = true := by decide +kernel
theorem okM_182 : okM 182 = true := by decide +kernel
theorem okM_183 : okM 183 = true := by decide +kernel
theorem okM_184 : okM 184 = true := by decide +kernel
theorem okM_185 : okM 185 = true := by decide +kernel
theorem okM_186 : okM 186 = true := by decide +kernel
theorem okM_187 : okM 187 = true := by decide +kernel
theorem okM_188 : okM 188 = true := by decide +kernel
theorem okM_189 : okM 189 = true := by decide +kernel
theorem okM_190 : okM 190 = true := by decide +kernel
theorem okM_191 : okM 191 = true := by decide +kernel
theorem okM_192 : okM 192 = true := by decide +kernel
theorem okM_193 : okM 193 = true := by decide +kernel
theorem okM_194 : okM 194 = true := by decide +kernel
theorem okM_195 : okM 195 = true := by decide +kernel
theorem okM_196 : okM 196 = true := by decide +kernel
theorem okM_197 : okM 197 = true := by decide +kernel
theorem okM_198 : okM 198 = true := by decide +kernel
theorem okM_199 : okM 199 = true := by decide +kernel
theorem okM_200 : okM 200 = true := by decide +kernel
theorem okM_201 : okM 201 = true := by decide +kernel
theorem okM_202 : okM 202 = true := by decide +kernel
theorem okM_203 : okM 203 = true := by decide +kernel
theorem okM_204 : okM 204 = true := by decide +kernel
theorem okM_205 : okM 205 = true := by decide +kernel
theorem okM_206 : okM 206 = true := by decide +kernel
theorem okM_207 : okM 207 = true := by decide +kernel
theorem okM_208 : okM 208 = true := by decide +kernel
theorem okM_209 : okM 209 = true := by decide +kernel
theorem okM_210 : okM 210 = true := by decide +kernel
theorem okM_211 : okM 211 = true := by decide +kernel
theorem okM_212 : okM 212 = true := by decide +kernel
theorem okM_213 : okM 213 = true := by decide +kernel
theorem okM_214 : okM 214 = true := by decide +kernel
theorem okM_215 : okM 215 = true := by decide +kernel
theorem okM_216 : okM 216 = true := by decide +kernel
theorem okM_217 : okM 217 = true := by decide +kernel
theorem okM_218 : okM 218 = true := by decide +kernel
theorem okM_219 : okM 219 = true := by decide +kernel
theorem okM_220 : okM 220 = true := by decide +kernel
theorem okM_221 : okM 221 = true := by decide +kernel
theorem okM_222 : okM 222 = true := by decide +kernel
theorem okM_223 : okM 223 = true := by decide +kernel
theorem okM_224 : okM 224 = true := by decide +kernel
theorem okM_225 : okM 225 = true := by decide +kernel
theorem okM_226 : okM 226 = true := by decide +kernel
theorem okM_227 : okM 227 = true := by decide +kernel
theorem okM_228 : okM 228 = true := by decide +kernel
theorem okM_229 : okM 229 = true := by decide +kernel
theorem okM_230 : okM 230 = true := by decide +kernel
theorem okM_231 : okM 231 = true := by decide +kernel
theorem okM_232 : okM 232 = true := by decide +kernel
theorem okM_233 : okM 233 = true := by decide +kernel
theorem okM_234 : okM 234 = true := by decide +kernel
theorem okM_235 : okM 235 = true := by decide +kernel
theorem okM_236 : okM 236 = true := by decide +kernel
theorem okM_237 : okM 237 = true := by decide +kernel
theorem okM_238 : okM 238 = true := by decide +kernel
theorem okM_239 : okM 239 = true := by decide +kernel
theorem okM_240 : okM 240 = true := by decide +kernel
theorem okM_241 : okM 241 = true := by decide +kernel
theorem okM_242 : okM 242 = true := by decide +kernel
theorem okM_243 : okM 243 = true := by decide +kernel
theorem okM_244 : okM 244 = true := by decide +kernel
theorem okM_245 : okM 245 = true := by decide +kernel
theorem okM_246 : okM 246 = true := by decide +kernel
theorem okM_247 : okM 247 = true := by decide +kernel
theorem okM_248 : okM 248 = true := by decide +kernel
theorem okM_249 : okM 249 = true := by decide +kernel
theorem okM_250 : okM 250 = true := by decide +kernel
theorem okM_251 : okM 251 = true := by decide +kernel
theorem okM_252 : okM 252 = true := by decide +kernel
theorem okM_253 : okM 253 = true := by decide +kernel
theorem okM_254 : okM 254 = true := by decide +kernel
theorem okM_255 : okM 255 = true := by decide +kernel
theorem okM_256 : okM 256 = true := by decide +kernel
theorem okM_257 : okM 257 = true := by decide +kernel
theorem okM_258 : okM 258 = true := by decide +kernel
theorem okM_259 : okM 259 = true := by decide +kernel
theorem okM_260 : okM 260 = true := by decide +kernel
theorem okM_261 : okM 261 = true := by decide +kernel
theorem okM_262 : okM 262 = true := by decide +kernel
theorem okM_263 : okM 263 = true := by decide +kernel
theorem okM_264 : okM 264 = true := by decide +kernel
theorem okM_265 : okM 265 = true := by decide +kernel
theorem okM_266 : okM 266 = true := by decide +kernel
theorem okM_267 : okM 267 = true := by decide +kernel
theorem okM_268 : okM 268 = true := by decide +kernel
theorem okM_269 : okM 269 = true := by decide +kernel
theorem okM_270 : okM 270 = true := by decide +kernel
theorem okM_271 : okM 271 = true := by decide +kernel
theorem okM_272 : okM 272 = true := by decide +kernel
theorem okM_273 : okM 273 = true := by decide +kernel
theorem okM_274 : okM 274 = true := by decide +kernel
theorem okM_275 : okM 275 = true := by decide +kernel
theorem okM_276 : okM 276 = true := by decide +kernel
theorem okM_277 : okM 277 = true := by decide +kernel
theorem okM_278 : okM 278 = true := by decide +kernel
theorem okM_279 : okM 279 = true := by decide +kernel
theorem okM_280 : okM 280 = true := by decide +kernel
theorem okM_281 : okM 281 = true := by decide +kernel
theorem okM_282 : okM 282 = true := by decide +kernel
theorem okM_283 : okM 283 = true := by decide +kernel
theorem okM_284 : okM 284 = true := by decide +kernel
theorem okM_285 : okM 285 = true := by decide +kernel
theorem okM_286 : okM 286 = true := by decide +kernel
theorem okM_287 : okM 287 = true := by decide +kernel
theorem okM_288 : okM 288 = true := by decide +kernel
theorem okM_289 : okM 289 = true := by decide +kernel
theorem okMs_0 : ∀ i, i < 20 → okM (0 + i) = true := fun i h => match i, h with
  | 0, _ => okM_0
  | 1, _ => okM_1
  | 2, _ => okM_2
  | 3, _ => okM_3
  | 4, _ => okM_4
  | 5, _ => okM_5
  | 6, _ => okM_6
  | 7, _ => okM_7
  | 8, _ => okM_8
  | 9, _ => okM_9
  | 10, _ => okM_10
  | 11, _ => okM_11
  | 12, _ => okM_12
  | 13, _ => okM_13
  | 14, _ => okM_14
  | 15, _ => okM_15
  | 16, _ => okM_16
  | 17, _ => okM_17
  | 18, _ => okM_18
  | 19, _ => okM_19
  | k + 20, h => absurd h (by omega)
theorem okMs_1 : ∀ i, i < 20 → okM (20 + i) = true := fun i h => match i, h with
  | 0, _ => okM_20
  | 1, _ => okM_21
  | 2, _ => okM_22
  | 3, _ => okM_23
  | 4, _ => okM_24
  | 5, _ => okM_25
  | 6, _ => okM_26
  | 7, _ => okM_27
  | 8, _ => okM_28
  | 9, _ => okM_29
  | 10, _ => okM_30
  | 11, _ => okM_31
  | 12, _ => okM_32
  | 13, _ => okM_33
  | 14, _ => okM_34
  | 15, _ => okM_35
  | 16, _ => okM_36
  | 17, _ => okM_37
  | 18, _ => okM_38
  | 19, _ => okM_39
  | k + 20, h => absurd h (by omega)
theorem okMs_2 : ∀ i, i < 20 → okM (40 + i) = true := fun i h => match i, h with
  | 0, _ => okM_40
  | 1, _ => okM_41
  | 2, _ => okM_42
  | 3, _ => okM_43
  | 4, _ => okM_44
  | 5, _ => okM_45
  | 6, _ => okM_46
  | 7, _ => okM_47
  | 8, _ => okM_48
  | 9, _ => okM_49
  | 10, _ => okM_50
  | 11, _ => okM_51
  | 12, _ => okM_52
  | 13, _ => okM_53
  | 14, _ => okM_54
  | 15, _ => okM_55
  | 16, _ => okM_56
  | 17, _ => okM_57
  | 18, _ => okM_58
  | 19, _ => okM_59
  | k + 20, h => absurd h (by omega)
theorem okMs_3 : ∀ i, i < 20 → okM (60 + i) = true := fun i h => match i, h with
  | 0, _ => okM_60
  | 1, _ => okM_61
  | 2, _ => okM_62
  | 3, _ => okM_63
  | 4, _ => okM_64
  | 5, _ => okM_65
  | 6, _ => okM_66
  | 7, _ => okM_67
  | 8, _ => okM_68
  | 9, _ => okM_69
  | 10, _ => okM_70
  | 11, _ => okM_71
  | 12, _ => okM_72
  | 13, _ => okM_73
  | 14, _ => okM_74
  | 15, _ => okM_75
  | 16, _ => okM_76
  | 17, _ => okM_77
  | 18, _ => okM_78
  | 19, _ => okM_79
  | k + 20, h => absurd h (by omega)
theorem okMs_4 : ∀ i, i < 20 → okM (80 + i) = true := fun i h => match i, h with
  | 0, _ => okM_80
  | 1, _ => okM_81
  | 2, _ => okM_82
  | 3, _ => okM_83
  | 4, _ => okM_84
  | 5, _ => okM_85
  | 6, _ => okM_86
  | 7, _ => okM_87
  | 8, _ => okM_88
  | 9, _ => okM_89
  | 10, _ => okM_90
  | 11, _ => okM_91
  | 12, _ => okM_92
  | 13, _ => okM_93
  | 14, _ => okM_94
  | 15, _ => okM_95
  | 16, _ => okM_96
  | 17, _ => okM_97
  | 18, _ => okM_98
  | 19, _ => okM_99
  | k + 20, h => absurd h (by omega)
theorem okMs_5 : ∀ i, i < 20 → okM (100 + i) = true := fun i h => match i, h with
  | 0, _ => okM_100
  | 1, _ => okM_101
  | 2, _ => okM_102
  | 3, _ => okM_103
  | 4, _ => okM_104
  | 5, _ => okM_105
  | 6, _ => okM_106
  | 7, _ => okM_107
  | 8, _ => okM_108
  | 9, _ => okM_109
  | 10, _ => okM_110
  | 11, _ => okM_111
  | 12, _ => okM_112
  | 13, _ => okM_113
  | 14, _ => okM_114
  | 15, _ => okM_115
  | 16, _ => okM_116
  | 17, _ => okM_117
  | 18, _ => okM_118
  | 19, _ => okM_119
  | k + 20, h => absurd h (by omega)
theorem okMs_6 : ∀ i, i < 20 → okM (120 + i) = true := fun i h => match i, h with
  | 0, _ => okM_120
  | 1, _ => okM_121
  | 2, _ => okM_122
  | 3, _ => okM_123
  | 4, _ => okM_124
  | 5, _ => okM_125
  | 6, _ => okM_126
  | 7, _ => okM_127
  | 8, _ => okM_128
  | 9, _ => okM_129
  | 10, _ => okM_130
  | 11, _ => okM_131
  | 12, _ => okM_132
  | 13, _ => okM_133
  | 14, _ => okM_134
  | 15, _ => okM_135
  | 16, _ => okM_136
  | 17, _ => okM_137
  | 18, _ => okM_138
  | 19, _ => okM_139
  | k + 20, h => absurd h (by omega)
theorem okMs_7 : ∀ i, i < 20 → okM (140 + i) = true := fun i h => match i, h with
  | 0, _ => okM_140
  | 1, _ => okM_141
  | 2, _ => okM_142
  | 3, _ => okM_143
  | 4, _ => okM_144
  | 5, _ => okM_145
  | 6, _ => okM_146
  | 7, _ => okM_147
  | 8, _ => okM_148
  | 9, _ => okM_149
  | 10, _ => okM_150
  | 11, _ => okM_151
  | 12, _ => okM_152
  | 13, _ => okM_153
  | 14, _ => okM_154
  | 15, _ => okM_155
  | 16, _ => okM_156
  | 17, _ => okM_157
  | 18, _ => okM_158
  | 19, _ => okM_159
  | k + 20, h => absurd h (by omega)
theorem okMs_8 : ∀ i, i < 20 → okM (160 + i) = true := fun i h => match i, h with
  | 0, _ => okM_160
  | 1, _ => okM_161
  | 2, _ => okM_162
  | 3, _ => okM_163
  | 4, _ => okM_164
  | 5, _ => okM_165
  | 6, _ => okM_166
  | 7, _ => okM_167
  | 8, _ => okM_168
  | 9, _ => okM_169
  | 10, _ => okM_170
  | 11, _ => okM_171
  | 12, _ => okM_172
  | 13, _ => okM_173
  | 14, _ => okM_174
  | 15, _ => okM_175
  | 16, _ => okM_176
  | 17, _ => okM_177
  | 18, _ => okM_178
  | 19, _ => okM_179
  | k + 20, h => absurd h (by omega)
theorem okMs_9 : ∀ i, i < 20 → okM (180 + i) = true := fun i h => match i, h with
  | 0, _ => okM_180
  | 1, _ => okM_181
  | 2, _ => okM_182
  | 3, _ => okM_183
  | 4, _ => okM_184
  | 5, _ => okM_185
  | 6, _ => okM_186
  | 7, _ => okM_187
  | 8, _ => okM_188
  | 9, _ => okM_189
  | 10, _ => okM_190
  | 11, _ => okM_191
  | 12, _ => okM_192
  | 13, _ => okM_193
  | 14, _ => okM_194
  | 15, _ => okM_195
  | 16, _ => okM_196
  | 17, _ => okM_197
  | 18, _ => okM_198
  | 19, _ => okM_199
  | k + 20, h => absurd h (by omega)
theorem okMs_10 : ∀ i, i < 20 → okM (200 + i) = true := fun i h => match i, h with
  | 0, _ => okM_200
  | 1, _ => okM_201
  | 2, _ => okM_202
  | 3, _ => okM_203
  | 4, _ => okM_204
  | 5, _ => okM_205
  | 6, _ => okM_206
  | 7, _ => okM_207
  | 8, _ => okM_208
  | 9, _ => okM_209
  | 10, _ => okM_210
  | 11, _ => okM_211
  | 12, _ => okM_212
  | 13, _ => okM_213
  | 14, _ => okM_214
  | 15, _ => okM_215
  | 16, _ => okM_216
  | 17, _ => okM_217
  | 18, _ => okM_218
  | 19, _ => okM_219
  | k + 20, h => absurd h (by omega)
theorem okMs_11 : ∀ i, i < 20 → okM (220 + i) = true := fun i h => match i, h with
  | 0, _ => okM_220
  | 1, _ => okM_221
  | 2, _ => okM_222
  | 3, _ => okM_223
  | 4, _ => okM_224
  | 5, _ => okM_225
  | 6, _ => okM_226
  | 7, _ => okM_227
  | 8, _ => okM_228
  | 9, _ => okM_229
  | 10, _ => okM_230
  | 11, _ => okM_231
  | 12, _ => okM_232
  | 13, _ => okM_233
  | 14, _ => okM_234
  | 15, _ => okM_235
  | 16, _ => okM_236
  | 17, _ => okM_237
  | 18, _ => okM_238
  | 19, _ => okM_239
  | k + 20, h => absurd h (by omega)
theorem okMs_12 : ∀ i, i < 20 → okM (240 + i) = true := fun i h => match i, h with
  | 0, _ => okM_240
  | 1, _ => okM_241
  | 2, _ => okM_242
  | 3, _ => okM_243
  | 4, _ => okM_244
  | 5, _ => okM_245
  | 6, _ => okM_246
  | 7, _ => okM_247
  | 8, _ => okM_248
  | 9, _ => okM_249
  | 10, _ => okM_250
  | 11, _ => okM_251
  | 12, _ => okM_252
  | 13, _ => okM_253
  | 14, _ => okM_254
  | 15, _ => okM_255
  | 16, _ => okM_256
  | 17, _ => okM_257
  | 18, _ => okM_258
  | 19, _ => okM_259
  | k + 20, h => absurd h (by omega)
theorem okMs_13 : ∀ i, i < 20 → okM (260 + i) = true := fun i h => match i, h with
  | 0, _ => okM_260
  | 1, _ => okM_261
  | 2, _ => okM_262
  | 3, _ => okM_263
  | 4, _ => okM_264
  | 5, _ => okM_265
  | 6, _ => okM_266
  | 7, _ => okM_267
  | 8, _ => okM_268
  | 9, _ => okM_269
  | 10, _ => okM_270
  | 11, _ => okM_271
  | 12, _ => okM_272
  | 13, _ => okM_273
  | 14, _ => okM_274
  | 15, _ => okM_275
  | 16, _ => okM_276
  | 17, _ => okM_277
  | 18, _ => okM_278
  | 19, _ => okM_279
  | k + 20, h => absurd h (by omega)
theorem okMs_14 : ∀ i, i < 10 → okM (280 + i) = true := fun i h => match i, h with
  | 0, _ => okM_280
  | 1, _ => okM_281
  | 2, _ => okM_282
  | 3, _ => okM_283
  | 4, _ => okM_284
  | 5, _ => okM_285
  | 6, _ => okM_286
  | 7, _ => okM_287
  | 8, _ => okM_288
  | 9, _ => okM_289
  | k + 10, h => absurd h (by omega)
theorem okM_all : ∀ μ, μ < 290 → okM μ = true := by
  intro μ h
  have hd : μ = 20 * (μ / 20) + μ % 20 := (Nat.div_add_mod μ 20).symm
  have hm : μ % 20 < 20 := Nat.mod_lt _ (by decide)
  have hq : μ / 20 < 15 := by omega
  generalize μ / 20 = q at hd hq
  generalize μ % 20 = t at hd hm
  subst hd
  match q, hq with
  | 0, _ => exact okMs_0 t (by omega)
  | 1, _ => exact okMs_1 t (by omega)
  | 2, _ => exact okMs_2 t (by omega)
  | 3, _ => exact okMs_3 t (by omega)
  | 4, _ => exact okMs_4 t (by omega)
  | 5, _ => exact okMs_5 t (by omega)
  | 6, _ => exact okMs_6 t (by omega)
  | 7, _ => exact okMs_7 t (by omega)
  | 8, _ => exact okMs_8 t (by omega)
  | 9, _ => exact okMs_9 t (by omega)
  | 10, _ => exact okMs_10 t (by omega)
  | 11, _ => exact okMs_11 t (by omega)
  | 12, _ => exact okMs_12 t (by omega)
  | 13, _ => exact okMs_13 t (by omega)
  | 14, _ => exact okMs_14 t (by omega)
  | k + 15, h => exact absurd h (by omega)
