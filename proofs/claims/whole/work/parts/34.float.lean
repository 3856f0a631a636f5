/-! ===== a quotient of two small whole numbers is a number ===== -/
section
/-- a number that is not below zero; one above zero -/
def pzD (d : Jvm.FP.Core.Datum) : Bool := match d with | .fin false _ _ => true | _ => false
def ppD (d : Jvm.FP.Core.Datum) : Bool := match d with | .fin false c _ => decide (c ≠ 0) | _ => false
theorem pzD_of {d : Jvm.FP.Core.Datum} (h : pzD d = true) : ∃ c q, d = .fin false c q := by
  cases d with
  | nan => cases h
  | inf s => cases h
  | fin s c q => cases s with
    | true => cases h
    | false => exact ⟨c, q, rfl⟩
theorem ppD_of {d : Jvm.FP.Core.Datum} (h : ppD d = true) : ∃ c q, d = .fin false c q ∧ c ≠ 0 := by
  cases d with
  | nan => cases h
  | inf s => cases h
  | fin s c q => cases s with
    | true => cases h
    | false => exact ⟨c, q, rfl, of_decide_eq_true h⟩
theorem k64y : ∀ a, a < 65 → ∀ b, b < 67 → pzD (Jvm.FP.Core.decode Jvm.FP.Core.b64 (FP.i2d (nI (67 * a + b))).toNat) = true := by decide +kernel
theorem k64z (n : Nat) (h : n < 4321) : pzD (Jvm.FP.Core.decode Jvm.FP.Core.b64 (FP.i2d (nI n)).toNat) = true := by
  have := k64y (n / 67) (by omega) (n % 67) (by omega)
  rw [show 67 * (n / 67) + n % 67 = n by omega] at this
  exact this
theorem k64p : ∀ n, n < 481 → n = 0 ∨ ppD (Jvm.FP.Core.decode Jvm.FP.Core.b64 (FP.i2d (nI n)).toNat) = true := by decide +kernel
theorem k32z : ∀ n, n < 541 → pzD (Jvm.FP.Core.decode Jvm.FP.Core.b32 (FP.i2f (nI n)).toNat) = true := by decide +kernel
theorem k32p : ∀ n, n < 541 → n = 0 ∨ ppD (Jvm.FP.Core.decode Jvm.FP.Core.b32 (FP.i2f (nI n)).toNat) = true := by decide +kernel
theorem enc64 (c d : Nat) (q : Int) : Jvm.FP.Core.encode Jvm.FP.Core.b64 (Jvm.FP.Core.roundRatio Jvm.FP.Core.b64 false c d q) ≤ 9218868437227405312 := by
  have t : Jvm.FP.Core.b64.tails = 4503599627370496 := by decide
  have e : Jvm.FP.Core.b64.exps = 2048 := by decide
  have a : Jvm.FP.Core.b64.qmin = -1074 := by decide
  have b : Jvm.FP.Core.b64.qmax = 971 := by decide
  have p : (2 : Nat) ^ Jvm.FP.Core.b64.p = 9007199254740992 := by decide
  have hb : ∀ (c' : Nat) (q' : Int), c' < 9007199254740992 → Jvm.FP.Core.encode Jvm.FP.Core.b64 (Jvm.FP.Core.bound Jvm.FP.Core.b64 false c' q') ≤ 9218868437227405312 := by
    intro c' q' hc
    unfold Jvm.FP.Core.bound
    split
    · unfold Jvm.FP.Core.encode Jvm.FP.Core.assemble
      simp only [t, e, a, b] at *
      split
      · simp; omega
      · simp; omega
    · unfold Jvm.FP.Core.encode Jvm.FP.Core.assemble
      simp only [t, e]
      simp
  unfold Jvm.FP.Core.roundRatio
  split
  · unfold Jvm.FP.Core.encode Jvm.FP.Core.assemble
    simp only [t, e]
    simp
  · unfold Jvm.FP.Core.roundAt Jvm.FP.Core.settle
    split
    · rename_i h; rw [p] at h; exact hb _ _ h
    · exact hb _ _ (by rw [t]; decide)
theorem enc32 (c d : Nat) (q : Int) : Jvm.FP.Core.encode Jvm.FP.Core.b32 (Jvm.FP.Core.roundRatio Jvm.FP.Core.b32 false c d q) ≤ 2139095040 := by
  have t : Jvm.FP.Core.b32.tails = 8388608 := by decide
  have e : Jvm.FP.Core.b32.exps = 256 := by decide
  have a : Jvm.FP.Core.b32.qmin = -149 := by decide
  have b : Jvm.FP.Core.b32.qmax = 104 := by decide
  have p : (2 : Nat) ^ Jvm.FP.Core.b32.p = 16777216 := by decide
  have hb : ∀ (c' : Nat) (q' : Int), c' < 16777216 → Jvm.FP.Core.encode Jvm.FP.Core.b32 (Jvm.FP.Core.bound Jvm.FP.Core.b32 false c' q') ≤ 2139095040 := by
    intro c' q' hc
    unfold Jvm.FP.Core.bound
    split
    · unfold Jvm.FP.Core.encode Jvm.FP.Core.assemble
      simp only [t, e, a, b] at *
      split
      · simp; omega
      · simp; omega
    · unfold Jvm.FP.Core.encode Jvm.FP.Core.assemble
      simp only [t, e]
      simp
  unfold Jvm.FP.Core.roundRatio
  split
  · unfold Jvm.FP.Core.encode Jvm.FP.Core.assemble
    simp only [t, e]
    simp
  · unfold Jvm.FP.Core.roundAt Jvm.FP.Core.settle
    split
    · rename_i h; rw [p] at h; exact hb _ _ h
    · exact hb _ _ (by rw [t]; decide)
theorem ok_ddiv {s f : Nat} (hs : s < 4321) (hf : f < 481) (h0 : f ≠ 0) : okD (FP.ddiv (FP.i2d (nI s)) (FP.i2d (nI f))) = true := by
  obtain ⟨c, q, e1⟩ := pzD_of (k64z s hs)
  obtain ⟨d, r, e2, hd⟩ := ppD_of ((k64p f hf).resolve_left h0)
  have hv : FP.ddiv (FP.i2d (nI s)) (FP.i2d (nI f)) = .ofNat (Jvm.FP.Core.encode Jvm.FP.Core.b64 (Jvm.FP.Core.roundRatio Jvm.FP.Core.b64 false c d (q - r))) := by
    show UInt64.ofNat (Jvm.FP.Core.encode Jvm.FP.Core.b64 (Jvm.FP.Core.quotient Jvm.FP.Core.b64 (Jvm.FP.Core.decode Jvm.FP.Core.b64 (FP.i2d (nI s)).toNat) (Jvm.FP.Core.decode Jvm.FP.Core.b64 (FP.i2d (nI f)).toNat))) = _
    rw [e1, e2]
    show UInt64.ofNat (Jvm.FP.Core.encode Jvm.FP.Core.b64 (if d = 0 then _ else _)) = _
    rw [if_neg hd]; rfl
  rw [hv]
  have := enc64 c d (q - r)
  generalize Jvm.FP.Core.encode Jvm.FP.Core.b64 (Jvm.FP.Core.roundRatio Jvm.FP.Core.b64 false c d (q - r)) = n at this
  unfold okD
  refine decide_eq_true ?_
  rw [UInt64.le_iff_toNat_le, UInt64.toNat_and]
  refine Nat.le_trans Nat.and_le_left ?_
  have hz : UInt64.size = 18446744073709551616 := rfl
  have hn : (UInt64.ofNat n).toNat = n := UInt64.toNat_ofNat_of_lt (by omega)
  rw [hn]
  exact this
theorem ok_fdiv {s f : Nat} (hs : s < 541) (hf : f < 541) (h0 : f ≠ 0) : okF (FP.fdiv (FP.i2f (nI s)) (FP.i2f (nI f))) = true := by
  obtain ⟨c, q, e1⟩ := pzD_of (k32z s hs)
  obtain ⟨d, r, e2, hd⟩ := ppD_of ((k32p f hf).resolve_left h0)
  have hv : FP.fdiv (FP.i2f (nI s)) (FP.i2f (nI f)) = .ofNat (Jvm.FP.Core.encode Jvm.FP.Core.b32 (Jvm.FP.Core.roundRatio Jvm.FP.Core.b32 false c d (q - r))) := by
    show UInt32.ofNat (Jvm.FP.Core.encode Jvm.FP.Core.b32 (Jvm.FP.Core.quotient Jvm.FP.Core.b32 (Jvm.FP.Core.decode Jvm.FP.Core.b32 (FP.i2f (nI s)).toNat) (Jvm.FP.Core.decode Jvm.FP.Core.b32 (FP.i2f (nI f)).toNat))) = _
    rw [e1, e2]
    show UInt32.ofNat (Jvm.FP.Core.encode Jvm.FP.Core.b32 (if d = 0 then _ else _)) = _
    rw [if_neg hd]; rfl
  rw [hv]
  have := enc32 c d (q - r)
  generalize Jvm.FP.Core.encode Jvm.FP.Core.b32 (Jvm.FP.Core.roundRatio Jvm.FP.Core.b32 false c d (q - r)) = n at this
  unfold okF
  refine decide_eq_true ?_
  rw [UInt32.le_iff_toNat_le, UInt32.toNat_and]
  refine Nat.le_trans Nat.and_le_left ?_
  have hz : UInt32.size = 4294967296 := rfl
  have hn : (UInt32.ofNat n).toNat = n := UInt32.toNat_ofNat_of_lt (by omega)
  rw [hn]
  exact this
end
