/-! ===== numbers of 32 bits, rows of the heap ===== -/
section
theorem lt_i {x y : Int32} : x < y ↔ x.toInt < y.toInt := Int32.lt_iff_toInt_lt
theorem le_i {x y : Int32} : x ≤ y ↔ x.toInt ≤ y.toInt := Int32.le_iff_toInt_le
theorem eqi {x y : Int32} : x = y ↔ x.toInt = y.toInt := Int32.toInt_inj.symm
theorem add_i (x y : Int32) : (x + y).toInt = (x.toInt + y.toInt + 2147483648) % 4294967296 - 2147483648 := by
  rw [Int32.toInt_add, Int.bmod_def]; split <;> omega
theorem sub_i (x y : Int32) : (x - y).toInt = (x.toInt - y.toInt + 2147483648) % 4294967296 - 2147483648 := by
  rw [Int32.toInt_sub, Int.bmod_def]; split <;> omega
theorem mul_i (x y : Int32) : (x * y).toInt = (x.toInt * y.toInt + 2147483648) % 4294967296 - 2147483648 := by
  rw [Int32.toInt_mul, Int.bmod_def]; split <;> omega
theorem add_s {x y : Int32} (h : -2147483648 ≤ x.toInt + y.toInt) (h' : x.toInt + y.toInt < 2147483648) : (x + y).toInt = x.toInt + y.toInt := by
  rw [add_i]; omega
theorem sub_s {x y : Int32} (h : -2147483648 ≤ x.toInt - y.toInt) (h' : x.toInt - y.toInt < 2147483648) : (x - y).toInt = x.toInt - y.toInt := by
  rw [sub_i]; omega
theorem m1_i : m1.toInt = -1 := by decide
theorem nat_i (x : Int32) : x.toNatClampNeg = x.toInt.toNat := rfl
theorem lo_i (x : Int32) : -2147483648 ≤ x.toInt := Int32.le_toInt x
theorem hi_i (x : Int32) : x.toInt < 2147483648 := Int32.toInt_lt x
theorem n_i {n : Nat} (h : n < 2147483648) : (nI n).toInt = n := nI_toInt h
theorem n_c {n : Nat} (h : n < 2147483648) : (nI n).toNatClampNeg = n := nI_clamp h
theorem n_add (a b : Nat) : nI a + nI b = nI (a + b) := nI_add a b
theorem n_mul (a b : Nat) : nI a * nI b = nI (a * b) := (Int32.ofNat_mul a b).symm
theorem n_sub {a b : Nat} (h : b ≤ a) : nI a - nI b = nI (a - b) := (Int32.ofNat_sub a b h).symm
theorem n_lt {a b : Nat} (ha : a < 2147483648) (hb : b < 2147483648) : nI a < nI b ↔ a < b := nI_ltI ha hb
theorem n_eq {a b : Nat} (ha : a < 2147483648) (hb : b < 2147483648) : nI a = nI b ↔ a = b := nI_eq ha hb
theorem n_m1 {a : Nat} (ha : a < 2147483648) : ¬ nI a = m1 := by
  intro h; have := congrArg Int32.toInt h; rw [n_i ha, m1_i] at this; omega
theorem n_neg {a : Nat} (ha : a < 2147483648) : ¬ nI a < 0 := nI_pos ha
theorem n_of {x : Int32} (h : 0 ≤ x.toInt) : x = nI x.toNatClampNeg := by
  have h1 := hi_i x
  have h2 : x.toNatClampNeg < 2147483648 := by rw [nat_i]; omega
  rw [eqi, n_i h2, nat_i]; omega
theorem n_lit (n : Nat) : (OfNat.ofNat n : Int32) = nI n := rfl
theorem imax_n {a b : Nat} (ha : a < 2147483648) (hb : b < 2147483648) : imax (nI a) (nI b) = nI (max a b) := by
  unfold imax
  by_cases h : a < b
  · rw [if_pos ((n_lt ha hb).mpr h), Nat.max_eq_right (by omega)]
  · rw [if_neg (fun q => h ((n_lt ha hb).mp q)), Nat.max_eq_left (by omega)]
theorem imax_i (x y : Int32) : (imax x y).toInt = max x.toInt y.toInt := by
  unfold imax
  by_cases h : x < y
  · rw [if_pos h]; have := lt_i.mp h; omega
  · rw [if_neg h]; have : ¬ x.toInt < y.toInt := fun q => h (lt_i.mpr q); omega
theorem imin_i (x y : Int32) : (imin x y).toInt = min x.toInt y.toInt := by
  unfold imin
  by_cases h : y < x
  · rw [if_pos h]; have := lt_i.mp h; omega
  · rw [if_neg h]; have : ¬ y.toInt < x.toInt := fun q => h (lt_i.mpr q); omega
theorem iabs_i {x : Int32} (h : -2147483648 < x.toInt) : (iabs x).toInt = if 0 ≤ x.toInt then x.toInt else - x.toInt := by
  unfold iabs
  have z : (0 : Int32).toInt = 0 := rfl
  have hh := hi_i x
  by_cases h0 : 0 ≤ x
  · have := le_i.mp h0; rw [if_pos h0, if_pos (by omega)]
  · have : ¬ (0 : Int32).toInt ≤ x.toInt := fun q => h0 (le_i.mpr q)
    rw [if_neg h0, if_neg (by omega), sub_i, z]; omega
theorem inb_n {k n : Nat} (h : k < n) (hn : n < 2147483648) : inb (nI k) n = true := by
  unfold inb
  rw [n_c (by omega)]
  simp [n_neg (show k < 2147483648 by omega), h]
theorem FU_s : ∃ n, FU = n + 12000 := ⟨FU - 12000, by have := FU_ge; omega⟩
theorem isB_iff {x : Int32} : isB x = true ↔ x = 0 ∨ x = 1 := by unfold isB; simp
end
section
/-- a row with one place changed -/
def uT (T : Nat → Int32) (k : Nat) (x : Int32) : Nat → Int32 := fun j => if j = k then x else T j
theorem uT_e {T : Nat → Int32} {k : Nat} {x : Int32} : uT T k x k = x := if_pos rfl
theorem uT_n {T : Nat → Int32} {k j : Nat} {x : Int32} (h : j ≠ k) : uT T k x j = T j := if_neg h
theorem uT_a {T : Nat → Int32} {k j : Nat} {x : Int32} : uT T k x j = if j = k then x else T j := rfl
theorem up_e {hp : HP} {r : RF} {k : Nat} {x : Int32} : up hp r k x r = uT (hp r) k x := by
  funext j; unfold up uT; simp
theorem up_n {hp : HP} {r r' : RF} {k : Nat} {x : Int32} (h : ¬ r' = r) : up hp r k x r' = hp r' := by
  funext j; unfold up; simp [h]
theorem wlen_le (w : Nat) : wlen w ≤ 11500 := by unfold wlen; split <;> decide
theorem alen_r (w m : Nat) : alen (11, w, m) = wlen w := rfl
/-- the number at an index of a row, 0 where there is none -/
def RAt (hp : HP) (w m : Nat) (i : Int32) : Int32 := if inb i (wlen w) = true then hp (11, w, m) i.toNatClampNeg else 0
theorem at_eq (w m : Nat) (i : Int32) (hp : HP) : fX7_at w m i hp = some (RAt hp w m i) := by
  show (if i < 0 then (some 0) else (if i < (nI (wlen w)) then (if inb i (wlen w) = true then (some (hp (11, w, m) i.toNatClampNeg)) else none) else (some 0))) = _
  unfold RAt
  have hw := wlen_le w
  have hn : (nI (wlen w)).toInt = wlen w := nI_toInt (by omega)
  by_cases h0 : i < 0
  · have : inb i (wlen w) = false := by unfold inb; simp [h0]
    rw [if_pos h0, this, if_neg (by simp)]
  · have h0' : ¬ i.toInt < 0 := fun q => h0 (lt_i.mpr q)
    rw [if_neg h0]
    by_cases h1 : i < nI (wlen w)
    · have h1' := lt_i.mp h1
      have : inb i (wlen w) = true := by
        have hc := nat_i i; unfold inb; simp [h0]; omega
      rw [if_pos h1, if_pos this, if_pos this]
    · have h1' : ¬ i.toInt < (nI (wlen w)).toInt := fun q => h1 (lt_i.mpr q)
      have : inb i (wlen w) = false := by
        have hc := nat_i i; unfold inb; simp [h0]; omega
      rw [if_neg h1, this, if_neg (by simp)]
theorem RAt_n {hp : HP} {w m k : Nat} (h : k < wlen w) : RAt hp w m (nI k) = hp (11, w, m) k := by
  have hw := wlen_le w
  unfold RAt
  rw [if_pos (inb_n h (by omega)), n_c (by omega)]
theorem at_n {hp : HP} {w m k : Nat} (h : k < wlen w) : fX7_at w m (nI k) hp = some (hp (11, w, m) k) := by rw [at_eq, RAt_n h]
/-- the heap after a number was put at an index of a row -/
def PUt (hp : HP) (w m : Nat) (i x : Int32) : HP := if inb i (wlen w) = true then up hp (11, w, m) i.toNatClampNeg x else hp
theorem put_eq (w m : Nat) (i x : Int32) (hp : HP) : fX7_put w m i x hp = some (PUt hp w m i x) := by
  show (if i < 0 then (some hp) else (if i < (nI (wlen w)) then (if inb i (wlen w) = true then (some (up hp (11, w, m) (i.toNatClampNeg) x)) else none) else (some hp))) = _
  unfold PUt
  have hw := wlen_le w
  have hn : (nI (wlen w)).toInt = wlen w := nI_toInt (by omega)
  by_cases h0 : i < 0
  · have : inb i (wlen w) = false := by unfold inb; simp [h0]
    rw [if_pos h0, this, if_neg (by simp)]
  · have h0' : ¬ i.toInt < 0 := fun q => h0 (lt_i.mpr q)
    rw [if_neg h0]
    by_cases h1 : i < nI (wlen w)
    · have h1' := lt_i.mp h1
      have : inb i (wlen w) = true := by
        have hc := nat_i i; unfold inb; simp [h0]; omega
      rw [if_pos h1, if_pos this, if_pos this]
    · have h1' : ¬ i.toInt < (nI (wlen w)).toInt := fun q => h1 (lt_i.mpr q)
      have : inb i (wlen w) = false := by
        have hc := nat_i i; unfold inb; simp [h0]; omega
      rw [if_neg h1, this, if_neg (by simp)]
theorem PUt_n {hp : HP} {w m k : Nat} {x : Int32} (h : k < wlen w) : PUt hp w m (nI k) x = up hp (11, w, m) k x := by
  have hw := wlen_le w
  unfold PUt
  rw [if_pos (inb_n h (by omega)), n_c (by omega)]
theorem put_n {hp : HP} {w m k : Nat} {x : Int32} (h : k < wlen w) : fX7_put w m (nI k) x hp = some (up hp (11, w, m) k x) := by rw [put_eq, PUt_n h]
theorem PUt_o {hp : HP} {w m : Nat} {i x : Int32} {r : RF} (h : ¬ r = (11, w, m)) : PUt hp w m i x r = hp r := by
  unfold PUt; split
  · exact up_n h
  · rfl
theorem PUt_self {hp : HP} {w m : Nat} {i x : Int32} {j : Nat} (h : i.toNatClampNeg ≠ j) : PUt hp w m i x (11, w, m) j = hp (11, w, m) j := by
  unfold PUt; split
  · rw [up_e, uT_n (fun q => h q.symm)]
  · rfl
/-- a row of one number -/
def FI (hp : HP) (w m : Nat) (x : Int32) : HP := fun r k => if r = (11, w, m) ∧ k < wlen w then x else hp r k
theorem FI_o {hp : HP} {w m : Nat} {x : Int32} {r : RF} (h : ¬ r = (11, w, m)) : FI hp w m x r = hp r := by
  funext j; unfold FI; simp [h]
theorem FI_s {hp : HP} {w m : Nat} {x : Int32} {j : Nat} (h : j < wlen w) : FI hp w m x (11, w, m) j = x := by
  unfold FI; simp [h]
theorem fill_aux (w m : Nat) (x : Int32) : ∀ (q k n : Nat) (hp : HP), k + q = wlen w → q < n → fX7_fill_2 n w m x (nI k) hp = some (fun r j => if r = (11, w, m) ∧ k ≤ j ∧ j < wlen w then x else hp r j) := by
  have hw := wlen_le w
  intro q
  induction q with
  | zero =>
    intro k n hp hk hn
    cases n with
    | zero => omega
    | succ n =>
      show (if nI k < nI (wlen w) then _ else some hp) = _
      rw [if_neg (by rw [n_lt (by omega) (by omega)]; omega)]
      congr 1
      funext r j
      rw [if_neg (by omega)]
  | succ q ih =>
    intro k n hp hk hn
    cases n with
    | zero => omega
    | succ n =>
      show (if nI k < nI (wlen w) then (if inb (nI k) (wlen w) = true then (fX7_fill_2 n w m x (nI k + 1) (up hp (11, w, m) ((nI k).toNatClampNeg) x)) else none) else some hp) = _
      rw [if_pos (by rw [n_lt (by omega) (by omega)]; omega), if_pos (inb_n (by omega) (by omega)), ← nI_succ, n_c (by omega), ih (k + 1) n _ (by omega) (by omega)]
      congr 1
      funext r j
      unfold up
      by_cases hr : r = (11, w, m)
      · by_cases hj : j = k
        · subst hj; simp [hr]; omega
        · simp [hr, hj]
          by_cases h2 : k + 1 ≤ j ∧ j < wlen w
          · rw [if_pos h2, if_pos (by omega)]
          · rw [if_neg h2, if_neg (by omega)]
      · simp [hr]
theorem fill_eq (w m : Nat) (x : Int32) (hp : HP) : fX7_fill w m x hp = some (FI hp w m x) := by
  have hw := wlen_le w
  have hf := FU_ge
  show fX7_fill_2 FU w m x (nI 0) hp = _
  rw [fill_aux w m x (wlen w) 0 FU hp (by omega) (by omega)]
  congr 1
  funext r j
  unfold FI
  simp
theorem copy_eq {w m mr : Nat} (hp : HP) (h : ¬ mr = m) : fX7_copyFrom w m w mr hp = some (cpA hp (11, w, mr) (11, w, m) 0 0 (wlen w)) := by
  have hw := wlen_le w
  have hi : imin (nI (wlen w)) (nI (wlen w)) = nI (wlen w) := by unfold imin; split <;> rfl
  show (if (¬ ((11, w, mr) : RF) = (11, w, m)) ∧ ¬ (imin (nI (wlen w)) (nI (wlen w))) < 0 ∧ (imin (nI (wlen w)) (nI (wlen w))).toNatClampNeg ≤ wlen w ∧ (imin (nI (wlen w)) (nI (wlen w))).toNatClampNeg ≤ wlen w then (some (cpA hp (11, w, mr) (11, w, m) 0 0 (imin (nI (wlen w)) (nI (wlen w))).toNatClampNeg)) else none) = _
  rw [hi, n_c (by omega), if_pos ⟨by simp [h], n_neg (by omega), by omega, by omega⟩]
theorem cpA_s {hp : HP} {w m mr k : Nat} (h : k < wlen w) : cpA hp (11, w, mr) (11, w, m) 0 0 (wlen w) (11, w, m) k = hp (11, w, mr) k := by
  unfold cpA
  rw [if_pos ⟨rfl, by omega, by omega⟩]
  congr 1; omega
theorem cpA_o {hp : HP} {w m mr : Nat} {r : RF} (h : ¬ r = (11, w, m)) : cpA hp (11, w, mr) (11, w, m) 0 0 (wlen w) r = hp r := by
  funext k; unfold cpA; rw [if_neg (fun q => h q.1)]
end
