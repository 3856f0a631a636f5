/-! ===== the world that the constructors leave ===== -/
section
def hp0 : HP := fun r k => if (r = (5, 0, 0) ∧ k = 8) ∨ (r = (10, 0, 0) ∧ k = 13) then m1 else 0
theorem hp0_0 {r : RF} {k : Nat} (h : r ≠ (5, 0, 0)) (h' : r ≠ (10, 0, 0)) : hp0 r k = 0 := by
  unfold hp0
  rw [if_neg]
  rintro (⟨a, _⟩ | ⟨a, _⟩)
  · exact h a
  · exact h' a
theorem hp0_z {r : RF} (h : r ≠ (5, 0, 0)) (h' : r ≠ (10, 0, 0)) : hp0 r = fun _ => 0 := funext fun _ => hp0_0 h h'
theorem hp0_k {r : RF} {k : Nat} (h : ¬ (r = (5, 0, 0) ∧ k = 8)) (h' : ¬ (r = (10, 0, 0) ∧ k = 13)) : hp0 r k = 0 := by
  unfold hp0
  rw [if_neg]
  rintro (a | a)
  · exact h a
  · exact h' a
/-- both systems agree at first -/
theorem Inv_0 : Inv 0 hp0 hp0 := by
  have z0 : nI 0 = 0 := rfl
  refine ⟨0, 0, 0, 0, 0, fun i => ?_⟩
  match i with
  | 0 => exact hp0_0 (by decide) (by decide)
  | 1 => exact hp0_k (by simp) (by simp)
  | 2 => exact Nat.zero_le _
  | 3 => intro k _; rw [hp0_0 (by decide) (by decide), hp0_0 (by decide) (by decide)]
  | 4 => intro k _; rw [hp0_0 (by decide) (by decide)]; exact isN_n (k := 0) (by omega)
  | 5 => exact (hp0_k (by simp) (by simp)).trans (hp0_k (by simp) (by simp)).symm
  | 6 => rfl
  | 7 => exact hp0_0 (by decide) (by decide)
  | 8 => exact hp0_k (by simp) (by simp)
  | 9 => exact Nat.zero_le _
  | 10 => intro j hj; omega
  | 11 => intro m _; rw [hp0_0 (by simp) (by simp)]; decide
  | 12 => intro m _; rw [hp0_0 (by simp) (by simp)]; decide
  | 13 => exact hp0_0 (by decide) (by decide)
  | 14 => show 0 < 8; omega
  | 15 => exact hp0_0 (by decide) (by decide)
  | 16 => exact hp0_k (by simp) (by simp)
  | 17 => exact Nat.zero_le _
  | 18 => intro i _; rw [hp0_0 (by simp) (by simp), hp0_0 (by decide) (by decide)]
  | 19 => intro i _; rw [hp0_0 (by decide) (by decide)]; decide
  | 20 => exact hp0_k (by simp) (by simp)
  | 21 => exact (hp0_0 (by decide) (by decide)).trans (hp0_k (by simp) (by simp)).symm
  | 22 => exact Or.inl (hp0_k (by simp) (by simp))
  | 23 => exact fun _ => ⟨rfl, fun i _ => hp0_0 (by decide) (by decide)⟩
  | 24 => intro q; rw [hp0_k (by simp) (by simp)] at q; exact absurd q.symm n10
  | 25 => intro _ a ha; omega
  | 26 => intro i _ q; rw [hp0_0 (by decide) (by decide)] at q; exact absurd q.symm n10
  | n + 27 => exact trivial
variable {B : Nat} {G : GG}
def TT0 (B : Nat) (G : GG) : Nat → va_E := fun j => ent B G hp0 (allR.getD j (0, 0, 0))
def T00 (B : Nat) (G : GG) : Nat → va_E := updE (TT0 B G) 55 (zQ G.2.2 8 (fun j => some (B + (54 + (2 + 25 * j)))))
theorem T_at {j : Nat} {r : RF} (h : allR[j]? = some r) (hj : j ≠ 55) : T00 B G j = ent B G hp0 r := by
  unfold T00 TT0
  rw [updE_n hj, List.getD_eq_getElem?_getD, h]
  rfl
theorem t_row {i w m N : Nat} (h1 : allR[i]? = some (7, w, m)) (h2 : allR[i + 1]? = some (11, w, m)) (hi : i ≠ 55) (hi2 : i + 1 ≠ 55) (hN : wlen w = N) : RowH B G (T00 B G) i N := by
  refine ⟨?_, ?_⟩
  · rw [T_at h1 hi, show ent B G hp0 (7, w, m) = .inr (7, [.ref (B + adr (11, w, m))]) from rfl, adr_of h2]
  · rw [T_at h2 hi2, show ent B G hp0 (11, w, m) = .inl (G.1, wlen w, .inl (hp0 (11, w, m))) from rfl, hp0_z (by simp) (by simp), hN]
    rfl
def posM (m : Nat) : Nat := match m with | 0 => 3 | 1 => 28 | 10 => 257 | 11 => 283 | m => 6 + 25 * m
def clM (o m : Nat) : RF := match o with | 0 => (3, 0, m) | 1 => (7, 0, m) | 2 => (11, 0, m) | 3 => (6, 0, m) | 4 => (7, 1, m) | 5 => (11, 1, m) | 6 => (4, 0, m) | 7 => (7, 2, m) | 8 => (11, 2, m) | 9 => (7, 3, m) | 10 => (11, 3, m) | 11 => (1, 0, m) | 12 => (7, 4, m) | 13 => (11, 4, m) | 14 => (0, 0, m) | 15 => (7, 5, m) | 16 => (11, 5, m) | 17 => (7, 6, m) | 18 => (11, 6, m) | 19 => (7, 7, m) | 20 => (11, 7, m) | 21 => (7, 8, m) | 22 => (11, 8, m) | 23 => (7, 9, m) | _ => (11, 9, m)
theorem clM_at : ∀ m, m < 12 → ∀ o, o < 25 → allR[posM m + o]? = some (clM o m) := by decide +kernel
theorem posM_ne : ∀ m, m < 12 → ∀ o, o < 25 → posM m + o ≠ 55 := by decide +kernel
theorem t_mach {m : Nat} (hm : m < 12) : MacH B G (T00 B G) (posM m) := by
  have c := clM_at m hm
  have n := posM_ne m hm
  have T : ∀ o, o < 25 → T00 B G (posM m + o) = ent B G hp0 (clM o m) := fun o ho => T_at (c o ho) (n o ho)
  have A : ∀ o, o < 25 → adr (clM o m) = posM m + o := fun o ho => adr_of (c o ho)
  have a1 : adr (7, 0, m) = posM m + 1 := A 1 (by omega)
  have a3 : adr (6, 0, m) = posM m + 3 := A 3 (by omega)
  have a4 : adr (7, 1, m) = posM m + 4 := A 4 (by omega)
  have a6 : adr (4, 0, m) = posM m + 6 := A 6 (by omega)
  have a7 : adr (7, 2, m) = posM m + 7 := A 7 (by omega)
  have a9 : adr (7, 3, m) = posM m + 9 := A 9 (by omega)
  have a11 : adr (1, 0, m) = posM m + 11 := A 11 (by omega)
  have a12 : adr (7, 4, m) = posM m + 12 := A 12 (by omega)
  have a14 : adr (0, 0, m) = posM m + 14 := A 14 (by omega)
  have a15 : adr (7, 5, m) = posM m + 15 := A 15 (by omega)
  have a17 : adr (7, 6, m) = posM m + 17 := A 17 (by omega)
  have a19 : adr (7, 7, m) = posM m + 19 := A 19 (by omega)
  have a21 : adr (7, 8, m) = posM m + 21 := A 21 (by omega)
  have a23 : adr (7, 9, m) = posM m + 23 := A 23 (by omega)
  have row : ∀ (o w N : Nat), o + 1 < 25 → clM o m = (7, w, m) → clM (o + 1) m = (11, w, m) → wlen w = N → RowH B G (T00 B G) (posM m + o) N := fun o w N ho h1 h2 hN =>
    t_row (w := w) (m := m) (by rw [c o (by omega), h1]) (by have := c (o + 1) ho; rw [h2] at this; exact this) (n o (by omega)) (n (o + 1) ho) hN
  have z : ∀ (q w k : Nat), q = 0 ∨ q = 1 ∨ q = 3 ∨ q = 6 → hp0 (q, w, m) k = 0 := fun q w k hq => hp0_0 (fun e => by have := congrArg Prod.fst e; simp at this; omega) (fun e => by have := congrArg Prod.fst e; simp at this; omega)
  refine ⟨?_, row 1 0 13 (by omega) rfl rfl rfl, ⟨?_, row 4 1 60 (by omega) rfl rfl rfl⟩, ⟨?_, row 7 2 480 (by omega) rfl rfl rfl, row 9 3 480 (by omega) rfl rfl rfl⟩, ⟨?_, row 12 4 40 (by omega) rfl rfl rfl⟩, ⟨?_, row 15 5 26 (by omega) rfl rfl rfl, row 17 6 26 (by omega) rfl rfl rfl, row 19 7 26 (by omega) rfl rfl rfl, row 21 8 26 (by omega) rfl rfl rfl⟩, row 23 9 14 (by omega) rfl rfl rfl⟩
  · refine (T 0 (by omega)).trans ?_
    rw [show ent B G hp0 (clM 0 m) = .inr (3, [.ref (B + adr (7, 0, m)), .ref (B + adr (6, 0, m)), .ref (B + adr (4, 0, m)), .ref (B + adr (1, 0, m)), .ref (B + adr (0, 0, m)), .ref (B + adr (7, 9, m)), .int (hp0 (3, 0, m) 6), .int (hp0 (3, 0, m) 7), .int (hp0 (3, 0, m) 8), .int (hp0 (3, 0, m) 9)]) from rfl, a1, a3, a6, a11, a14, a23, z 3 0 6 (by omega), z 3 0 7 (by omega), z 3 0 8 (by omega), z 3 0 9 (by omega)]
  · refine (T 3 (by omega)).trans ?_
    rw [show ent B G hp0 (clM 3 m) = .inr (6, [.ref (B + adr (7, 0, m)), .ref (B + adr (7, 1, m)), .int (hp0 (6, 0, m) 2), .int (hp0 (6, 0, m) 3), .int (hp0 (6, 0, m) 4)]) from rfl, a1, a4, z 6 0 2 (by omega), z 6 0 3 (by omega), z 6 0 4 (by omega)]
  · refine (T 6 (by omega)).trans ?_
    rw [show ent B G hp0 (clM 6 m) = .inr (4, [.ref (B + adr (7, 0, m)), .ref (B + adr (7, 2, m)), .ref (B + adr (7, 3, m))]) from rfl, a1, a7, a9]
  · refine (T 11 (by omega)).trans ?_
    rw [show ent B G hp0 (clM 11 m) = .inr (1, [.ref (B + adr (7, 0, m)), .ref (B + adr (7, 4, m)), .int (hp0 (1, 0, m) 2), .int (hp0 (1, 0, m) 3), .int (hp0 (1, 0, m) 4)]) from rfl, a1, a12, z 1 0 2 (by omega), z 1 0 3 (by omega), z 1 0 4 (by omega)]
  · refine (T 14 (by omega)).trans ?_
    rw [show ent B G hp0 (clM 14 m) = .inr (0, [.ref (B + adr (7, 0, m)), .ref (B + adr (7, 5, m)), .ref (B + adr (7, 6, m)), .ref (B + adr (7, 7, m)), .ref (B + adr (7, 8, m)), .int (hp0 (0, 0, m) 5), .int (hp0 (0, 0, m) 6), .int (hp0 (0, 0, m) 7), .int (hp0 (0, 0, m) 8)]) from rfl, a1, a15, a17, a19, a21, z 0 0 5 (by omega), z 0 0 6 (by omega), z 0 0 7 (by omega), z 0 0 8 (by omega)]
theorem oth_at : allR[0]? = some (9, 0, 0) ∧ allR[1]? = some (7, 10, 0) ∧ allR[2]? = some (11, 10, 0) ∧ allR[53]? = some (5, 0, 0) ∧ allR[54]? = some (2, 0, 0) ∧ allR[55]? = some (13, 0, 0) ∧ allR[256]? = some (8, 0, 0) ∧ allR[282]? = some (8, 0, 1) ∧ allR[308]? = some (7, 11, 0) := by decide +kernel
theorem oth_at2 : allR[309]? = some (11, 11, 0) ∧ allR[310]? = some (7, 12, 0) ∧ allR[311]? = some (11, 12, 0) ∧ allR[312]? = some (10, 0, 0) ∧ allR[3]? = some (3, 0, 0) ∧ allR[28]? = some (3, 0, 1) ∧ allR[257]? = some (3, 0, 10) ∧ allR[283]? = some (3, 0, 11) := by decide +kernel
theorem t_type : TypH B G (T00 B G) 0 := by
  obtain ⟨o0, o1, o2, o53, o54, o55, o256, o282, o308⟩ := oth_at
  obtain ⟨o309, o310, o311, o312, o3, o28, o257, o283⟩ := oth_at2
  have z : ∀ (q w m k : Nat), q ≠ 5 → q ≠ 10 → hp0 (q, w, m) k = 0 := fun q w m k h1 h2 => hp0_0 (fun e => h1 (congrArg Prod.fst e)) (fun e => h2 (congrArg Prod.fst e))
  refine ⟨?_, t_row o1 o2 (by decide) (by decide) rfl, t_mach (m := 0) (by omega), t_mach (m := 1) (by omega), ?_, ⟨?_, ?_, ?_⟩, ⟨?_, t_mach (m := 10) (by omega)⟩, ⟨?_, t_mach (m := 11) (by omega)⟩, t_row o308 o309 (by decide) (by decide) rfl, t_row o310 o311 (by decide) (by decide) rfl⟩
  · refine (T_at o0 (by decide)).trans ?_
    rw [show ent B G hp0 (9, 0, 0) = .inr (9, [.ref (B + adr (7, 10, 0)), .int (hp0 (9, 0, 0) 1), .int (hp0 (9, 0, 0) 2), .ref (B + adr (3, 0, 0)), .ref (B + adr (3, 0, 1)), .ref (B + adr (5, 0, 0)), .ref (B + adr (2, 0, 0)), .ref (B + adr (8, 0, 0)), .ref (B + adr (8, 0, 1)), .ref (B + adr (7, 11, 0)), .int (hp0 (9, 0, 0) 10), .ref (B + adr (7, 12, 0))]) from rfl, adr_of o1, adr_of o3, adr_of o28, adr_of o53, adr_of o54, adr_of o256, adr_of o282, adr_of o308, adr_of o310, z 9 0 0 1 (by decide) (by decide), z 9 0 0 2 (by decide) (by decide), z 9 0 0 10 (by decide) (by decide)]
  · refine (T_at o53 (by decide)).trans ?_
    rw [show ent B G hp0 (5, 0, 0) = .inr (5, [.ref (B + adr (7, 10, 0)), .ref (B + adr (3, 0, 1)), .int (hp0 (5, 0, 0) 2), .int (hp0 (5, 0, 0) 3), .int (hp0 (5, 0, 0) 4), .int (hp0 (5, 0, 0) 5), .int (hp0 (5, 0, 0) 6), .int (hp0 (5, 0, 0) 7), .int (hp0 (5, 0, 0) 8)]) from rfl, adr_of o1, adr_of o28, hp0_k (k := 2) (by simp) (by simp), hp0_k (k := 3) (by simp) (by simp), hp0_k (k := 4) (by simp) (by simp), hp0_k (k := 5) (by simp) (by simp), hp0_k (k := 6) (by simp) (by simp), hp0_k (k := 7) (by simp) (by simp), show hp0 (5, 0, 0) 8 = m1 from rfl]
  · refine (T_at o54 (by decide)).trans ?_
    rw [show ent B G hp0 (2, 0, 0) = .inr (2, [.ref (B + adr (13, 0, 0)), .int (hp0 (2, 0, 0) 1), .int (hp0 (2, 0, 0) 2)]) from rfl, adr_of o55, z 2 0 0 1 (by decide) (by decide), z 2 0 0 2 (by decide) (by decide)]
  · exact updE_s
  · intro j hj
    have e : posM (2 + j) = 0 + 54 + (2 + 25 * j) := by
      have : ∀ j, j < 8 → posM (2 + j) = 0 + 54 + (2 + 25 * j) := by decide
      exact this j hj
    have := t_mach (B := B) (G := G) (m := 2 + j) (by omega)
    rw [e] at this
    exact this
  · refine (T_at o256 (by decide)).trans ?_
    rw [show ent B G hp0 (8, 0, 0) = .inr (8, [.ref (B + adr (3, 0, 10)), .int (hp0 (8, 0, 0) 1)]) from rfl, adr_of o257, z 8 0 0 1 (by decide) (by decide)]
  · refine (T_at o282 (by decide)).trans ?_
    rw [show ent B G hp0 (8, 0, 1) = .inr (8, [.ref (B + adr (3, 0, 11)), .int (hp0 (8, 0, 1) 1)]) from rfl, adr_of o283, z 8 0 1 1 (by decide) (by decide)]
end
