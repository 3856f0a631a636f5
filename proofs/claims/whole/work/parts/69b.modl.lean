/-! ===== the reference's cells, and the whole world at first ===== -/
section
variable {B : Nat} {G : GG}
def modR : List RF := [(10, 0, 0), (11, 20, 0), (11, 21, 0), (11, 22, 0), (11, 23, 0), (11, 24, 0), (12, 0, 0), (11, 25, 0), (11, 26, 0), (11, 27, 0), (11, 28, 0), (11, 29, 0), (11, 30, 0), (11, 31, 0)]
theorem modR_at : ∀ i, i < 14 → allR[312 + i]? = modR[i]? := by decide +kernel
theorem T_arr {i N : Nat} {r : RF} (h : allR[i]? = some r) (hi : i ≠ 55) (h1 : r.1 = 11) (hN : alen r = N) : T00 B G i = zI G.1 N := by
  rw [T_at h hi, ent_int h1, hN, hp0_z (fun e => by rw [e] at h1; exact absurd h1 (by decide)) (fun e => by rw [e] at h1; exact absurd h1 (by decide))]
  rfl
theorem t_modl : ModH B G (T00 B G) 312 := by
  have a : ∀ i r, i < 14 → modR[i]? = some r → adr r = 312 + i := fun i r hi hr => adr_of ((modR_at i hi).trans hr)
  have g : ∀ i r, i < 14 → modR[i]? = some r → allR[312 + i]? = some r := fun i r hi hr => (modR_at i hi).trans hr
  refine ⟨?_, ?_, ?_, ?_, ?_, ?_, ?_, ?_, ?_, ?_, ?_, ?_, ?_, ?_⟩
  · refine (T_at (g 0 (10, 0, 0) (by decide) rfl) (by decide)).trans ?_
    have z : ∀ k, k ≠ 13 → hp0 (10, 0, 0) k = 0 := fun k hk => hp0_k (by simp) (by simp [hk])
    rw [show ent B G hp0 (10, 0, 0) = .inr (10, [.int (hp0 (10, 0, 0) 0), .int (hp0 (10, 0, 0) 1), .int (hp0 (10, 0, 0) 2), .ref (B + adr (11, 20, 0)), .ref (B + adr (11, 21, 0)), .ref (B + adr (11, 22, 0)), .ref (B + adr (11, 23, 0)), .ref (B + adr (11, 24, 0)), .int (hp0 (10, 0, 0) 8), .ref (B + adr (12, 0, 0)), .ref (B + adr (11, 25, 0)), .int (hp0 (10, 0, 0) 11), .int (hp0 (10, 0, 0) 12), .int (hp0 (10, 0, 0) 13), .int (hp0 (10, 0, 0) 14), .int (hp0 (10, 0, 0) 15), .int (hp0 (10, 0, 0) 16), .int (hp0 (10, 0, 0) 17), .int (hp0 (10, 0, 0) 18), .int (hp0 (10, 0, 0) 19), .int (hp0 (10, 0, 0) 20), .ref (B + adr (11, 26, 0)), .ref (B + adr (11, 27, 0)), .ref (B + adr (11, 28, 0)), .int (hp0 (10, 0, 0) 24), .int (hp0 (10, 0, 0) 25), .ref (B + adr (11, 29, 0)), .ref (B + adr (11, 30, 0)), .int (hp0 (10, 0, 0) 28), .ref (B + adr (11, 31, 0)), .int (hp0 (10, 0, 0) 30)]) from rfl]
    rw [a 1 _ (by decide) rfl, a 2 _ (by decide) rfl, a 3 _ (by decide) rfl, a 4 _ (by decide) rfl, a 5 _ (by decide) rfl, a 6 _ (by decide) rfl, a 7 _ (by decide) rfl, a 8 _ (by decide) rfl, a 9 _ (by decide) rfl, a 10 _ (by decide) rfl, a 11 _ (by decide) rfl, a 12 _ (by decide) rfl, a 13 _ (by decide) rfl]
    rw [z 0 (by decide), z 1 (by decide), z 2 (by decide), z 8 (by decide), z 11 (by decide), z 12 (by decide), z 14 (by decide), z 15 (by decide), z 16 (by decide), z 17 (by decide), z 18 (by decide), z 19 (by decide), z 20 (by decide), z 24 (by decide), z 25 (by decide), z 28 (by decide), z 30 (by decide), show hp0 (10, 0, 0) 13 = m1 from rfl]
  · exact T_arr (g 1 _ (by decide) rfl) (by decide) rfl rfl
  · exact T_arr (g 2 _ (by decide) rfl) (by decide) rfl rfl
  · exact T_arr (g 3 _ (by decide) rfl) (by decide) rfl rfl
  · exact T_arr (g 4 _ (by decide) rfl) (by decide) rfl rfl
  · exact T_arr (g 5 _ (by decide) rfl) (by decide) rfl rfl
  · refine (T_at (g 6 (12, 0, 0) (by decide) rfl) (by decide)).trans ?_
    rw [ent_boo rfl, hp0_z (by decide) (by decide)]
    rfl
  · exact T_arr (g 7 _ (by decide) rfl) (by decide) rfl rfl
  · exact T_arr (g 8 _ (by decide) rfl) (by decide) rfl rfl
  · exact T_arr (g 9 _ (by decide) rfl) (by decide) rfl rfl
  · exact T_arr (g 10 _ (by decide) rfl) (by decide) rfl rfl
  · exact T_arr (g 11 _ (by decide) rfl) (by decide) rfl rfl
  · exact T_arr (g 12 _ (by decide) rfl) (by decide) rfl rfl
  · exact T_arr (g 13 _ (by decide) rfl) (by decide) rfl rfl
theorem PW_world {hp : HP} : PW B 326 (fun j => ent B G hp (allR.getD j (0, 0, 0))) = World B G hp := by
  apply List.ext_getElem?
  intro j
  rw [World_at]
  by_cases hj : j < 326
  · rw [PW_at hj]
    have hj' : j < allR.length := by rw [allR_len]; exact hj
    rw [List.getElem?_eq_getElem hj', List.getD_eq_getElem?_getD, List.getElem?_eq_getElem hj']
    rfl
  · rw [List.getElem?_eq_none (by rw [PW_len]; omega), List.getElem?_eq_none (by rw [allR_len]; omega)]
    rfl
theorem kept_adr : ∀ j, j < 8 → adr (3, 0, 2 + j) = 54 + (2 + 25 * j) := by
  intro j hj
  have := clM_at (2 + j) (by omega) 0 (by omega)
  have e : posM (2 + j) + 0 = 54 + (2 + 25 * j) := by
    have : ∀ j, j < 8 → posM (2 + j) + 0 = 54 + (2 + 25 * j) := by decide
    exact this j hj
  rw [e] at this
  exact adr_of this
/-- the refs row as the world has it -/
theorem T00_id : updE (TT0 B G) 55 (zQ G.2.2 8 (fun j => some (B + adr (3, 0, 2 + j)))) = TT0 B G := by
  refine updE_id ?_
  obtain ⟨o0, o1, o2, o53, o54, o55, o256, o282, o308⟩ := oth_at
  unfold TT0
  rw [List.getD_eq_getElem?_getD, o55]
  exact ent_ref rfl
end
