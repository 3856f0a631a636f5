/-- every cell of the finished system, in the order in which the constructors make them -/
def allR : List RF := [(9, 0, 0), (7, 10, 0), (11, 10, 0), (3, 0, 0), (7, 0, 0), (11, 0, 0), (6, 0, 0), (7, 1, 0), (11, 1, 0), (4, 0, 0), (7, 2, 0), (11, 2, 0), (7, 3, 0), (11, 3, 0), (1, 0, 0), (7, 4, 0), (11, 4, 0), (0, 0, 0), (7, 5, 0), (11, 5, 0), (7, 6, 0), (11, 6, 0), (7, 7, 0), (11, 7, 0), (7, 8, 0), (11, 8, 0), (7, 9, 0), (11, 9, 0), (3, 0, 1), (7, 0, 1), (11, 0, 1), (6, 0, 1), (7, 1, 1), (11, 1, 1), (4, 0, 1), (7, 2, 1), (11, 2, 1), (7, 3, 1), (11, 3, 1), (1, 0, 1), (7, 4, 1), (11, 4, 1), (0, 0, 1), (7, 5, 1), (11, 5, 1), (7, 6, 1), (11, 6, 1), (7, 7, 1), (11, 7, 1), (7, 8, 1), (11, 8, 1), (7, 9, 1), (11, 9, 1), (5, 0, 0), (2, 0, 0), (13, 0, 0), (3, 0, 2), (7, 0, 2), (11, 0, 2), (6, 0, 2), (7, 1, 2), (11, 1, 2), (4, 0, 2), (7, 2, 2), (11, 2, 2), (7, 3, 2), (11, 3, 2), (1, 0, 2), (7, 4, 2), (11, 4, 2), (0, 0, 2), (7, 5, 2), (11, 5, 2), (7, 6, 2), (11, 6, 2), (7, 7, 2), (11, 7, 2), (7, 8, 2), (11, 8, 2), (7, 9, 2), (11, 9, 2), (3, 0, 3), (7, 0, 3), (11, 0, 3), (6, 0, 3), (7, 1, 3), (11, 1, 3), (4, 0, 3), (7, 2, 3), (11, 2, 3), (7, 3, 3), (11, 3, 3), (1, 0, 3), (7, 4, 3), (11, 4, 3), (0, 0, 3), (7, 5, 3), (11, 5, 3), (7, 6, 3), (11, 6, 3), (7, 7, 3), (11, 7, 3), (7, 8, 3), (11, 8, 3), (7, 9, 3), (11, 9, 3), (3, 0, 4), (7, 0, 4), (11, 0, 4), (6, 0, 4), (7, 1, 4), (11, 1, 4), (4, 0, 4), (7, 2, 4), (11, 2, 4), (7, 3, 4), (11, 3, 4), (1, 0, 4), (7, 4, 4), (11, 4, 4), (0, 0, 4), (7, 5, 4), (11, 5, 4), (7, 6, 4), (11, 6, 4), (7, 7, 4), (11, 7, 4), (7, 8, 4), (11, 8, 4), (7, 9, 4), (11, 9, 4), (3, 0, 5), (7, 0, 5), (11, 0, 5), (6, 0, 5), (7, 1, 5), (11, 1, 5), (4, 0, 5), (7, 2, 5), (11, 2, 5), (7, 3, 5), (11, 3, 5), (1, 0, 5), (7, 4, 5), (11, 4, 5), (0, 0, 5), (7, 5, 5), (11, 5, 5), (7, 6, 5), (11, 6, 5), (7, 7, 5), (11, 7, 5), (7, 8, 5), (11, 8, 5), (7, 9, 5), (11, 9, 5), (3, 0, 6), (7, 0, 6), (11, 0, 6), (6, 0, 6), (7, 1, 6), (11, 1, 6), (4, 0, 6), (7, 2, 6), (11, 2, 6), (7, 3, 6), (11, 3, 6), (1, 0, 6), (7, 4, 6), (11, 4, 6), (0, 0, 6), (7, 5, 6), (11, 5, 6), (7, 6, 6), (11, 6, 6), (7, 7, 6), (11, 7, 6), (7, 8, 6), (11, 8, 6), (7, 9, 6), (11, 9, 6), (3, 0, 7), (7, 0, 7), (11, 0, 7), (6, 0, 7), (7, 1, 7), (11, 1, 7), (4, 0, 7), (7, 2, 7), (11, 2, 7), (7, 3, 7), (11, 3, 7), (1, 0, 7), (7, 4, 7), (11, 4, 7), (0, 0, 7), (7, 5, 7), (11, 5, 7), (7, 6, 7), (11, 6, 7), (7, 7, 7), (11, 7, 7), (7, 8, 7), (11, 8, 7), (7, 9, 7), (11, 9, 7), (3, 0, 8), (7, 0, 8), (11, 0, 8), (6, 0, 8), (7, 1, 8), (11, 1, 8), (4, 0, 8), (7, 2, 8), (11, 2, 8), (7, 3, 8), (11, 3, 8), (1, 0, 8), (7, 4, 8), (11, 4, 8), (0, 0, 8), (7, 5, 8), (11, 5, 8), (7, 6, 8), (11, 6, 8), (7, 7, 8), (11, 7, 8), (7, 8, 8), (11, 8, 8), (7, 9, 8), (11, 9, 8), (3, 0, 9), (7, 0, 9), (11, 0, 9), (6, 0, 9), (7, 1, 9), (11, 1, 9), (4, 0, 9), (7, 2, 9), (11, 2, 9), (7, 3, 9), (11, 3, 9), (1, 0, 9), (7, 4, 9), (11, 4, 9), (0, 0, 9), (7, 5, 9), (11, 5, 9), (7, 6, 9), (11, 6, 9), (7, 7, 9), (11, 7, 9), (7, 8, 9), (11, 8, 9), (7, 9, 9), (11, 9, 9), (8, 0, 0), (3, 0, 10), (7, 0, 10), (11, 0, 10), (6, 0, 10), (7, 1, 10), (11, 1, 10), (4, 0, 10), (7, 2, 10), (11, 2, 10), (7, 3, 10), (11, 3, 10), (1, 0, 10), (7, 4, 10), (11, 4, 10), (0, 0, 10), (7, 5, 10), (11, 5, 10), (7, 6, 10), (11, 6, 10), (7, 7, 10), (11, 7, 10), (7, 8, 10), (11, 8, 10), (7, 9, 10), (11, 9, 10), (8, 0, 1), (3, 0, 11), (7, 0, 11), (11, 0, 11), (6, 0, 11), (7, 1, 11), (11, 1, 11), (4, 0, 11), (7, 2, 11), (11, 2, 11), (7, 3, 11), (11, 3, 11), (1, 0, 11), (7, 4, 11), (11, 4, 11), (0, 0, 11), (7, 5, 11), (11, 5, 11), (7, 6, 11), (11, 6, 11), (7, 7, 11), (11, 7, 11), (7, 8, 11), (11, 8, 11), (7, 9, 11), (11, 9, 11), (7, 11, 0), (11, 11, 0), (7, 12, 0), (11, 12, 0), (10, 0, 0), (11, 20, 0), (11, 21, 0), (11, 22, 0), (11, 23, 0), (11, 24, 0), (12, 0, 0), (11, 25, 0), (11, 26, 0), (11, 27, 0), (11, 28, 0), (11, 29, 0), (11, 30, 0), (11, 31, 0)]
theorem allR_len : allR.length = 326 := by decide +kernel
theorem allR_nd : allR.Nodup := by decide +kernel
def adr (r : RF) : Nat := allR.idxOf r
theorem adr_get {r : RF} (h : r ∈ allR) : allR[adr r]? = some r := by
  have h1 : adr r < allR.length := List.idxOf_lt_length_of_mem h
  rw [List.getElem?_eq_getElem h1]
  exact congrArg some (List.getElem_idxOf h1)
theorem adr_inj {r r' : RF} (h : r ∈ allR) (h' : r' ∈ allR) (e : adr r = adr r') : r = r' := by
  have h1 := adr_get h
  rw [e, adr_get h'] at h1
  exact (Option.some.inj h1).symm
theorem nd_inj {i j : Nat} {r : RF} (h1 : allR[i]? = some r) (h2 : allR[j]? = some r) : i = j := by
  obtain ⟨hi, e1⟩ := List.getElem?_eq_some_iff.mp h1
  obtain ⟨hj, e2⟩ := List.getElem?_eq_some_iff.mp h2
  have hp := List.pairwise_iff_getElem.mp allR_nd
  rcases Nat.lt_trichotomy i j with h | h | h
  · exact absurd (e1.trans e2.symm) (hp i j hi hj h)
  · exact h
  · exact absurd (e2.trans e1.symm) (hp j i hj hi h)
theorem adr_of {i : Nat} {r : RF} (h : allR[i]? = some r) : adr r = i := nd_inj (adr_get (List.mem_of_getElem? h)) h
/-- the classes of the arrays: of numbers, of truth values, of machines -/
abbrev GG : Type := ClassId × ClassId × ClassId
def fv (B : Nat) (hp : HP) (r : RF) (k : Nat) : Value := if fK r.1 k = 2 then .ref (B + adr (fref r k)) else .int (hp r k)
def ent (B : Nat) (G : GG) (hp : HP) (r : RF) : va_E :=
  if r.1 ≤ 10 then .inr (r.1, (List.range (nF r.1)).map (fv B hp r))
  else if r.1 = 11 then .inl (G.1, alen r, .inl (hp r))
  else if r.1 = 12 then .inl (G.2.1, 2, .inl (hp r))
  else .inl (G.2.2, 8, .inr (.inr (.inr (.inr fun i => some (B + adr (3, 0, 2 + i))))))
def World (B : Nat) (G : GG) (hp : HP) : va_W := allR.mapIdx fun i r => (B + i, ent B G hp r)
theorem World_at {B : Nat} {G : GG} {hp : HP} {i : Nat} : (World B G hp)[i]? = (allR[i]?).map (fun r => (B + i, ent B G hp r)) := by
  unfold World
  rw [List.getElem?_mapIdx]
theorem World_get {B : Nat} {G : GG} {hp : HP} {r : RF} (h : r ∈ allR) : (World B G hp)[adr r]? = some (B + adr r, ent B G hp r) := by
  rw [World_at, adr_get h]
  rfl
theorem World_set {B : Nat} {G : GG} {hp hp' : HP} {r : RF} (h : r ∈ allR) (hk : ∀ r' ∈ allR, r' ≠ r → ent B G hp' r' = ent B G hp r') : (World B G hp).set (adr r) (B + adr r, ent B G hp' r) = World B G hp' := by
  apply List.ext_getElem?
  intro i
  by_cases hi : adr r = i
  · subst hi
    have hl : adr r < (World B G hp).length := (List.getElem?_eq_some_iff.mp (World_get h)).1
    rw [List.getElem?_set_self hl, World_get h]
  · rw [List.getElem?_set_ne hi, World_at, World_at]
    cases hr : allR[i]? with
    | none => rfl
    | some r' =>
      have hne : r' ≠ r := fun e => hi (by rw [← e]; exact adr_of hr)
      show some (B + i, ent B G hp r') = some (B + i, ent B G hp' r')
      rw [hk r' (List.mem_of_getElem? hr) hne]
theorem ent_obj {B : Nat} {G : GG} {hp : HP} {r : RF} (h : r.1 ≤ 10) : ent B G hp r = .inr (r.1, (List.range (nF r.1)).map (fv B hp r)) := by
  unfold ent
  rw [if_pos h]
theorem ent_int {B : Nat} {G : GG} {hp : HP} {r : RF} (h : r.1 = 11) : ent B G hp r = .inl (G.1, alen r, .inl (hp r)) := by
  unfold ent
  rw [if_neg (by omega), if_pos h]
theorem ent_boo {B : Nat} {G : GG} {hp : HP} {r : RF} (h : r.1 = 12) : ent B G hp r = .inl (G.2.1, 2, .inl (hp r)) := by
  unfold ent
  rw [if_neg (by omega), if_neg (by omega), if_pos h]
theorem ent_ref {B : Nat} {G : GG} {hp : HP} {r : RF} (h : r.1 = 13) : ent B G hp r = .inl (G.2.2, 8, .inr (.inr (.inr (.inr fun i => some (B + adr (3, 0, 2 + i)))))) := by
  unfold ent
  rw [if_neg (by omega), if_neg (by omega), if_neg (by omega)]
theorem fv_off {B : Nat} {hp hp' : HP} {r : RF} (h : ∀ k, hp' r k = hp r k) (k : Nat) : fv B hp' r k = fv B hp r k := by
  unfold fv
  rw [h k]
theorem ent_off {B : Nat} {G : GG} {hp hp' : HP} {r : RF} (h : ∀ k, hp' r k = hp r k) : ent B G hp' r = ent B G hp r := by
  have h1 : fv B hp' r = fv B hp r := funext (fv_off h)
  have h2 : hp' r = hp r := funext h
  unfold ent
  rw [h1, h2]
theorem up_ne {hp : HP} {r r' : RF} {k : Nat} {x : Int32} (h : r' ≠ r) (j : Nat) : up hp r k x r' j = hp r' j := by
  unfold up
  rw [if_neg (fun q => h q.1)]
theorem up_self {hp : HP} {r : RF} {k : Nat} {x : Int32} : up hp r k x r = upd (hp r) k x := by
  funext j
  unfold up upd
  by_cases h : j = k <;> simp [h]
theorem set_fv {B : Nat} {hp : HP} {r : RF} {k : Nat} {x : Int32} (hk : fK r.1 k ≠ 2) : ((List.range (nF r.1)).map (fv B hp r)).set k (.int x) = (List.range (nF r.1)).map (fv B (up hp r k x) r) := by
  apply List.ext_getElem?
  intro i
  by_cases hi : k = i
  · subst hi
    by_cases hl : k < nF r.1
    · rw [List.getElem?_set_self (by simpa using hl), List.getElem?_map, List.getElem?_range hl]
      show some (Value.int x) = some (fv B (up hp r k x) r k)
      unfold fv
      rw [if_neg hk, up_self]
      simp [upd]
    · rw [List.getElem?_eq_none (by simp; omega), List.getElem?_eq_none (by simp; omega)]
  · rw [List.getElem?_set_ne hi, List.getElem?_map, List.getElem?_map]
    by_cases hl : i < nF r.1
    · rw [List.getElem?_range hl]
      show some (fv B hp r i) = some (fv B (up hp r k x) r i)
      unfold fv
      rw [up_self]
      simp [upd, Ne.symm hi]
    · rw [List.getElem?_eq_none (by simp; omega)]
      rfl
/-- an own cell: the address of a value -/
def toV (B : Nat) (adK : Nat → Nat) (v : VL) : Value := match v with
  | .inl x => .int x
  | .inr (.inl r) => .ref (if r.1 = 20 then adK r.2.1 else B + adr r)
  | .inr (.inr (.inl x)) => .double x
  | .inr (.inr (.inr x)) => .float x
def okR (r : RF) : Prop := (r.1 = 20 ∧ r.2.1 < 5) ∨ (r.1 ≠ 20 ∧ r ∈ allR)
def okV (v : VL) : Prop := match v with
  | .inr (.inl r) => okR r
  | _ => True
theorem fref_ok : ∀ r ∈ allR, ∀ k, k < nF r.1 → fK r.1 k = 2 → ((fref r k).1 ≠ 20 ∧ fref r k ∈ allR) := by
  have key : ∀ r ∈ allR, ∀ k, k < nF r.1 → fK r.1 k = 2 → ((fref r k).1 ≠ 20 ∧ allR.contains (fref r k) = true) := by decide +kernel
  intro r hr k hk h2
  obtain ⟨h3, h4⟩ := key r hr k hk h2
  exact ⟨h3, by simpa using h4⟩
theorem kept_ok : ∀ i, i < 8 → okR (3, 0, 2 + i) := by
  have key : ∀ i, i < 8 → allR.contains ((3, 0, 2 + i) : RF) = true := by decide +kernel
  intro i hi
  exact Or.inr ⟨fun e => absurd e (by show ¬ (3 : Nat) = 20; decide), by simpa using key i hi⟩
theorem allR_cls : ∀ r ∈ allR, r.1 ≤ 13 := by decide +kernel
