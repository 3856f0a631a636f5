/-! ===== the world while it is made ===== -/
section BLD
abbrev ab (B : Nat) : Nat → Prop := fun q => B ≤ q
def PW (B k : Nat) (E : Nat → va_E) : va_W := (List.range k).map (fun j => (B + j, E j))
def updE (E : Nat → va_E) (i : Nat) (e : va_E) : Nat → va_E := fun j => if j = i then e else E j
def mixE (i : Nat) (E T : Nat → va_E) : Nat → va_E := fun j => if j < i then E j else T j
variable {B k i : Nat} {E E' T : Nat → va_E}
theorem updE_s {e : va_E} : updE E i e i = e := if_pos rfl
theorem updE_n {e : va_E} {j : Nat} (h : j ≠ i) : updE E i e j = E j := if_neg h
theorem updE_updE {e e' : va_E} : updE (updE E i e) i e' = updE E i e' := by
  funext j
  unfold updE
  by_cases h : j = i
  · rw [if_pos h, if_pos h]
  · rw [if_neg h, if_neg h, if_neg h]
theorem updE_id {e : va_E} (h : E i = e) : updE E i e = E := by
  funext j
  unfold updE
  by_cases q : j = i
  · rw [if_pos q, q, h]
  · rw [if_neg q]
theorem mixE_l {j : Nat} (h : j < i) : mixE i E T j = E j := if_pos h
theorem mixE_g {j : Nat} (h : i ≤ j) : mixE i E T j = T j := if_neg (by omega)
theorem PW_at {j : Nat} (h : j < k) : (PW B k E)[j]? = some (B + j, E j) := by
  unfold PW
  rw [List.getElem?_map, List.getElem?_range h]
  rfl
theorem PW_len : (PW B k E).length = k := by unfold PW; rw [List.length_map, List.length_range]
theorem PW_inv {j : Nat} {q : Nat × va_E} (h : (PW B k E)[j]? = some q) : j < k ∧ q = (B + j, E j) := by
  have hj : j < k := by
    have := (List.getElem?_eq_some_iff.mp h).1
    rw [PW_len] at this
    exact this
  rw [PW_at hj] at h
  exact ⟨hj, (Option.some.inj h).symm⟩
theorem PW_D : va_D (ab B) (PW B k E) := by
  refine ⟨fun i j p q hi hj hpq => ?_, fun k' q hq => ?_⟩
  · obtain ⟨_, rfl⟩ := PW_inv hi
    obtain ⟨_, rfl⟩ := PW_inv hj
    have : B + i = B + j := hpq
    omega
  · obtain ⟨_, rfl⟩ := PW_inv hq
    exact Nat.le_add_right B k'
theorem PW_congr (h : ∀ j, j < k → E j = E' j) : PW B k E = PW B k E' := by
  apply List.ext_getElem?
  intro j
  by_cases hj : j < k
  · rw [PW_at hj, PW_at hj, h j hj]
  · rw [List.getElem?_eq_none (by rw [PW_len]; omega), List.getElem?_eq_none (by rw [PW_len]; omega)]
theorem PW_push {e : va_E} : PW B k E ++ [(B + k, e)] = PW B (k + 1) (updE E k e) := by
  apply List.ext_getElem?
  intro j
  rcases Nat.lt_trichotomy j k with hj | hj | hj
  · rw [List.getElem?_append_left (by rw [PW_len]; exact hj), PW_at hj, PW_at (by omega), updE_n (by omega)]
  · subst hj
    rw [List.getElem?_append_right (by rw [PW_len]; exact Nat.le_refl _), PW_len, Nat.sub_self, PW_at (by omega), updE_s]
    rfl
  · rw [List.getElem?_eq_none (by rw [List.length_append, PW_len]; simp; omega), List.getElem?_eq_none (by rw [PW_len]; omega)]
theorem PW_set {e : va_E} (hi : i < k) : (PW B k E).set i (B + i, e) = PW B k (updE E i e) := by
  apply List.ext_getElem?
  intro j
  by_cases hj : i = j
  · subst hj
    rw [List.getElem?_set_self (by rw [PW_len]; exact hi), PW_at hi, updE_s]
  · rw [List.getElem?_set_ne hj]
    by_cases hl : j < k
    · rw [PW_at hl, PW_at hl, updE_n (by omega)]
    · rw [List.getElem?_eq_none (by rw [PW_len]; omega), List.getElem?_eq_none (by rw [PW_len]; omega)]
/-- a row of zeros; a row of references -/
def zI (cA : ClassId) (N : Nat) : va_E := Sum.inl (cA, N, Sum.inl (fun _ => (0 : Int32)))
def zQ (cA : ClassId) (N : Nat) (f : Nat → Option Nat) : va_E := Sum.inl (cA, N, Sum.inr (Sum.inr (Sum.inr (Sum.inr f))))
/-- a new object's fields -/
def dfl (c : Nat) : List Value := (List.range (nF c)).map (fun k => if fK c k = 2 then Value.null else .int 0)
theorem dfl_ok : ∀ a, a < 11 → ∀ j, j < nF a → defaultValue (tyT a j) = vp_V (dfl a) j := by decide +kernel
def nwC : List Jvm.Cond := [.methodLinkNest RX9 20 yX3_init "TypebarMachine", .methodLinkNest RX2 17 yX3_init "TypebarMachine", .methodLinkNest RX9 46 yX8_init "TypebarMachine", .methodLinkNest RX8 9 yX3_init "TypebarMachine"]
theorem nwC_in : ∀ w ∈ nwC, w ∈ tables_1 := by decide +kernel
def KC (D : va_G) (G : GG) (U : State) : Prop := va_K D vwCl [(G.1, .int), (G.2.1, .boolean), (G.2.2, .object RX3)] U ∧ (∀ w ∈ nwC, va_Nw w U) ∧ va_AO RX3 U
theorem KC.warm {D : va_G} {G : GG} {s U : State} (h : KC D G s) (hW : s.WarmedH U.vm) : KC D G U := by
  refine ⟨h.1.moved hW.alike, fun w hw => ?_, h.2.2.moved hW.alike⟩
  have h0 := h.2.1 w hw
  simp only [nwC, List.mem_cons, List.not_mem_nil, or_false] at hw
  rcases hw with rfl | rfl | rfl | rfl <;> exact va_Nw.warmM hW h0
def rmC (d cells slots : Nat) : Room := { frames := d, cells := cells, slots := slots, locals := 36 * d }
/-- words of the constructors -/
def bwW : List Jvm.Cond := [.instanceMethod objectInit, .code objectInit ⟨#[0xb1]⟩ 1 none, .arrayClass .int, .arrayClass .boolean, .static Lib.Math.max.name, .initialized "java/lang/Math", .code Lib.Math.max.name Lib.Math.max.code 2 (some .int)]
theorem bwW_in : ∀ w ∈ bwW, w ∈ lwG := by
  have key : (bwW.all (fun w => decide (w ∈ lw_tbl) && goodWord w)) = true := by decide +kernel
  intro w hw
  have h := List.all_eq_true.mp key w hw
  simp only [Bool.and_eq_true, decide_eq_true_eq] at h
  exact List.mem_filter.mpr h
theorem bwW_at {w : Jvm.Cond} (i : Nat) (h : bwW[i]? = some w) : w ∈ lwG := bwW_in w (List.mem_of_getElem? h)
theorem clsW : ∀ a, a < 11 → Jvm.Cond.instantiable (clsN a) (nF a) ∈ lwG ∧ Jvm.Cond.initialized (clsN a) ∈ lwG := by
  have key : ∀ a, a < 11 → ((decide (Jvm.Cond.instantiable (clsN a) (nF a) ∈ lw_tbl) && goodWord (Jvm.Cond.instantiable (clsN a) (nF a))) && (decide (Jvm.Cond.initialized (clsN a) ∈ lw_tbl) && goodWord (Jvm.Cond.initialized (clsN a)))) = true := by decide +kernel
  intro a ha
  have h := key a ha
  simp only [Bool.and_eq_true, decide_eq_true_eq] at h
  exact ⟨List.mem_filter.mpr h.1, List.mem_filter.mpr h.2⟩
end BLD
